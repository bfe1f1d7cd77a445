/-! the class lets go -/
theorem em_up {L : Nat → Bool} {row k o f j i x : Nat} {A : tA} (h : j ≠ row) : upA (emq L row k o f A) j i x = emq L row k o f (upA A j i x) := by
  funext j' i'
  by_cases c : j' = j ∧ i' = i
  · rw [c.1, c.2, upA_s, emq_o h, upA_s]
  · rw [upA_n _ _ (by omega)]
    unfold emq
    by_cases d : j' = row ∧ ((L (i' / 12) = true ∧ i' / 12 < k) ∨ (i' / 12 = o ∧ i' % 12 < f))
    · rw [if_pos d, if_pos d]
    · rw [if_neg d, if_neg d, upA_n _ _ (by omega)]
theorem emw_up {L : Nat → Bool} {row k o f j i : Nat} {x : Int32} {V : tV} (h : j ≠ row) : up2 (emw L row k o f V) j i x = emw L row k o f (up2 V j i x) := by
  funext j' i'
  by_cases c : j' = j ∧ i' = i
  · rw [c.1, c.2, up2_s, emw_o h, up2_s]
  · rw [up2_n _ _ (by omega)]
    unfold emw
    by_cases d : j' = row ∧ ((L (i' / 12) = true ∧ i' / 12 < k) ∨ (i' / 12 = o ∧ i' % 12 < f))
    · rw [if_pos d, if_pos d]
    · rw [if_neg d, if_neg d, up2_n _ _ (by omega)]
theorem em_gv {L : Nat → Bool} {k o f n x : Nat} {A : tA} : gvA (emq L 5 k o f A) n x = emq L 5 k o f (gvA A n x) := by
  unfold gvA apA
  rw [emq_o (j := 9) (by omega), em_up (j := 9) (by omega), emq_o (j := 0) (by omega), em_up (j := 12) (by omega), em_up (j := 13) (by omega), em_up (j := 14) (by omega), em_up (j := 15) (by omega), em_up (j := 16) (by omega), em_up (j := 0) (by omega)]
theorem emw_gv {L : Nat → Bool} {k o f : Nat} {A : tA} {V : tV} : gvV (emq L 5 k o f A) (emw L 6 k o f V) = emw L 6 k o f (gvV A V) := by
  unfold gvV
  rw [emq_o (j := 0) (by omega), emw_up (j := 17) (by omega)]
theorem em_gvp {L U : Nat → Bool} {k o f c : Nat} {A : tA} {V : tV} : ∀ m, gvp U c m (emq L 5 k o f A, emw L 6 k o f V) = (emq L 5 k o f (gvp U c m (A, V)).1, emw L 6 k o f (gvp U c m (A, V)).2) := by
  intro m
  induction m with
  | zero => rfl
  | succ m ih =>
    cases h : U (c + m) with
    | true =>
      simp only [gvp, h, if_true]
      rw [ih, em_gv, emw_gv]
    | false =>
      simp only [gvp, h]
      exact ih
theorem gvp_none {U : Nat → Bool} {c : Nat} {s : tA × tV} : ∀ k, (∀ i, c ≤ i → i < c + k → U i = false) → gvp U c k s = s := by
  intro k
  induction k with
  | zero => intro _; rfl
  | succ k ih =>
    intro h
    have := h (c + k) (by omega) (by omega)
    simp only [gvp, this]
    exact ih (fun i h1 h2 => h i h1 (by omega))
theorem emq_le {L : Nat → Bool} {row k : Nat} {A : tA} : ∀ d, (∀ o, k ≤ o → o < k + d → L o = false) → emq L row k 0 0 A = emq L row (k + d) 0 0 A := by
  intro d
  induction d with
  | zero => intro _; rfl
  | succ d ih =>
    intro h
    rw [ih (fun o h1 h2 => h o h1 (by omega)), emq_k (h (k + d) (by omega) (by omega))]
    rfl
theorem emw_le {L : Nat → Bool} {row k : Nat} {V : tV} : ∀ d, (∀ o, k ≤ o → o < k + d → L o = false) → emw L row k 0 0 V = emw L row (k + d) 0 0 V := by
  intro d
  induction d with
  | zero => intro _; rfl
  | succ d ih =>
    intro h
    rw [ih (fun o h1 h2 => h o h1 (by omega)), emw_k (h (k + d) (by omega) (by omega))]
    rfl
theorem WF_em {L : Nat → Bool} {k N cl : Nat} {A : tA} {V : tV} (h : WF A V N cl) : WF (emq L 5 k 0 0 A) (emw L 6 k 0 0 V) N cl := by
  have hr : ∀ j, j ≠ 5 → emq L 5 k 0 0 A j = A j := fun j hj => funext (fun i => emq_o hj)
  have hv : ∀ j, j ≠ 6 → emw L 6 k 0 0 V j = V j := fun j hj => funext (fun i => emw_o hj)
  have e : emq L 5 k 0 0 A = (fun j i => if j = 5 then emq L 5 k 0 0 A 5 i else A j i) := by
    funext j i
    by_cases c : j = 5
    · rw [if_pos c, c]
    · rw [if_neg c, hr j c]
  obtain ⟨h1, wR, wF, wT, wW, wE, wM, wTo, wI⟩ := h
  rw [e]
  refine ⟨h1, fun n a hn ha => ?_, fun o ho ht => ?_, wT, wW, wE, ?_, wTo, wI⟩
  · rw [hv 8 (by omega)]
    exact wR n a hn ha
  · obtain ⟨q1, q2, q3⟩ := wF o ho ht
    refine ⟨q1, fun f hf => ?_, fun f hf1 hf2 => ?_⟩
    · have hf' : f < 12 := Nat.lt_of_lt_of_le hf q1
      show okv _ N (o / 24) (emq L 5 k 0 0 A 5 (12 * o + f)) (emw L 6 k 0 0 V 6 (12 * o + f))
      unfold emq emw
      by_cases c : L o = true ∧ o < k
      · rw [if_pos ⟨rfl, Or.inl (by rw [show (12 * o + f) / 12 = o by omega]; exact c)⟩, if_pos ⟨rfl, Or.inl (by rw [show (12 * o + f) / 12 = o by omega]; exact c)⟩]
        exact Or.inl ⟨rfl, rfl⟩
      · have hc : ¬ ((L ((12 * o + f) / 12) = true ∧ (12 * o + f) / 12 < k) ∨ ((12 * o + f) / 12 = 0 ∧ (12 * o + f) % 12 < 0)) := by
          rw [show (12 * o + f) / 12 = o by omega]
          rintro (w | w)
          · exact c w
          · omega
        rw [if_neg (fun w => hc w.2), if_neg (fun w => hc w.2)]
        exact q2 f hf
    · show emq L 5 k 0 0 A 5 (12 * o + f) = 0 ∧ emw L 6 k 0 0 V 6 (12 * o + f) = 0
      have := q3 f hf1 hf2
      unfold emq emw
      constructor
      · split
        · rfl
        · exact this.1
      · split
        · rfl
        · exact this.2
  · refine ⟨wM.1, fun i hi => ?_⟩
    have := wM.2 i hi
    unfold okm at this ⊢
    rw [hv 17 (by omega)]
    exact this
section LG
variable {b p N : Nat} {pi : Nat → Nat} {A : tA} {V : tV} {od : Nat → Nat → Nat} {q : Nat → Nat} {Gr O : Nat → Prop} {L U : Nat → Bool}
/-- one object's fields -/
theorem SIM_em {gn gn' : tN} {gp : tV} {B : tA} {W : tV} {n k : Nat} (hn : n < N) (hk : k < 24) (hs : B 1 (24 * n + k) ≤ 12) (ht : B 4 (24 * n + k) = 1) (hz : ∀ f, B 1 (24 * n + k) ≤ f → f < 12 → B 5 (12 * (24 * n + k) + f) = 0 ∧ W 6 (12 * (24 * n + k) + f) = 0) (hL : L (24 * n + k) = true) (h : SIM (emq L 5 (24 * n + k) 0 0 B) (emw L 6 (24 * n + k) 0 0 W) N gn gp pi od q) (g1 : ∀ m j i, ¬ (m = n ∧ (j = 1 ∨ j = 2) ∧ 6 + 12 * k ≤ i ∧ i < 6 + 12 * k + B 1 (24 * n + k)) → gn' m j i = gn m j i) (g2 : ∀ f, f < B 1 (24 * n + k) → gn' n 1 (6 + 12 * k + f) = 0 ∧ gn' n 2 (6 + 12 * k + f) = 0) : SIM (emq L 5 (24 * n + k + 1) 0 0 B) (emw L 6 (24 * n + k + 1) 0 0 W) N gn' gp pi od q := by
  have hr : ∀ k j, j ≠ 5 → emq L 5 k 0 0 B j = B j := fun k j hj => funext (fun i => emq_o hj)
  have hv : ∀ k j, j ≠ 6 → emw L 6 k 0 0 W j = W j := fun k j hj => funext (fun i => emw_o hj)
  have oth : ∀ o f, f < 12 → o ≠ 24 * n + k → emq L 5 (24 * n + k + 1) 0 0 B 5 (12 * o + f) = emq L 5 (24 * n + k) 0 0 B 5 (12 * o + f) ∧ emw L 6 (24 * n + k + 1) 0 0 W 6 (12 * o + f) = emw L 6 (24 * n + k) 0 0 W 6 (12 * o + f) := fun o f hf ho => by
    have key : ((L ((12 * o + f) / 12) = true ∧ (12 * o + f) / 12 < 24 * n + k + 1) ∨ ((12 * o + f) / 12 = 0 ∧ (12 * o + f) % 12 < 0)) ↔ ((L ((12 * o + f) / 12) = true ∧ (12 * o + f) / 12 < 24 * n + k) ∨ ((12 * o + f) / 12 = 0 ∧ (12 * o + f) % 12 < 0)) := by
      rw [show (12 * o + f) / 12 = o by omega]
      constructor
      · rintro (w | w)
        · exact Or.inl ⟨w.1, by omega⟩
        · exact Or.inr w
      · rintro (w | w)
        · exact Or.inl ⟨w.1, by omega⟩
        · exact Or.inr w
    unfold emq emw
    refine ⟨?_, ?_⟩ <;> simp only [key]
  have hmsE : msE (emq L 5 (24 * n + k) 0 0 B, emw L 6 (24 * n + k) 0 0 W) (emq L 5 (24 * n + k + 1) 0 0 B, emw L 6 (24 * n + k + 1) 0 0 W) := ⟨congrFun ((hr (24 * n + k + 1) 0 (by omega)).trans (hr (24 * n + k) 0 (by omega)).symm) 2, (hr (24 * n + k + 1) 9 (by omega)).trans (hr (24 * n + k) 9 (by omega)).symm, (hr (24 * n + k + 1) 12 (by omega)).trans (hr (24 * n + k) 12 (by omega)).symm, (hr (24 * n + k + 1) 13 (by omega)).trans (hr (24 * n + k) 13 (by omega)).symm, (hr (24 * n + k + 1) 14 (by omega)).trans (hr (24 * n + k) 14 (by omega)).symm, (hr (24 * n + k + 1) 15 (by omega)).trans (hr (24 * n + k) 15 (by omega)).symm, (hr (24 * n + k + 1) 16 (by omega)).trans (hr (24 * n + k) 16 (by omega)).symm, (hv (24 * n + k + 1) 17 (by omega)).trans (hv (24 * n + k) 17 (by omega)).symm⟩
  obtain ⟨hN, hP, hM⟩ := h
  refine ⟨fun m hm => ?_, SP_ext hP hmsE, hM⟩
  by_cases c : m = n
  · subst c
    obtain ⟨s1, s2, s3, s4, s5, s6, s7⟩ := hN m hm
    have himp : imp (emq L 5 (24 * m + k + 1) 0 0 B) m = imp (emq L 5 (24 * m + k) 0 0 B) m := by
      unfold imp; rw [hr _ 9 (by omega), hr _ 9 (by omega)]
    refine ⟨fun a ha => ?_, fun k' f hk' hf ht' => ?_, fun k' f hk' hf ht' => ?_, fun k' hk' => ?_, fun o ho => ?_, fun i hi => ?_, ?_⟩
    · rw [g1 m 1 a (by omega), g1 m 2 a (by omega), hr _ 7 (by omega), hv _ 8 (by omega)]
      have := s1 a ha
      rw [hr _ 7 (by omega), hv _ 8 (by omega)] at this
      exact this
    · by_cases d : k' = k
      · subst d
        have hv1 : emq L 5 (24 * m + k' + 1) 0 0 B 5 (12 * (24 * m + k') + f) = 0 := by
          unfold emq
          rw [if_pos ⟨rfl, Or.inl (by rw [show (12 * (24 * m + k') + f) / 12 = 24 * m + k' by omega]; exact ⟨hL, by omega⟩)⟩]
        have hv2 : emw L 6 (24 * m + k' + 1) 0 0 W 6 (12 * (24 * m + k') + f) = 0 := by
          unfold emw
          rw [if_pos ⟨rfl, Or.inl (by rw [show (12 * (24 * m + k') + f) / 12 = 24 * m + k' by omega]; exact ⟨hL, by omega⟩)⟩]
        rw [hv1, hv2, ckd0]
        by_cases e : f < B 1 (24 * m + k')
        · exact g2 f e
        · rw [g1 m 1 _ (by omega), g1 m 2 _ (by omega)]
          have hs2 := s2 k' f hk' hf (by rw [hr _ 4 (by omega)]; exact ht)
          have u1 : emq L 5 (24 * m + k') 0 0 B 5 (12 * (24 * m + k') + f) = 0 := by
            unfold emq
            rw [if_neg (by rw [show (12 * (24 * m + k') + f) / 12 = 24 * m + k' by omega]; omega)]
            exact (hz f (by omega) hf).1
          have u2 : emw L 6 (24 * m + k') 0 0 W 6 (12 * (24 * m + k') + f) = 0 := by
            unfold emw
            rw [if_neg (by rw [show (12 * (24 * m + k') + f) / 12 = 24 * m + k' by omega]; omega)]
            exact (hz f (by omega) hf).2
          rw [u1, u2, ckd0] at hs2
          exact hs2
      · rw [g1 m 1 _ (by omega), g1 m 2 _ (by omega), (oth (24 * m + k') f hf (by omega)).1, (oth (24 * m + k') f hf (by omega)).2]
        refine s2 k' f hk' hf ?_
        rw [hr _ 4 (by omega)] at ht' ⊢
        exact ht'
    · have hne : k' ≠ k := fun w => by subst w; rw [hr _ 4 (by omega)] at ht'; exact ht' ht
      rw [g1 m 1 _ (by omega), g1 m 2 _ (by omega)]
      refine s3 k' f hk' hf ?_
      rw [hr _ 4 (by omega)] at ht' ⊢
      exact ht'
    · rw [g1 m 3 _ (by omega), g1 m 4 _ (by omega), g1 m 5 _ (by omega), hr _ 4 (by omega), hr _ 1 (by omega), hr _ 2 (by omega), hr _ 3 (by omega)]
      have := s4 k' hk'
      rw [hr _ 4 (by omega), hr _ 1 (by omega), hr _ 2 (by omega), hr _ 3 (by omega)] at this
      exact this
    · rw [g1 m 6 _ (by omega), hr _ 9 (by omega)]
      have := s5 o ho
      rw [hr _ 9 (by omega)] at this
      exact this
    · rw [g1 m 7 _ (by omega)]
      exact s6 i hi
    · rw [g1 m 0 0 (by omega), g1 m 0 1 (by omega), g1 m 0 2 (by omega), g1 m 0 3 (by omega), himp, hr _ 10 (by omega), hv _ 11 (by omega)]
      have := s7
      rw [hr _ 10 (by omega), hv _ 11 (by omega)] at this
      exact this
  · refine SN_ext (hN m hm) (funext (fun j => funext (fun i => g1 m j i (by omega)))) (fun k' _ => by rw [hr _ 1 (by omega), hr _ 1 (by omega)]) (fun k' _ => by rw [hr _ 2 (by omega), hr _ 2 (by omega)]) (by rw [hr _ 3 (by omega), hr _ 3 (by omega)]) (fun k' _ => by rw [hr _ 4 (by omega), hr _ 4 (by omega)]) (fun k' f hk' hf _ => oth (24 * m + k') f hf (by omega)) (by rw [hr _ 7 (by omega), hr _ 7 (by omega)]) (by rw [hr _ 9 (by omega), hr _ 9 (by omega)]) (by rw [hr _ 10 (by omega), hr _ 10 (by omega)]) (by rw [hv _ 8 (by omega), hv _ 8 (by omega)]) (by rw [hv _ 11 (by omega), hv _ 11 (by omega)])
/-- one node lets go -/
theorem eC_letGo {fu n cl mg mo : Nat} {eg eo : Nat → Nat} {gn : tN} {gp : tV} (hfu : 2000 ≤ fu) (hp : b + 2 + 8 * N ≤ p) (hn : n < N) (hWf : WF A V N cl) (hG : MK gp 66 mg eg) (hO : MK gp 69 mo eo) (gG : ∀ x, x < 120 → (inM gp 66 x ↔ Gr x)) (gO : ∀ x, x < 120 → (inM gp 69 x ↔ O x)) (hL : ∀ o, o < 120 → (L o = true ↔ A 4 o = 1 ∧ Gr o ∧ ¬ O o)) (hGd : ∀ x, Gr x → gd A N x) (hU : ∀ m x, m < 5 → x < 120 → (U (120 * m + x) = true ↔ inr A V N Gr O m x)) (h60 : A 0 2 + cnt U 600 ≤ 60)
    (hS : SIM (emq L 5 (24 * n) 0 0 (gvp U 0 (120 * n) (A, V)).1) (emw L 6 (24 * n) 0 0 (gvp U 0 (120 * n) (A, V)).2) N gn gp pi od q) :
    ∃ gn' gp', (∀ f1, mX4_letGo fu (mkC b p N gn gp pi f1) (p + 65) (b + 2 + 8 * n) p = some (mkC b p N gn' gp' pi f1)) ∧ SIM (emq L 5 (24 * (n + 1)) 0 0 (gvp U 0 (120 * (n + 1)) (A, V)).1) (emw L 6 (24 * (n + 1)) 0 0 (gvp U 0 (120 * (n + 1)) (A, V)).2) N gn' gp' pi od q ∧ ∀ j, 62 ≤ j → j < 72 → gp' j = gp j := by
  obtain ⟨⟨h11, hN1, hN5⟩, wR, wF, wT, wW, wE, wM, wTo, wI⟩ := hWf
  have Bo : ∀ c j, ¬ (12 ≤ j ∧ j ≤ 16) → j ≠ 0 → j ≠ 9 → (gvp U 0 c (A, V)).1 j = A j := fun c j a1 a2 a3 => gvp_o a1 a2 a3 c
  have Bv : ∀ c j, j ≠ 17 → (gvp U 0 c (A, V)).2 j = V j := fun c j a1 => gvp_V a1 c
  have hr : ∀ k (B : tA) j, j ≠ 5 → emq L 5 k 0 0 B j = B j := fun k B j hj => funext (fun i => emq_o hj)
  have hv : ∀ k (W : tV) j, j ≠ 6 → emw L 6 k 0 0 W j = W j := fun k W j hj => funext (fun i => emw_o hj)
  have hS0 := hS.1 n hn
  -- the node's slots are as they were
  have hslt : SLT A V n gn := by
    refine ⟨fun a ha => ?_, fun k f hk hf ht => ?_, fun k hk => ?_⟩
    · have := hS0.1 a ha
      rw [hr _ _ 7 (by omega), hv _ _ 8 (by omega), Bo _ 7 (by omega) (by omega) (by omega), Bv _ 8 (by omega)] at this
      exact this
    · have := hS0.2.1 k f hk hf (by rw [hr _ _ 4 (by omega), Bo _ 4 (by omega) (by omega) (by omega)]; exact ht)
      have u1 : emq L 5 (24 * n) 0 0 (gvp U 0 (120 * n) (A, V)).1 5 (12 * (24 * n + k) + f) = A 5 (12 * (24 * n + k) + f) := by
        unfold emq
        rw [if_neg (by rw [show (12 * (24 * n + k) + f) / 12 = 24 * n + k by omega]; omega), Bo _ 5 (by omega) (by omega) (by omega)]
      have u2 : emw L 6 (24 * n) 0 0 (gvp U 0 (120 * n) (A, V)).2 6 (12 * (24 * n + k) + f) = V 6 (12 * (24 * n + k) + f) := by
        unfold emw
        rw [if_neg (by rw [show (12 * (24 * n + k) + f) / 12 = 24 * n + k by omega]; omega), Bv _ 6 (by omega)]
      rw [u1, u2] at this
      exact this
    · have := hS0.2.2.2.1 k hk
      rw [hr _ _ 4 (by omega), hr _ _ 1 (by omega), Bo _ 4 (by omega) (by omega) (by omega), Bo _ 1 (by omega) (by omega) (by omega)] at this
      exact ⟨fun ht => (this.1 ht).1, this.2.1⟩
  obtain ⟨g1, c1, c2, c3⟩ := eC_holders (b := b) (p := p) (N := N) (gn := gn) (pi := pi) (Gr := Gr) (O := O) hfu hp hN5 hn hslt wR wF hG hO gG gO
  have hSM : ∀ g : tV, (∀ j, 62 ≤ j → j < 72 → g j = gp j) → SM gp → SM g := fun g hg h => SM_ext h hg
  have hS1 : SIM (emq L 5 (24 * n) 0 0 (gvp U 0 (120 * n) (A, V)).1) (emw L 6 (24 * n) 0 0 (gvp U 0 (120 * n) (A, V)).2) N gn g1 pi od q := by
    refine scr_SIM (scr_refl _) ?_ (fun j hj => c3 j (by omega)) (hSM g1 (fun j h1 h2 => c3 j (by omega)) hS.2.2) hS
    rw [hr _ _ 0 (by omega)]
    have := gvp_0 (U := U) (c := 0) (s := (A, V)) (120 * n)
    have ec : cnt (fun x => U (0 + x)) (120 * n) = cnt U (120 * n) := cnt_ext (fun x _ => by rw [Nat.zero_add])
    have hle : cnt U (120 * n) ≤ cnt U 600 := by rw [cnt_sm, cnt_sm]; exact sm_mono (by omega)
    rw [this, ec]
    show A 0 2 + _ ≤ 60
    omega
  -- giving back
  obtain ⟨⟨gn2, gp2⟩, h6, h7⟩ := lupI (S := tN × tV) (T := jM → Option jM) (fun n' x s f1 => mX4_letGo_L7 fu (p + 65) (b + 2 + 8 * n) p n' (nI x) (mkC b p N s.1 s.2 pi f1)) (fun s f1 => mX4_letGo_L37 fu (p + 65) (b + 2 + 8 * n) fu (nI 0) (mkC b p N s.1 s.2 pi f1)) 120 (fun x s => SIM (emq L 5 (24 * n) 0 0 (gvp U 0 (120 * n + x) (A, V)).1) (emw L 6 (24 * n) 0 0 (gvp U 0 (120 * n + x) (A, V)).2) N s.1 s.2 pi od q ∧ ∀ j, 62 ≤ j → s.2 j = g1 j)
    (by
      intro n' s _
      funext f1
      rw [mX4_letGo_L7, i120, if_pos (nI_le (Nat.le_refl _) (by omega)), i0])
    (by
      intro n' x s hx ⟨s1, s2⟩
      obtain ⟨g, gq⟩ := s
      dsimp only at s1 s2
      have hu := hU n x (by omega) hx
      have e72 : gq 72 x = g1 72 x := by rw [s2 72 (by omega)]
      have ev : ∀ f1, mX4_letGo_L7 fu (p + 65) (b + 2 + 8 * n) p (n' + 1) (nI x) (mkC b p N g gq pi f1) = if g1 72 x = 1 then (mX2_giveBack (mkC b p N g gq pi f1) (b + 2 + 8 * n) (nI x) p).bind fun f6 => mX4_letGo_L7 fu (p + 65) (b + 2 + 8 * n) p n' (nI (x + 1)) f6 else mX4_letGo_L7 fu (p + 65) (b + 2 + 8 * n) p n' (nI (x + 1)) (mkC b p N g gq pi f1) := by
        intro f1
        rw [mX4_letGo_L7, i120, if_neg (nI_ge hx (by omega))]
        simp (disch := omega) only [cT2, cTl72, gl_nI, Option.bind_some, e72, cchk2, nI_1]
      cases hUx : U (120 * n + x) with
      | true =>
        have hin := hu.mp hUx
        have h1 : g1 72 x = 1 := by
          rcases c2 x hx with ⟨w1, w2⟩ | ⟨w1, w2, w3⟩ | ⟨w1, w2, w3⟩
          · exact absurd w2 hin.2
          · exact w1
          · exact absurd hin.1 w3
        have e9 : emq L 5 (24 * n) 0 0 (gvp U 0 (120 * n + x) (A, V)).1 9 (120 * n + x) = A 9 (120 * n + x) := by
          rw [emq_o (by omega), gvp_9, if_neg (by omega)]
        have h9 : 0 < A 9 (120 * n + x) := by
          obtain ⟨⟨-, w1, o, w2, w3, w4, w5, w6⟩, -⟩ := hin
          have := (fH_gd hN5 wF w2 w6).2
          rw [w3] at this
          exact this.resolve_left w1
        have hb := bndW (n := n) wE wTo (by omega) hx
        have hb2 := bndT wTo hx
        have e0 : (gvp U 0 (120 * n + x) (A, V)).1 0 2 = A 0 2 + cnt (fun y => U (0 + y)) (120 * n + x) := gvp_0 _
        have ec : cnt (fun y => U (0 + y)) (120 * n + x) = cnt U (120 * n + x) := cnt_ext (fun y _ => by rw [Nat.zero_add])
        have hc1 : cnt U (120 * n + x + 1) = cnt U (120 * n + x) + 1 := by simp only [cnt, hUx, if_true]
        have hle : cnt U (120 * n + x + 1) ≤ cnt U 600 := by rw [cnt_sm, cnt_sm]; exact sm_mono (by omega)
        obtain ⟨g', gq', t1, t2, t3⟩ := eC_gives (cl := cl) hp hN5 s1 (by rw [emq_o (by omega)]; omega) hn hx (by rw [e9]; exact h9) (by rw [e9]; omega)
        refine ⟨(g', gq'), ⟨?_, fun j hj => (t3 j hj).trans (s2 j hj)⟩, ?_⟩
        · have hU0 : U (0 + (120 * n + x)) = true := by rw [Nat.zero_add]; exact hUx
          have e1 : gvp U 0 (120 * n + (x + 1)) (A, V) = (gvA (gvp U 0 (120 * n + x) (A, V)).1 n x, gvV (gvp U 0 (120 * n + x) (A, V)).1 (gvp U 0 (120 * n + x) (A, V)).2) := by
            show gvp U 0 (120 * n + x + 1) (A, V) = _
            simp only [gvp, hU0, if_true, Nat.zero_add]
            rw [hUx, if_pos rfl, show (120 * n + x) / 120 = n by omega, show (120 * n + x) % 120 = x by omega]
          rw [e1]
          rw [em_gv, emw_gv] at t2
          exact t2
        · funext f1
          show mX4_letGo_L7 fu (p + 65) (b + 2 + 8 * n) p (n' + 1) (nI x) (mkC b p N g gq pi f1) = _
          rw [ev, if_pos h1, t1]
          rfl
      | false =>
        have h1 : ¬ g1 72 x = 1 := by
          rcases c2 x hx with ⟨w1, w2⟩ | ⟨w1, w2, w3⟩ | ⟨w1, w2, w3⟩
          · rw [w1]; decide
          · have := hu.mpr ⟨w3, w2⟩
            rw [hUx] at this
            exact absurd this (by decide)
          · rw [w1]; decide
        refine ⟨(g, gq), ⟨?_, s2⟩, ?_⟩
        · have hU0 : U (0 + (120 * n + x)) = false := by rw [Nat.zero_add]; exact hUx
          have e1 : gvp U 0 (120 * n + (x + 1)) (A, V) = gvp U 0 (120 * n + x) (A, V) := by
            show gvp U 0 (120 * n + x + 1) (A, V) = _
            simp only [gvp, hU0]
            rfl
          rw [e1]
          exact s1
        · funext f1
          show mX4_letGo_L7 fu (p + 65) (b + 2 + 8 * n) p (n' + 1) (nI x) (mkC b p N g gq pi f1) = _
          rw [ev, if_neg h1])
    fu (gn, g1) (by omega) ⟨hS1, fun _ _ => rfl⟩
  obtain ⟨s1, s2⟩ := h6
  dsimp only at s1 s2 h7
  rw [show 120 * n + 120 = 120 * (n + 1) by omega] at s1
  have gl : ∀ j, 62 ≤ j → j < 72 → gp2 j = gp j := fun j h1 h2 => by rw [s2 j h1, c3 j (by omega)]
  have hG2 : MK gp2 66 mg eg := MK_ext hG (gl _ (by omega) (by omega)) (gl _ (by omega) (by omega)) (gl _ (by omega) (by omega))
  have hO2 : MK gp2 69 mo eo := MK_ext hO (gl _ (by omega) (by omega)) (gl _ (by omega) (by omega)) (gl _ (by omega) (by omega))
  generalize hB : gvp U 0 (120 * (n + 1)) (A, V) = B at *
  have Bo' : ∀ j, ¬ (12 ≤ j ∧ j ≤ 16) → j ≠ 0 → j ≠ 9 → B.1 j = A j := fun j a1 a2 a3 => by rw [← hB]; exact Bo _ j a1 a2 a3
  have Bv' : ∀ j, j ≠ 17 → B.2 j = V j := fun j a1 => by rw [← hB]; exact Bv _ j a1
  -- emptying
  obtain ⟨gn3, h8, h9⟩ := lupI (S := tN) (T := jM → Option jM) (fun n' k g f1 => mX4_letGo_L37 fu (p + 65) (b + 2 + 8 * n) n' (nI k) (mkC b p N g gp2 pi f1)) (fun g f1 => some (mkC b p N g gp2 pi f1)) 24 (fun k g => SIM (emq L 5 (24 * n + k) 0 0 B.1) (emw L 6 (24 * n + k) 0 0 B.2) N g gp2 pi od q)
    (by
      intro n' g _
      funext f1
      rw [mX4_letGo_L37, i24, if_pos (nI_le (Nat.le_refl _) (by omega))])
    (by
      intro n' k g hk s
      have hx : 24 * n + k < 120 := by omega
      have hl := hL (24 * n + k) hx
      have ev : ∀ f1, mX4_letGo_L37 fu (p + 65) (b + 2 + 8 * n) (n' + 1) (nI k) (mkC b p N g gp2 pi f1) = if gp (66 + 1) (24 * n + k) = 1 ∧ ¬ gp (69 + 1) (24 * n + k) = 1 then (mX2_emptyFields fu (mkC b p N g gp2 pi f1) (b + 2 + 8 * n) (nI k)).bind fun f12 => mX4_letGo_L37 fu (p + 65) (b + 2 + 8 * n) n' (nI (k + 1)) f12 else mX4_letGo_L37 fu (p + 65) (b + 2 + 8 * n) n' (nI (k + 1)) (mkC b p N g gp2 pi f1) := by
        intro f1
        rw [mX4_letGo_L37, i24, if_neg (nI_ge hk (by omega))]
        simp only [cTchk, Option.bind_some, eC_isLetGo hp hN5 hn hk hG2 hO2, cchk2 hp hn, nI_1]
        rw [gl (66 + 1) (by omega) (by omega), gl (69 + 1) (by omega) (by omega)]
        by_cases c : gp (66 + 1) (24 * n + k) = 1 ∧ ¬ gp (69 + 1) (24 * n + k) = 1
        · rw [if_pos c, if_neg (by decide), if_pos c]
        · rw [if_neg c, if_pos rfl, if_neg c]
      by_cases c : gp (66 + 1) (24 * n + k) = 1 ∧ ¬ gp (69 + 1) (24 * n + k) = 1
      · have lg : Gr (24 * n + k) ∧ ¬ O (24 * n + k) := ⟨(gG _ hx).mp c.1, fun w => c.2 ((gO _ hx).mpr w)⟩
        have hgd := hGd _ lg.1
        have hLo := hl.mpr ⟨hgd.2, lg⟩
        obtain ⟨z1, z2, z3⟩ := wF (24 * n + k) hgd.1 hgd.2
        have hs3 : g n 3 k = nI (A 1 (24 * n + k)) := by
          have := ((s.1 n hn).2.2.2.1 k hk).1 (by rw [emq_o (by omega), Bo' 4 (by omega) (by omega) (by omega)]; exact hgd.2)
          rw [emq_o (by omega), Bo' 1 (by omega) (by omega) (by omega)] at this
          exact this.1
        obtain ⟨g', t1, t2, t3⟩ := eC_emptyFields (b := b) (gp := gp2) (pi := pi) (gn := g) hfu hp hn hk z1 hs3
        refine ⟨g', ?_, ?_⟩
        · refine SIM_em hn hk (by rw [Bo' 1 (by omega) (by omega) (by omega)]; exact z1) (by rw [Bo' 4 (by omega) (by omega) (by omega)]; exact hgd.2) (fun f f1 f2 => ?_) hLo s (fun m j i w => t2 m j i ?_) (fun f f1 => t3 f ?_)
          · rw [Bo' 1 (by omega) (by omega) (by omega)] at f1
            rw [Bo' 5 (by omega) (by omega) (by omega), Bv' 6 (by omega)]
            exact z3 f f1 f2
          · rw [Bo' 1 (by omega) (by omega) (by omega)] at w
            exact w
          · rw [Bo' 1 (by omega) (by omega) (by omega)] at f1
            exact f1
        · funext f1
          show mX4_letGo_L37 fu (p + 65) (b + 2 + 8 * n) (n' + 1) (nI k) (mkC b p N g gp2 pi f1) = _
          rw [ev, if_pos c, t1]
          rfl
      · have hLf : L (24 * n + k) = false := by
          cases h : L (24 * n + k) with
          | false => rfl
          | true =>
            have := hl.mp h
            exact absurd ⟨(gG _ hx).mpr this.2.1, fun w => this.2.2 ((gO _ hx).mp w)⟩ c
        refine ⟨g, ?_, ?_⟩
        · show SIM (emq L 5 (24 * n + k + 1) 0 0 B.1) (emw L 6 (24 * n + k + 1) 0 0 B.2) N g gp2 pi od q
          rw [← emq_k hLf, ← emw_k hLf]
          exact s
        · funext f1
          show mX4_letGo_L37 fu (p + 65) (b + 2 + 8 * n) (n' + 1) (nI k) (mkC b p N g gp2 pi f1) = _
          rw [ev, if_neg c])
    fu gn2 (by omega) s1
  refine ⟨gn3, gp2, fun f1 => ?_, ?_, gl⟩
  · unfold mX4_letGo
    simp only [cTchk, Option.bind_some, c1]
    have e7 := congrFun h7 f1
    have e9 := congrFun h9 f1
    rw [i0, e7, e9]
  · rw [show 24 * (n + 1) = 24 * n + 24 by omega]
    exact h8
end LG
