/-! message -/
def fq (A : tA) (x y : Int32) (i : Nat) : Bool := decide (nI (A 12 i) = x ∧ nI (A 13 i) = y)
theorem cl_find {b p N fu : Nat} {A : tA} {V : tV} {gn : tN} {gp : tV} {pi : Nat → Nat} {f1 : jM} (hfu : 2000 ≤ fu) (hP : SP A V gp pi) (hms : A 0 2 ≤ 60) (x y z : Int32) :
    (∃ i, i < A 0 2 ∧ (fq A x y i = true ∧ nI (cnt (fq A x y) i) = z) ∧ (∀ k, k < i → ¬ (fq A x y k = true ∧ nI (cnt (fq A x y) k) = z)) ∧ mX3_find fu (mkC b p N gn gp pi f1) p x y z = some (some (p + 2 + pi i), mkC b p N gn gp pi f1)) ∨
    ((∀ k, k < A 0 2 → ¬ (fq A x y k = true ∧ nI (cnt (fq A x y) k) = z)) ∧ mX3_find fu (mkC b p N gn gp pi f1) p x y z = some (none, mkC b p N gn gp pi f1)) := by
  obtain ⟨p1, p2, p3, p4⟩ := hP
  have := lsr0 (fun k i => mX3_find_L6 fu p x y z k (nI (cnt (fq A x y) i)) (nI i) (mkC b p N gn gp pi f1)) (A 0 2) (fun i => fq A x y i = true ∧ nI (cnt (fq A x y) i) = z) (fun i => some (some (p + 2 + pi i), mkC b p N gn gp pi f1)) (some (none, mkC b p N gn gp pi f1)) fu (by omega)
    (by
      intro k _
      rw [mX3_find_L6]
      simp only [cP1, Option.bind_some, p1]
      rw [if_pos (nI_le (Nat.le_refl _) (by omega))])
    (by
      intro k i hi _ hP
      have hq := of_decide_eq_true hP.1
      rw [mX3_find_L6]
      simp (disch := omega) only [cP1, cP0, cLat, Option.bind_some, p1]
      rw [if_neg (nI_ge hi (by omega))]
      have hpi := p2 i (by omega)
      simp only [cLg1 hpi, cLg2 hpi, Option.bind_some, (p4 i hi).2.1, (p4 i hi).2.2.1]
      rw [if_pos hq.1, if_pos hq.2, if_pos hP.2])
    (by
      intro k i hi hP
      have hP := hP i (Nat.le_refl _)
      rw [mX3_find_L6]
      simp (disch := omega) only [cP1, cP0, cLat, Option.bind_some, p1]
      rw [if_neg (nI_ge hi (by omega))]
      have hpi := p2 i (by omega)
      simp only [cLg1 hpi, cLg2 hpi, Option.bind_some, (p4 i hi).2.1, (p4 i hi).2.2.1, nI_1]
      by_cases e : nI (A 12 i) = x
      · rw [if_pos e]
        by_cases e' : nI (A 13 i) = y
        · have hq : fq A x y i = true := decide_eq_true ⟨e, e'⟩
          rw [if_pos e', if_neg (fun w => hP ⟨hq, w⟩)]
          simp only [cnt, hq, if_true]
        · have hq : ¬ fq A x y i = true := fun w => e' (of_decide_eq_true w).2
          rw [if_neg e']
          simp only [cnt, hq, if_false, Nat.add_zero]
          rfl
      · have hq : ¬ fq A x y i = true := fun w => e (of_decide_eq_true w).1
        rw [if_neg e]
        simp only [cnt, hq, if_false, Nat.add_zero]
        rfl)
  exact this
def msA (A : tA) (V : tV) (i : Nat) (w : Int32) : Int32 := if w = 0 then nI (A 14 i) else if w = 1 then nI (100 * (A 15 i / 24) + A 15 i % 24) else if w = 2 then nI (A 16 i) else V 17 i
theorem rf_find {M fu c : Nat} {A : tA} {V : tV} {f2 : jM} (hfu : 2000 ≤ fu) (hms : A 0 2 ≤ 60) (ho : ∀ i, i < A 0 2 → A 15 i < 120) (hc : c < 2 ^ 31) (x y w : Int32) :
    (∃ i, i < A 0 2 ∧ (fq A x y i = true ∧ cnt (fq A x y) i = c) ∧ (∀ k, k < i → ¬ (fq A x y k = true ∧ cnt (fq A x y) k = c)) ∧ mX6_message_L39 fu M x y w fu (nI c) 0 (mkR M (toR A V) f2) = some (msA A V i w, mkR M (toR A V) f2)) ∨
    ((∀ k, k < A 0 2 → ¬ (fq A x y k = true ∧ cnt (fq A x y) k = c)) ∧ mX6_message_L39 fu M x y w fu (nI c) 0 (mkR M (toR A V) f2) = some (-1, mkR M (toR A V) f2)) := by
  have := lsr0 (fun k i => mX6_message_L39 fu M x y w k (nI (c - cnt (fq A x y) i)) (nI i) (mkR M (toR A V) f2)) (A 0 2) (fun i => fq A x y i = true ∧ cnt (fq A x y) i = c) (fun i => some (msA A V i w, mkR M (toR A V) f2)) (some (-1, mkR M (toR A V) f2)) fu (by omega)
    (by
      intro k _
      rw [mX6_message_L39]
      simp only [rI13, tR0, Option.bind_some]
      rw [if_pos (nI_le (Nat.le_refl _) (by omega))])
    (by
      intro k i hi _ hP
      have hq := of_decide_eq_true hP.1
      have ho := ho i hi
      rw [mX6_message_L39]
      rw [rI13, Option.bind_some, tR0, if_neg (nI_ge hi (by omega)), rR14, Option.bind_some, rl12, gl_nI (show i < 64 by omega) (by omega), Option.bind_some, tR12, if_pos hq.1, rR15, Option.bind_some, rl13, gl_nI (show i < 64 by omega) (by omega), Option.bind_some, tR13, if_pos hq.2, hP.2, Nat.sub_self, if_pos (by decide)]
      unfold msA
      by_cases w0 : w = 0
      · rw [if_pos w0, if_pos w0]
        simp (disch := omega) only [rR16, rl14, gl_nI, tR14, Option.bind_some]
      · rw [if_neg w0, if_neg w0]
        by_cases w1 : w = 1
        · rw [if_pos w1, if_pos w1]
          simp (disch := omega) only [rR17, rl15, gl_nI, tR15, Option.bind_some]
          rw [i24, i100, nI_rem (by omega), nI_div (by omega) (by decide) (by decide), nI_mul, nI_add]
        · rw [if_neg w1, if_neg w1]
          by_cases w2 : w = 2
          · rw [if_pos w2, if_pos w2]
            simp (disch := omega) only [rR18, rl16, gl_nI, tR16, Option.bind_some]
          · rw [if_neg w2, if_neg w2]
            simp (disch := omega) only [rR19, rl17, gl_nI, tR17, Option.bind_some])
    (by
      intro k i hi hP
      have hle := cnt_first (Q := fq A x y) (c := c) i (fun k hk => hP k (by omega))
      have hP := hP i (Nat.le_refl _)
      rw [mX6_message_L39]
      rw [rI13, Option.bind_some, tR0, if_neg (nI_ge hi (by omega)), rR14, Option.bind_some, rl12, gl_nI (show i < 64 by omega) (by omega), Option.bind_some, tR12, rR15, Option.bind_some, rl13, gl_nI (show i < 64 by omega) (by omega), Option.bind_some, tR13, nI_1]
      by_cases e : nI (A 12 i) = x
      · rw [if_pos e]
        by_cases e' : nI (A 13 i) = y
        · have hq : fq A x y i = true := decide_eq_true ⟨e, e'⟩
          have hlt : cnt (fq A x y) i < c := Nat.lt_of_le_of_ne hle (fun w => hP ⟨hq, w⟩)
          rw [if_pos e', if_neg (nI_nle (by omega) (by omega)), show c - cnt (fq A x y) i = (c - cnt (fq A x y) i - 1) + 1 by omega, pk_m1]
          simp only [cnt, hq, if_true]
          rw [show c - (cnt (fq A x y) i + 1) = c - cnt (fq A x y) i - 1 by omega]
        · have hq : ¬ fq A x y i = true := fun w => e' (of_decide_eq_true w).2
          rw [if_neg e']
          simp only [cnt, hq, if_false, Nat.add_zero]
          rfl
      · have hq : ¬ fq A x y i = true := fun w => e (of_decide_eq_true w).1
        rw [if_neg e]
        simp only [cnt, hq, if_false, Nat.add_zero]
        rfl)
  exact this
theorem nI_idx {n N : Nat} {x : Int32} (hn : n < N) (hN : N < 2 ^ 31) (e : nI n = x) (h : x < 0 ∨ nI N ≤ x) : False := by
  subst e
  rcases h with h | h
  · exact nI_pos (by omega) h
  · exact nI_ge hn hN h
theorem q_message {b p M N cl fu : Nat} {f0 f : jM} (hfu : 2000 ≤ fu) (hl : Lay b p M N) (hI : Inv b p M N cl f0 f) (x y z w : Int32) : ∃ r, mX5_message fu f b x y z w = some (r, f) ∧ mX6_message fu f M x y z w = some (r, f) := by
  obtain ⟨A, V, gn, gp, pi, od, q, rfl, ⟨hSN, hSP, hSM⟩, ⟨⟨hA, hN1, hN5⟩, wR, wF, wT, wW, wE, wM, wTo, wI⟩, wL⟩ := hI
  have hp := hl.1
  have hms := wM.1
  have hr : ∀ r : Int32, mX5_message fu (mkC b p N gn gp pi (mkR M (toR A V) f0)) b x y z w = some (r, mkC b p N gn gp pi (mkR M (toR A V) f0)) → mX6_message fu (mkR M (toR A V) (mkC b p N gn gp pi f0)) M x y z w = some (r, mkR M (toR A V) (mkC b p N gn gp pi f0)) → ∃ r, mX5_message fu (mkC b p N gn gp pi (mkR M (toR A V) f0)) b x y z w = some (r, mkC b p N gn gp pi (mkR M (toR A V) f0)) ∧ mX6_message fu (mkC b p N gn gp pi (mkR M (toR A V) f0)) M x y z w = some (r, mkC b p N gn gp pi (mkR M (toR A V) f0)) := fun r h h' => ⟨r, h, by rw [swapCR hl]; exact h'⟩
  have ho : ∀ i, i < A 0 2 → A 15 i < 120 := fun i hi => by
    have := (wM.2 i hi).2.2.2.1
    omega
  -- the reference, over its tests
  have bad6 : ((x < 0 ∨ nI N ≤ x) ∨ (y < 0 ∨ nI N ≤ y) ∨ z < 0 ∨ (w < 0 ∨ ¬ w ≤ 3)) → mX6_message fu (mkR M (toR A V) (mkC b p N gn gp pi f0)) M x y z w = some (-1, mkR M (toR A V) (mkC b p N gn gp pi f0)) := by
    intro h
    unfold mX6_message
    rcases idx x (n := N) (by omega) with ⟨m, hm, rfl⟩ | hx
    · rcases idx y (n := N) (by omega) with ⟨n, hn, rfl⟩ | hy
      · simp only [rchk, Option.bind_some, eR_isNd hA hN5 hm, eR_isNd hA hN5 hn]
        rw [if_neg (by decide), if_neg (by decide)]
        by_cases hz : z < 0
        · rw [if_pos hz]
        · rw [if_neg hz]
          by_cases hw : w < 0
          · rw [if_pos hw]
          · rw [if_neg hw]
            by_cases hw3 : w ≤ 3
            · exfalso
              rcases h with h | h | h | h
              · exact nI_idx hm (by omega) rfl h
              · exact nI_idx hn (by omega) rfl h
              · exact hz h
              · exact h.elim hw (fun u => u hw3)
            · rw [if_neg hw3]
      · simp only [rchk, Option.bind_some, eR_isNd hA hN5 hm, eR_isNdX hA hy, if_true]
        rfl
    · simp only [rchk, Option.bind_some, eR_isNdX hA hx, if_true]
  have good6 : ∀ m n c, x = nI m → y = nI n → z = nI c → m < N → n < N → c < 2 ^ 31 → ¬ w < 0 → w ≤ 3 → mX6_message fu (mkR M (toR A V) (mkC b p N gn gp pi f0)) M x y z w = mX6_message_L39 fu M x y w fu z 0 (mkR M (toR A V) (mkC b p N gn gp pi f0)) := by
    intro m n c e1 e2 e3 hm hn hc h0 h3
    subst e1 e2 e3
    unfold mX6_message
    simp only [rchk, Option.bind_some, eR_isNd hA hN5 hm, eR_isNd hA hN5 hn]
    rw [if_neg (by decide), if_neg (by decide), if_neg (nI_pos hc), if_neg h0, if_pos h3]
  have w03 : ¬ w < 0 → w ≤ 3 → w = 0 ∨ w = 1 ∨ w = 2 ∨ w = 3 := by
    intro h0 h3
    rcases idx w (n := 4) (by decide) with ⟨j, hj, rfl⟩ | h
    · rcases (show j = 0 ∨ j = 1 ∨ j = 2 ∨ j = 3 by omega) with rfl | rfl | rfl | rfl
      · exact Or.inl (by decide)
      · exact Or.inr (Or.inl (by decide))
      · exact Or.inr (Or.inr (Or.inl (by decide)))
      · exact Or.inr (Or.inr (Or.inr (by decide)))
    · exact absurd (Int32.le_trans (h.resolve_left h0) h3) (by decide)
  rcases cl_find (b := b) (p := p) (N := N) (gn := gn) (f1 := mkR M (toR A V) f0) hfu hSP hms x y z with ⟨i, hi, hPi, hmin, hf⟩ | ⟨hno, hf⟩
  · obtain ⟨k1, k2, k3, k4, -⟩ := wM.2 i hi
    have hq := of_decide_eq_true hPi.1
    have hcl := cnt_le (fq A x y) i
    have hpi := hSP.2.1 i (by omega)
    have s4 := hSP.2.2.2 i hi
    have c5 : mX5_message fu (mkC b p N gn gp pi (mkR M (toR A V) f0)) b x y z w = some (if w = 0 ∨ w = 1 ∨ w = 2 ∨ w = 3 then msA A V i w else -1, mkC b p N gn gp pi (mkR M (toR A V) f0)) := by
      unfold mX5_message msA
      simp only [cF1 hp, cPchk, Option.bind_some, hf, jc1, cLg0 hpi, cLg3 hpi, cLg4 hpi, cLg5 hpi, s4.1, s4.2.2.2.1, s4.2.2.2.2.1, s4.2.2.2.2.2, eC_nameOf (show A 15 i < 2 ^ 31 by omega)]
      by_cases w0 : w = 0
      · simp [w0]
      · by_cases w1 : w = 1
        · simp [w1]
        · by_cases w2 : w = 2
          · simp [w2]
          · by_cases w3 : w = 3
            · simp [w3]
            · simp [w0, w1, w2, w3]
    by_cases hw : w < 0 ∨ ¬ w ≤ 3
    · have hw' : ¬ (w = 0 ∨ w = 1 ∨ w = 2 ∨ w = 3) := by
        rintro (rfl | rfl | rfl | rfl) <;> revert hw <;> decide
      rw [if_neg hw'] at c5
      exact hr _ c5 (bad6 (Or.inr (Or.inr (Or.inr hw))))
    · have h0 : ¬ w < 0 := fun u => hw (Or.inl u)
      have h3 : w ≤ 3 := Classical.byContradiction (fun u => hw (Or.inr u))
      rw [if_pos (w03 h0 h3)] at c5
      refine hr _ c5 ?_
      rw [good6 (A 12 i) (A 13 i) (cnt (fq A x y) i) hq.1.symm hq.2.symm hPi.2.symm k1 k2 (by omega) h0 h3, ← hPi.2]
      rcases rf_find (M := M) (V := V) (f2 := mkC b p N gn gp pi f0) (c := cnt (fq A x y) i) hfu hms ho (by omega) x y w with ⟨j, hj, hPj, hminj, h6⟩ | ⟨hno, -⟩
      · have : i = j := least_eq (P := fun k => fq A x y k = true ∧ cnt (fq A x y) k = cnt (fq A x y) i) ⟨hPi.1, rfl⟩ (fun k hk u => hmin k hk ⟨u.1, by rw [u.2]; exact hPi.2⟩) hPj hminj
        rw [h6, ← this]
      · exact absurd ⟨hPi.1, rfl⟩ (hno i hi)
  · have c5 : mX5_message fu (mkC b p N gn gp pi (mkR M (toR A V) f0)) b x y z w = some (-1, mkC b p N gn gp pi (mkR M (toR A V) f0)) := by
      unfold mX5_message
      simp only [cF1 hp, cPchk, Option.bind_some, hf, jc0]
    refine hr _ c5 ?_
    by_cases hb : ((x < 0 ∨ nI N ≤ x) ∨ (y < 0 ∨ nI N ≤ y) ∨ z < 0 ∨ (w < 0 ∨ ¬ w ≤ 3))
    · exact bad6 hb
    · rcases idx x (n := N) (by omega) with ⟨m, hm, hx⟩ | hx
      · rcases idx y (n := N) (by omega) with ⟨n, hn, hy⟩ | hy
        · obtain ⟨c, hc, hz⟩ := nI_of (x := z) (fun u => hb (Or.inr (Or.inr (Or.inl u))))
          rw [good6 m n c hx hy hz hm hn hc (fun u => hb (Or.inr (Or.inr (Or.inr (Or.inl u))))) (Classical.byContradiction (fun u => hb (Or.inr (Or.inr (Or.inr (Or.inr u))))))]
          rw [hz]
          rcases rf_find (M := M) (V := V) (f2 := mkC b p N gn gp pi f0) (c := c) hfu hms ho hc x y w with ⟨j, hj, hPj, hminj, h6⟩ | ⟨-, h6⟩
          · exact absurd ⟨hPj.1, by rw [hPj.2, hz]⟩ (hno j hj)
          · exact h6
        · exact absurd (Or.inr (Or.inl hy)) hb
      · exact absurd (Or.inl hx) hb
