/-! collect: the reference frees and slides -/
def frA (A : tA) (n : Nat) (mkd : Nat → Bool) (i : Nat) : tA := fun j x => if j = 4 ∧ x / 24 = n ∧ x % 24 < i ∧ mkd x = false then 0 else A j x
def slA (A : tA) (n : Nat) (k ad : Nat → Nat) : Nat → tA
  | 0 => A
  | t + 1 => upA (slA A n k ad t) 2 (24 * n + k t) (ad t)
theorem slA_o {A : tA} {n j : Nat} {k ad : Nat → Nat} (hj : j ≠ 2) : ∀ t, slA A n k ad t j = A j := by
  intro t
  induction t with
  | zero => rfl
  | succ t ih =>
    funext i
    show upA _ 2 _ _ j i = _
    rw [upA_n _ _ (Or.inl hj), ih]
theorem slA_2 {A : tA} {n : Nat} {k ad : Nat → Nat} : ∀ t i, (∀ t', t' < t → i ≠ 24 * n + k t') → slA A n k ad t 2 i = A 2 i := by
  intro t
  induction t with
  | zero => intro i _; rfl
  | succ t ih =>
    intro i h
    show upA _ 2 _ _ 2 i = _
    rw [upA_n _ _ (Or.inr (h t (by omega)))]
    exact ih i (fun t' ht => h t' (by omega))
theorem slA_at {A : tA} {n : Nat} {k ad : Nat → Nat} {T : Nat} (hinj : ∀ a b, a < T → b < T → k a = k b → a = b) : ∀ t, t ≤ T → ∀ t', t' < t → slA A n k ad t 2 (24 * n + k t') = ad t' := by
  intro t
  induction t with
  | zero => intro _ t' h; omega
  | succ t ih =>
    intro hT t' h
    show upA _ 2 _ _ 2 _ = _
    by_cases c : t' = t
    · rw [c, upA_s]
    · rw [upA_n _ _ (Or.inr (fun w => c (hinj t' t (by omega) (by omega) (by omega))))]
      exact ih (by omega) t' (by omega)
section SL
variable {M N : Nat} {V : tV}
/-- the least address from a place on -/
theorem eR_min {fu n frm : Nat} {a : tA} {k4 : Int32 → Int32 → jM → Option jM} {v2 : Int32} {f2 : jM} (hfu : 2000 ≤ fu) (hn : n < 5) (h1 : ∀ k, k < 24 → a 4 (24 * n + k) ≤ 1 ∧ (a 4 (24 * n + k) = 1 → a 2 (24 * n + k) ≤ 160)) (hfrm : frm ≤ 2000) :
    ((∀ k, k < 24 → ¬ (a 4 (24 * n + k) = 1 ∧ frm ≤ a 2 (24 * n + k))) ∧ mX6_slides_L20 fu k4 M (nI n) v2 (nI frm) fu (-1) (nI 0) (mkR M (toR a V) f2) = mX6_slides_B180 fu M (nI n) v2 (mkR M (toR a V) f2)) ∨
    ∃ k0, k0 < 24 ∧ (a 4 (24 * n + k0) = 1 ∧ frm ≤ a 2 (24 * n + k0)) ∧ (∀ k, k < 24 → (a 4 (24 * n + k) = 1 ∧ frm ≤ a 2 (24 * n + k)) → a 2 (24 * n + k0) ≤ a 2 (24 * n + k)) ∧ mX6_slides_L20 fu k4 M (nI n) v2 (nI frm) fu (-1) (nI 0) (mkR M (toR a V) f2) = (if nI (a 2 (24 * n + k0)) = v2 then mX6_slides_B157 fu k4 M (nI n) v2 (nI (a 2 (24 * n + k0) + a 1 (24 * n + k0) + 1)) (nI (24 * n + k0)) (mkR M (toR a V) f2) else mX6_slides_B157 fu k4 M (nI n) v2 (nI (a 2 (24 * n + k0) + a 1 (24 * n + k0) + 1)) (nI (24 * n + k0)) (mkR M (toR a (up2 V 11 n (V 11 n + nI (a 1 (24 * n + k0) + 1)))) f2)) := by
  obtain ⟨v4, h6, h7⟩ := lupI (S := Int32) (T := Option jM) (fun n' i v => mX6_slides_L20 fu k4 M (nI n) v2 (nI frm) n' v (nI i) (mkR M (toR a V) f2)) (fun v => mX6_slides_L20 fu k4 M (nI n) v2 (nI frm) 1 v (nI 24) (mkR M (toR a V) f2)) 24 (fun i v => (v = -1 ∧ ∀ k, k < i → ¬ (a 4 (24 * n + k) = 1 ∧ frm ≤ a 2 (24 * n + k))) ∨ ∃ k0, k0 < i ∧ v = nI (24 * n + k0) ∧ (a 4 (24 * n + k0) = 1 ∧ frm ≤ a 2 (24 * n + k0)) ∧ ∀ k, k < i → (a 4 (24 * n + k) = 1 ∧ frm ≤ a 2 (24 * n + k)) → a 2 (24 * n + k0) ≤ a 2 (24 * n + k))
    (by
      intro n' v _
      rw [mX6_slides_L20, mX6_slides_L20, i24, if_pos (nI_le (Nat.le_refl _) (by omega)), if_pos (nI_le (Nat.le_refl _) (by omega))])
    (by
      intro n' i v hi hv
      obtain ⟨t1, t2⟩ := h1 i hi
      by_cases c1 : a 4 (24 * n + i) = 1
      · have hb := t2 c1
        by_cases c2 : frm ≤ a 2 (24 * n + i)
        · -- a candidate
          have take : mX6_slides_L20 fu k4 M (nI n) v2 (nI frm) (n' + 1) v (nI i) (mkR M (toR a V) f2) = if v = -1 then mX6_slides_L20 fu k4 M (nI n) v2 (nI frm) n' (nI (24 * n + i)) (nI (i + 1)) (mkR M (toR a V) f2) else ((rdR 6 (mkR M (toR a V) f2) M 3).bind fun x27 => (ldI 0 (mkR M (toR a V) f2) x27 v).bind fun x28 => if x28 ≤ nI (a 2 (24 * n + i)) then mX6_slides_L20 fu k4 M (nI n) v2 (nI frm) n' v (nI (i + 1)) (mkR M (toR a V) f2) else mX6_slides_L20 fu k4 M (nI n) v2 (nI frm) n' (nI (24 * n + i)) (nI (i + 1)) (mkR M (toR a V) f2)) := by
            rw [mX6_slides_L20, i24, if_neg (nI_ge hi (by omega))]
            unfold mX6_slides_B86
            simp (disch := omega) only [Option.bind_some, nI_mul, nI_add, rR5, rl4, gl_nI, tR4, c1, rR3, rl2, tR2, nI_1, i24]
            rw [if_neg (by decide), if_neg (nI_nlt (by omega) (by omega))]
          rcases hv with ⟨hv, hno⟩ | ⟨k0, p1, p2, p3, p4⟩
          · refine ⟨nI (24 * n + i), Or.inr ⟨i, by omega, rfl, ⟨c1, c2⟩, fun k hk hc => ?_⟩, ?_⟩
            · by_cases d : k = i
              · rw [d]; exact Nat.le_refl _
              · exact absurd hc (hno k (by omega))
            · show mX6_slides_L20 fu k4 M (nI n) v2 (nI frm) (n' + 1) v (nI i) (mkR M (toR a V) f2) = _
              rw [take, if_pos hv]
          · have hb0 := (h1 k0 (by omega)).2 p3.1
            have hv1 : ¬ v = -1 := by rw [p2]; exact nI_m1 (by omega)
            by_cases d : a 2 (24 * n + k0) ≤ a 2 (24 * n + i)
            · refine ⟨v, Or.inr ⟨k0, by omega, p2, p3, fun k hk hc => ?_⟩, ?_⟩
              · by_cases d' : k = i
                · rw [d']; exact d
                · exact p4 k (by omega) hc
              · show mX6_slides_L20 fu k4 M (nI n) v2 (nI frm) (n' + 1) v (nI i) (mkR M (toR a V) f2) = _
                rw [take, if_neg hv1, p2]
                simp (disch := omega) only [rR3, rl2, gl_nI, tR2, Option.bind_some]
                rw [if_pos (nI_le d (by omega))]
            · refine ⟨nI (24 * n + i), Or.inr ⟨i, by omega, rfl, ⟨c1, c2⟩, fun k hk hc => ?_⟩, ?_⟩
              · by_cases d' : k = i
                · rw [d']; exact Nat.le_refl _
                · have := p4 k (by omega) hc
                  omega
              · show mX6_slides_L20 fu k4 M (nI n) v2 (nI frm) (n' + 1) v (nI i) (mkR M (toR a V) f2) = _
                rw [take, if_neg hv1, p2]
                simp (disch := omega) only [rR3, rl2, gl_nI, tR2, Option.bind_some]
                rw [if_neg (nI_ge (by omega) (by omega))]
        · refine ⟨v, ?_, ?_⟩
          · rcases hv with ⟨hv, hno⟩ | ⟨k0, p1, p2, p3, p4⟩
            · refine Or.inl ⟨hv, fun k hk hc => ?_⟩
              by_cases d : k = i
              · subst d; exact c2 hc.2
              · exact hno k (by omega) hc
            · refine Or.inr ⟨k0, by omega, p2, p3, fun k hk hc => ?_⟩
              by_cases d : k = i
              · subst d; exact absurd hc.2 c2
              · exact p4 k (by omega) hc
          · show mX6_slides_L20 fu k4 M (nI n) v2 (nI frm) (n' + 1) v (nI i) (mkR M (toR a V) f2) = _
            rw [mX6_slides_L20, i24, if_neg (nI_ge hi (by omega))]
            simp (disch := omega) only [Option.bind_some, nI_mul, nI_add, rR5, rl4, gl_nI, tR4, c1, rR3, rl2, tR2, nI_1]
            rw [if_neg (by decide), if_pos (nI_lt (by omega) (by omega))]
      · refine ⟨v, ?_, ?_⟩
        · rcases hv with ⟨hv, hno⟩ | ⟨k0, p1, p2, p3, p4⟩
          · refine Or.inl ⟨hv, fun k hk hc => ?_⟩
            by_cases d : k = i
            · subst d; exact c1 hc.1
            · exact hno k (by omega) hc
          · refine Or.inr ⟨k0, by omega, p2, p3, fun k hk hc => ?_⟩
            by_cases d : k = i
            · subst d; exact absurd hc.1 c1
            · exact p4 k (by omega) hc
        · show mX6_slides_L20 fu k4 M (nI n) v2 (nI frm) (n' + 1) v (nI i) (mkR M (toR a V) f2) = _
          rw [mX6_slides_L20, i24, if_neg (nI_ge hi (by omega))]
          simp (disch := omega) only [Option.bind_some, nI_mul, nI_add, rR5, rl4, gl_nI, tR4, nI_1]
          rw [show a 4 (24 * n + i) = 0 by omega, if_pos (by decide)])
    fu (-1) (by omega) (Or.inl ⟨rfl, fun k hk => absurd hk (by omega)⟩)
  rcases h6 with ⟨hv, hno⟩ | ⟨k0, p1, p2, p3, p4⟩
  · refine Or.inl ⟨hno, ?_⟩
    rw [h7, hv, mX6_slides_L20, i24, if_pos (nI_le (Nat.le_refl _) (by omega)), if_pos rfl]
  · refine Or.inr ⟨k0, p1, p3, p4, ?_⟩
    have hb0 := (h1 k0 (by omega)).2 p3.1
    rw [h7, p2, mX6_slides_L20, i24, if_pos (nI_le (Nat.le_refl _) (by omega)), if_neg (nI_m1 (by omega))]
    simp (disch := omega) only [rR3, rl2, rR2, rl1, gl_nI, tR2, tR1, Option.bind_some, nI_add, nI_1, rR12, rl11, tR11, rs11, gs_nI, uR11]
end SL
