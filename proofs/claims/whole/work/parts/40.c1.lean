/-! a message is taken out -/
def sk (i x : Nat) : Nat := if x < i then x else x + 1
theorem sm_sk {f : Nat → Nat} {i : Nat} : ∀ {n : Nat}, i ≤ n → sm (fun x => f (sk i x)) n + f i = sm f (n + 1) := by
  intro n
  induction n with
  | zero =>
    intro h
    rw [show i = 0 by omega]
    simp [sm]
  | succ n ih =>
    intro h
    by_cases e : i = n + 1
    · subst e
      have : sm (fun x => f (sk (n + 1) x)) (n + 1) = sm f (n + 1) := sm_ext (fun x hx => by simp only [sk, if_pos hx])
      rw [this]
      rfl
    · have := ih (by omega)
      show sm (fun x => f (sk i x)) n + f (sk i n) + f i = sm f (n + 1) + f (n + 1)
      have e2 : sk i n = n + 1 := by simp only [sk]; rw [if_neg (by omega)]
      rw [e2]
      omega
theorem cnt_sm {P : Nat → Bool} : ∀ {n : Nat}, cnt P n = sm (fun i => if P i then 1 else 0) n := by
  intro n
  induction n with
  | zero => rfl
  | succ n ih => simp only [cnt, sm, ih]
theorem cnt_sk {P : Nat → Bool} {i n : Nat} (h : i ≤ n) : cnt (fun x => P (sk i x)) n + (if P i then 1 else 0) = cnt P (n + 1) := by
  rw [cnt_sm, cnt_sm]
  exact sm_sk (f := fun i => if P i then 1 else 0) h
def rmN (A : tA) (i k : Nat) : tA := fun j x => if (12 ≤ j ∧ j ≤ 16) ∧ i ≤ x ∧ x < k then A j (x + 1) else if j = 0 ∧ x = 2 then A 0 2 - 1 else A j x
def rvN (V : tV) (i k : Nat) : tV := fun j x => if j = 17 ∧ i ≤ x ∧ x < k then V j (x + 1) else V j x
abbrev rmA (A : tA) (i : Nat) : tA := rmN A i (A 0 2 - 1)
abbrev rmV (A : tA) (V : tV) (i : Nat) : tV := rvN V i (A 0 2 - 1)
theorem rmN_lo {A : tA} {i k j x : Nat} (hj : 12 ≤ j ∧ j ≤ 16) (h : i ≤ x ∧ x < k) : rmN A i k j x = A j (x + 1) := by
  unfold rmN
  rw [if_pos ⟨hj, h⟩]
theorem rmN_no {A : tA} {i k j x : Nat} (hj : 12 ≤ j ∧ j ≤ 16) (h : ¬ (i ≤ x ∧ x < k)) : rmN A i k j x = A j x := by
  unfold rmN
  rw [if_neg (fun q => h q.2), if_neg (by omega)]
theorem rmN_ot {A : tA} {i k k' j x : Nat} (hj : ¬ (12 ≤ j ∧ j ≤ 16)) : rmN A i k j x = rmN A i k' j x := by
  have h1 : ∀ k, ¬ ((12 ≤ j ∧ j ≤ 16) ∧ i ≤ x ∧ x < k) := fun k q => hj q.1
  simp only [rmN, h1, if_false]
theorem rmN_u {A : tA} {i k j : Nat} (hj : 12 ≤ j ∧ j ≤ 16) {B : tA} (x : Nat) (h : ∀ y, B j y = rmN A i k j y) (hik : i ≤ k) : upA B j k (A j (k + 1)) j x = rmN A i (k + 1) j x := by
  rw [upA_if]
  by_cases e : x = k
  · rw [if_pos e, rmN_lo hj (by omega), e]
  · rw [if_neg e, h]
    by_cases c : i ≤ x ∧ x < k
    · rw [rmN_lo hj c, rmN_lo hj (by omega)]
    · rw [rmN_no hj c, rmN_no hj (by omega)]
theorem rm_next {A : tA} {i k : Nat} (hik : i ≤ k) : upA (upA (upA (upA (upA (rmN A i k) 12 k (A 12 (k + 1))) 13 k (A 13 (k + 1))) 14 k (A 14 (k + 1))) 15 k (A 15 (k + 1))) 16 k (A 16 (k + 1)) = rmN A i (k + 1) := by
  funext j x
  rcases (show j = 12 ∨ j = 13 ∨ j = 14 ∨ j = 15 ∨ j = 16 ∨ ¬ (12 ≤ j ∧ j ≤ 16) by omega) with rfl | rfl | rfl | rfl | rfl | hj
  · exact rmN_u (B := rmN A i k) (by omega) x (fun _ => rfl) hik
  · exact rmN_u (B := upA (rmN A i k) 12 k (A 12 (k + 1))) (by omega) x (fun _ => rfl) hik
  · exact rmN_u (B := upA (upA (rmN A i k) 12 k (A 12 (k + 1))) 13 k (A 13 (k + 1))) (by omega) x (fun _ => rfl) hik
  · exact rmN_u (B := upA (upA (upA (rmN A i k) 12 k (A 12 (k + 1))) 13 k (A 13 (k + 1))) 14 k (A 14 (k + 1))) (by omega) x (fun _ => rfl) hik
  · exact rmN_u (B := upA (upA (upA (upA (rmN A i k) 12 k (A 12 (k + 1))) 13 k (A 13 (k + 1))) 14 k (A 14 (k + 1))) 15 k (A 15 (k + 1))) (by omega) x (fun _ => rfl) hik
  · rw [upA_n _ _ (by omega), upA_n _ _ (by omega), upA_n _ _ (by omega), upA_n _ _ (by omega), upA_n _ _ (by omega)]
    exact rmN_ot hj
theorem rv_next {V : tV} {i k : Nat} (hik : i ≤ k) : up2 (rvN V i k) 17 k (V 17 (k + 1)) = rvN V i (k + 1) := by
  funext j x
  by_cases hj : j = 17
  · subst hj
    rw [up2_if]
    show _ = if 17 = 17 ∧ i ≤ x ∧ x < k + 1 then V 17 (x + 1) else V 17 x
    by_cases e : x = k
    · rw [if_pos e, if_pos ⟨rfl, by omega⟩, e]
    · rw [if_neg e]
      show (if 17 = 17 ∧ i ≤ x ∧ x < k then V 17 (x + 1) else V 17 x) = _
      by_cases c : i ≤ x ∧ x < k
      · rw [if_pos ⟨rfl, c⟩, if_pos ⟨rfl, by omega⟩]
      · rw [if_neg (fun q => c q.2), if_neg (fun q => c (by omega))]
  · rw [up2_n _ _ (Or.inl hj)]
    show (if j = 17 ∧ i ≤ x ∧ x < k then V j (x + 1) else V j x) = if j = 17 ∧ i ≤ x ∧ x < k + 1 then V j (x + 1) else V j x
    rw [if_neg (fun q => hj q.1), if_neg (fun q => hj q.1)]
theorem rm_0 {A : tA} {i : Nat} : upA A 0 2 (A 0 2 - 1) = rmN A i i := by
  funext j x
  show _ = if (12 ≤ j ∧ j ≤ 16) ∧ i ≤ x ∧ x < i then A j (x + 1) else if j = 0 ∧ x = 2 then A 0 2 - 1 else A j x
  rw [if_neg (by omega)]
  by_cases e : j = 0 ∧ x = 2
  · rw [if_pos e, e.1, e.2, upA_s]
  · rw [if_neg e, upA_n _ _ (by omega)]
theorem rv_0 {V : tV} {i : Nat} : V = rvN V i i := by
  funext j x
  show _ = if j = 17 ∧ i ≤ x ∧ x < i then V j (x + 1) else V j x
  rw [if_neg (by omega)]
theorem rvN_hi {V : tV} {i k x : Nat} (h : k ≤ x) : rvN V i k 17 x = V 17 x := by
  show (if 17 = 17 ∧ i ≤ x ∧ x < k then V 17 (x + 1) else V 17 x) = _
  rw [if_neg (by omega)]
set_option maxHeartbeats 1000000 in
theorem eR_takes {M fu i : Nat} {A : tA} {V : tV} {f0 : jM} (hfu : 2000 ≤ fu) (hms : A 0 2 ≤ 60) (hi : i < A 0 2) : mX6_takes fu (mkR M (toR A V) f0) M (nI i) = some (mkR M (toR (rmA A i) (rmV A V i)) f0) := by
  unfold mX6_takes
  simp (disch := omega) only [rI13, tR0, Option.bind_some, i1, nI_sub, rW13, uR0]
  rw [rm_0 (i := i)]
  have e0 : ∀ k, rmN A i k 0 2 = A 0 2 - 1 := fun k => rfl
  have key := lup (fun m k => mX6_takes_L12 fu M m (nI k) (mkR M (toR (rmN A i k) (rvN V i k)) f0)) (A 0 2 - 1) (some (mkR M (toR (rmA A i) (rmV A V i)) f0))
    (by
      intro m
      rw [mX6_takes_L12]
      simp only [rI13, tR0, Option.bind_some, e0]
      rw [if_pos (nI_le (Nat.le_refl _) (by omega))])
  have key2 : ∀ n k, k < A 0 2 - 1 → i ≤ k → mX6_takes_L12 fu M (n + 1) (nI k) (mkR M (toR (rmN A i k) (rvN V i k)) f0) = mX6_takes_L12 fu M n (nI (k + 1)) (mkR M (toR (rmN A i (k + 1)) (rvN V i (k + 1))) f0) := by
    intro n k hk hik
    rw [mX6_takes_L12]
    simp only [rI13, tR0, Option.bind_some, e0]
    rw [if_neg (nI_ge hk (by omega))]
    have r12 : rmN A i k 12 (k + 1) = A 12 (k + 1) := rmN_no (by omega) (by omega)
    have r13 : ∀ x, upA (rmN A i k) 12 k x 13 (k + 1) = A 13 (k + 1) := fun x => rmN_no (j := 13) (by omega) (by omega)
    have r14 : ∀ x y, upA (upA (rmN A i k) 12 k x) 13 k y 14 (k + 1) = A 14 (k + 1) := fun x y => rmN_no (j := 14) (by omega) (by omega)
    have r15 : ∀ x y z, upA (upA (upA (rmN A i k) 12 k x) 13 k y) 14 k z 15 (k + 1) = A 15 (k + 1) := fun x y z => rmN_no (j := 15) (by omega) (by omega)
    have r16 : ∀ x y z w, upA (upA (upA (upA (rmN A i k) 12 k x) 13 k y) 14 k z) 15 k w 16 (k + 1) = A 16 (k + 1) := fun x y z w => rmN_no (j := 16) (by omega) (by omega)
    have r17 : rvN V i k 17 (k + 1) = V 17 (k + 1) := rvN_hi (by omega)
    simp (disch := omega) only [rR14, rR15, rR16, rR17, rR18, rR19, i1, nI_add, rl12, rl13, rl14, rl15, rl16, rl17, rs12, rs13, rs14, rs15, rs16, rs17, gl_nI, gs_nI, tR12, tR13, tR14, tR15, tR16, tR17, uR12, uR13, uR14, uR15, uR16, uR17, Option.bind_some, r12, r13, r14, r15, r16, r17]
    rw [rm_next hik, rv_next hik]
  have main : ∀ d k n, A 0 2 - 1 = k + d → i ≤ k → d < n → mX6_takes_L12 fu M n (nI k) (mkR M (toR (rmN A i k) (rvN V i k)) f0) = some (mkR M (toR (rmA A i) (rmV A V i)) f0) := by
    intro d
    induction d with
    | zero =>
      intro k n h1 h2 h3
      obtain ⟨n', rfl⟩ : ∃ n', n = n' + 1 := ⟨n - 1, by omega⟩
      rw [mX6_takes_L12]
      simp only [rI13, tR0, Option.bind_some, e0]
      have hk : k = A 0 2 - 1 := by omega
      rw [if_pos (nI_le (by omega) (by omega)), hk]
    | succ d ih =>
      intro k n h1 h2 h3
      obtain ⟨n', rfl⟩ : ∃ n', n = n' + 1 := ⟨n - 1, by omega⟩
      rw [key2 n' k (by omega) h2]
      exact ih (k + 1) n' (by omega) (by omega) (by omega)
  have := main (A 0 2 - 1 - i) i fu (by omega) (Nat.le_refl _) (by omega)
  rw [← rv_0] at this
  exact this
/-! the class takes a letter out -/
def rmP (pi : Nat → Nat) (i k : Nat) : Nat → Nat := fun x => if i ≤ x ∧ x < k then pi (x + 1) else pi x
theorem rmP_next {pi : Nat → Nat} {i k : Nat} (hik : i ≤ k) : upP (rmP pi i k) k (pi (k + 1)) = rmP pi i (k + 1) := by
  funext x
  simp only [upP, rmP]
  by_cases e : x = k
  · rw [if_pos e, if_pos (by omega), e]
  · rw [if_neg e]
    by_cases c : i ≤ x ∧ x < k
    · rw [if_pos c, if_pos (by omega)]
    · rw [if_neg c, if_neg (by omega)]
theorem eC_remove {b p N fu i ms : Nat} {gn : tN} {gp : tV} {pi : Nat → Nat} {f0 : jM} (hfu : 2000 ≤ fu) (hms : ms ≤ 60) (hi : i < ms) (hg : gp 0 0 = nI ms) (h1 : ∀ x, x < 60 → pi x < 60) (h2 : ∀ x y, x < 60 → y < 60 → pi x = pi y → x = y) : mX3_remove fu (mkC b p N gn gp pi f0) p (p + 2 + pi i) = some (mkC b p N gn (up2 gp 0 0 (nI (ms - 1))) (upP (rmP pi i (ms - 1)) (ms - 1) (pi i)) f0) := by
  unfold mX3_remove
  have main : ∀ d k n, ms = k + d → d < n → mX3_remove_L4 fu p (p + 2 + pi i) n (if i < k then 1 else 0) (nI k) (mkC b p N gn gp (rmP pi i (if k < ms then k else ms - 1)) f0) = some (mkC b p N gn (up2 gp 0 0 (nI (ms - 1))) (upP (rmP pi i (ms - 1)) (ms - 1) (pi i)) f0) := by
    intro d
    induction d with
    | zero =>
      intro k n hk hn
      obtain ⟨n', rfl⟩ : ∃ n', n = n' + 1 := ⟨n - 1, by omega⟩
      rw [mX3_remove_L4]
      simp only [cP1, Option.bind_some, hg]
      rw [if_pos (nI_le (by omega) (by omega)), if_pos (show i < k by omega), if_neg (by decide), if_neg (show ¬ k < ms by omega)]
      simp (disch := omega) only [i1, nI_sub, cPw, Option.bind_some, cP0, cP1, up2_s]
      rw [cLst (by omega) (h1 i (by omega))]
      rfl
    | succ d ih =>
      intro k n hk hn
      obtain ⟨n', rfl⟩ : ∃ n', n = n' + 1 := ⟨n - 1, by omega⟩
      have ih' := ih (k + 1) n' (by omega) (by omega)
      rw [mX3_remove_L4]
      simp only [cP1, Option.bind_some, hg]
      rw [if_neg (nI_ge (show k < ms by omega) (by omega)), if_pos (show k < ms by omega)]
      have hB : ∀ (s : Int32), s = (if i < k + 1 then 1 else 0) → mX3_remove_B31 fu (mX3_remove_L4 fu p (p + 2 + pi i) n') p (p + 2 + pi i) (nI k) s (mkC b p N gn gp (rmP pi i k) f0) = some (mkC b p N gn (up2 gp 0 0 (nI (ms - 1))) (upP (rmP pi i (ms - 1)) (ms - 1) (pi i)) f0) := by
        intro s hs
        unfold mX3_remove_B31
        by_cases c : i < k + 1
        · rw [if_pos c] at hs ih'
          subst hs
          rw [if_neg (by decide)]
          simp only [cP1, Option.bind_some, hg, nI_1]
          by_cases c2 : k + 1 < ms
          · rw [if_neg (nI_ge c2 (by omega))]
            rw [if_pos c2] at ih'
            simp (disch := omega) only [cP0, Option.bind_some, cLat]
            have e1 : rmP pi i k (k + 1) = pi (k + 1) := by simp only [rmP]; rw [if_neg (by omega)]
            rw [e1, cLst (by omega) (h1 _ (by omega)), rmP_next (by omega)]
            exact ih'
          · rw [if_pos (nI_le (by omega) (by omega))]
            rw [if_neg c2] at ih'
            rw [show k = ms - 1 by omega] at ih' ⊢
            exact ih'
        · rw [if_neg c] at hs ih'
          subst hs
          rw [if_pos rfl, nI_1]
          rw [if_pos (show k + 1 < ms by omega)] at ih'
          have e1 : rmP pi i (k + 1) = rmP pi i k := by
            funext x
            simp only [rmP]
            rw [if_neg (by omega), if_neg (by omega)]
          rw [e1] at ih'
          exact ih'
      by_cases c : i < k
      · rw [if_pos c, if_neg (by decide)]
        exact hB 1 (by rw [if_pos (by omega)])
      · rw [if_neg c, if_pos rfl]
        simp (disch := omega) only [cP0, Option.bind_some, cLat]
        have e1 : rmP pi i k k = pi k := by simp only [rmP]; rw [if_neg (by omega)]
        rw [e1]
        by_cases c3 : k = i
        · rw [if_pos (by rw [c3])]
          exact hB 1 (by rw [if_pos (by omega)])
        · rw [if_neg (fun q => c3 (h2 k i (by omega) (by omega) (by omega)))]
          exact hB 0 (by rw [if_neg (by omega)])
  have := main ms 0 fu (by omega) (by omega)
  rw [if_neg (by omega), if_pos (show 0 < ms by omega)] at this
  have e1 : rmP pi i 0 = pi := by
    funext x
    simp only [rmP]
    rw [if_neg (by omega)]
  rw [e1] at this
  exact this
