/-! the reference slides, counts, gives back -/
theorem up2_2 {V : tV} {j i : Nat} {x y : Int32} : up2 (up2 V j i x) j i y = up2 V j i y := by
  funext a c
  by_cases h : a = j ∧ c = i
  · rw [h.1, h.2, up2_s, up2_s]
  · rw [up2_n _ _ (by omega), up2_n _ _ (by omega), up2_n _ _ (by omega)]
theorem up2_id {V : tV} {j i : Nat} : up2 V j i (V j i) = V := by
  funext a c
  by_cases h : a = j ∧ c = i
  · rw [h.1, h.2, up2_s]
  · rw [up2_n _ _ (by omega)]
section S2
variable {M N : Nat} {V : tV} {od : Nat → Nat} {q : Nat} {mkd : Nat → Bool}
/-- where the search goes on -/
def fro (mk : Nat → Bool) (od : Nat → Nat) (q : Nat) (sz ad : Nat → Nat) : Nat → Nat
  | 0 => 0
  | t + 1 => ad (ko mk od q t) + sz (ko mk od q t) + 1
theorem ko_next {mk : Nat → Bool} {sz ad : Nat → Nat} (had : ∀ i, i < q → ad (od i) = sm (fun j => sz (od j) + 1) i) {t t' : Nat} (h : t < t') (ht : t' < kp mk od q) : ad (ko mk od q t) + sz (ko mk od q t) + 1 ≤ ad (ko mk od q t') := by
  have h1 := ((ix_all mk od q).1 t (by omega)).1
  have h2 := ((ix_all mk od q).1 t' ht).1
  have h3 := ix_lt mk od h ht
  unfold ko
  rw [had _ h1, had _ h2]
  have h4 := sm_mono (f := fun j => sz (od j) + 1) (show ixn mk od q t + 1 ≤ ixn mk od q t' by omega)
  have h5 : sm (fun j => sz (od j) + 1) (ixn mk od q t + 1) = sm (fun j => sz (od j) + 1) (ixn mk od q t) + (sz (od (ixn mk od q t)) + 1) := rfl
  omega
theorem ko_top {mk : Nat → Bool} {sz ad : Nat → Nat} (had : ∀ i, i < q → ad (od i) = sm (fun j => sz (od j) + 1) i) {t : Nat} (ht : t < kp mk od q) : ad (ko mk od q t) + sz (ko mk od q t) + 1 ≤ sm (fun j => sz (od j) + 1) q := by
  have h1 := ((ix_all mk od q).1 t ht).1
  unfold ko
  rw [had _ h1]
  have h4 := sm_mono (f := fun j => sz (od j) + 1) (show ixn mk od q t + 1 ≤ q by omega)
  have h5 : sm (fun j => sz (od j) + 1) (ixn mk od q t + 1) = sm (fun j => sz (od j) + 1) (ixn mk od q t) + (sz (od (ixn mk od q t)) + 1) := rfl
  omega
theorem eR_slides {fu n : Nat} {A : tA} {f2 : jM} (hfu : 2000 ≤ fu) (hn : n < 5) (hL : lay1 A n od q) (h4 : ∀ k, k < 24 → A 4 (24 * n + k) ≤ 1) :
    mX6_slides fu (mkR M (toR (frA A n mkd 24) V) f2) M (nI n) = some (mkR M (toR (upA (slA (frA A n mkd 24) n (ko (fun k => mkd (24 * n + k)) od q) (ca (fun k => mkd (24 * n + k)) od q (fun k => A 1 (24 * n + k))) (kp (fun k => mkd (24 * n + k)) od q)) 10 n (ca (fun k => mkd (24 * n + k)) od q (fun k => A 1 (24 * n + k)) (kp (fun k => mkd (24 * n + k)) od q))) (up2 V 11 n (mv (fun k => mkd (24 * n + k)) od q (fun k => A 1 (24 * n + k)) (fun k => A 2 (24 * n + k)) (V 11 n) (kp (fun k => mkd (24 * n + k)) od q)))) f2) := by
  obtain ⟨q1, q2, q3, q4, q5, q6, q7⟩ := hL
  generalize hmk : (fun k => mkd (24 * n + k)) = mk
  have hmk' : ∀ k, mkd (24 * n + k) = mk k := fun k => by rw [← hmk]
  generalize hsz : (fun k => A 1 (24 * n + k)) = sz
  have hsz' : ∀ k, A 1 (24 * n + k) = sz k := fun k => by rw [← hsz]
  generalize had : (fun k => A 2 (24 * n + k)) = ad
  have had' : ∀ k, A 2 (24 * n + k) = ad k := fun k => by rw [← had]
  have hads : ∀ i, i < q → ad (od i) = sm (fun j => sz (od j) + 1) i := fun i hi => by
    have := (q2 i hi).2.2
    simp only [hsz', had'] at this
    exact this
  have htop : A 10 n = sm (fun j => sz (od j) + 1) q := by simp only [hsz'] at q5; exact q5
  have hlt : ∀ t, t < kp mk od q → ixn mk od q t < q := fun t ht => ((ix_all mk od q).1 t ht).1
  have hmkt : ∀ t, t < kp mk od q → mk (ko mk od q t) = true := fun t ht => ((ix_all mk od q).1 t ht).2.1
  have hko : ∀ t, t < kp mk od q → ko mk od q t < 24 := fun t ht => (q2 _ (hlt t ht)).1
  have hinj : ∀ a b, a < kp mk od q → b < kp mk od q → ko mk od q a = ko mk od q b → a = b := fun a b ha hb he => by
    have := q3 _ _ (hlt a ha) (hlt b hb) he
    have x := ((ix_all mk od q).1 a ha).2.2
    have y := ((ix_all mk od q).1 b hb).2.2
    rw [this] at x
    omega
  have hcaad : ∀ t, t < kp mk od q → ca mk od q sz t ≤ ad (ko mk od q t) := fun t ht => by
    have h1 := ca_le mk od q sz (show ixn mk od q t ≤ q by have := hlt t ht; omega)
    rw [((ix_all mk od q).1 t ht).2.2] at h1
    unfold ko
    rw [hads _ (hlt t ht)]
    exact h1
  have hcab : ca mk od q sz (kp mk od q) ≤ 160 := by
    have h1 := ca_le mk od q sz (Nat.le_refl q)
    omega
  generalize hF : frA A n mkd 24 = F
  have F4 : ∀ k, k < 24 → F 4 (24 * n + k) = if mk k then A 4 (24 * n + k) else 0 := fun k hk => by
    rw [← hF]
    unfold frA
    rw [← hmk']
    by_cases c : mkd (24 * n + k) = true
    · rw [if_neg (fun w => by rw [w.2.2.2] at c; exact absurd c (by decide)), if_pos c]
    · have c' : mkd (24 * n + k) = false := by simpa using c
      rw [if_pos ⟨rfl, by omega, by omega, c'⟩, if_neg c]
  have Fo : ∀ j i, j ≠ 4 → F j i = A j i := fun j i hj => by
    rw [← hF]
    unfold frA
    rw [if_neg (fun w => hj w.1)]
  have hkept : ∀ k, k < 24 → F 4 (24 * n + k) = 1 → ∃ t, t < kp mk od q ∧ ko mk od q t = k := fun k hk ht => by
    rw [F4 k hk] at ht
    cases hm : mk k with
    | false => rw [hm] at ht; simp at ht
    | true =>
      rw [hm, if_pos rfl] at ht
      obtain ⟨i, hi, hik⟩ := q4 k hk ht
      have hm' : mk (od i) = true := by rw [hik]; exact hm
      exact ⟨kp mk od i, (ix_at mk od hi hm').2, by rw [ko_at mk od q hi hm', hik]⟩
  have hkt4 : ∀ t, t < kp mk od q → F 4 (24 * n + ko mk od q t) = 1 := fun t ht => by
    rw [F4 _ (hko t ht), hmkt t ht, if_pos rfl]
    exact (q2 _ (hlt t ht)).2.1
  -- the addresses behind t of them
  have cur : ∀ t t', t ≤ kp mk od q → t' < kp mk od q → slA F n (ko mk od q) (ca mk od q sz) t 2 (24 * n + ko mk od q t') = if t' < t then ca mk od q sz t' else ad (ko mk od q t') := fun t t' ht ht' => by
    by_cases c : t' < t
    · rw [if_pos c, slA_at hinj t ht t' c]
    · rw [if_neg c, slA_2 t _ (fun t2 h2 w => by have := hinj t' t2 ht' (by omega) (by omega); omega), Fo 2 _ (by omega), had']
  have curb : ∀ t t', t ≤ kp mk od q → t' < kp mk od q → slA F n (ko mk od q) (ca mk od q sz) t 2 (24 * n + ko mk od q t') ≤ ad (ko mk od q t') := fun t t' ht ht' => by
    rw [cur t t' ht ht']
    split
    · exact hcaad t' ht'
    · exact Nat.le_refl _
  have hfro : ∀ t, t < kp mk od q → fro mk od q sz ad t ≤ ad (ko mk od q t) := fun t ht => by
    cases t with
    | zero => exact Nat.zero_le _
    | succ t => exact ko_next hads (by omega) ht
  have hfrob : ∀ t, t ≤ kp mk od q → fro mk od q sz ad t ≤ 160 := fun t ht => by
    cases t with
    | zero => exact Nat.zero_le _
    | succ t =>
      have := ko_top hads (mk := mk) (sz := sz) (ad := ad) (show t < kp mk od q by omega)
      show ad (ko mk od q t) + sz (ko mk od q t) + 1 ≤ 160
      omega
  have hb1 : ∀ t, t ≤ kp mk od q → ∀ k, k < 24 → slA F n (ko mk od q) (ca mk od q sz) t 4 (24 * n + k) ≤ 1 ∧ (slA F n (ko mk od q) (ca mk od q sz) t 4 (24 * n + k) = 1 → slA F n (ko mk od q) (ca mk od q sz) t 2 (24 * n + k) ≤ 160) := fun t ht k hk => by
    rw [slA_o (by omega)]
    refine ⟨?_, fun w => ?_⟩
    · rw [F4 k hk]
      have := h4 k hk
      split <;> omega
    · obtain ⟨t', w1, w2⟩ := hkept k hk w
      rw [← w2]
      have h1 := curb t t' ht w1
      have h2 := ko_top hads (mk := mk) (sz := sz) (ad := ad) w1
      omega
  -- unprocessed ones alone are at or behind the place
  have hold : ∀ t t', t ≤ kp mk od q → t' < t → slA F n (ko mk od q) (ca mk od q sz) t 2 (24 * n + ko mk od q t') < fro mk od q sz ad t := fun t t' ht h => by
    have h1 := curb t t' ht (by omega)
    cases t with
    | zero => omega
    | succ t =>
      show _ < ad (ko mk od q t) + sz (ko mk od q t) + 1
      by_cases c : t' = t
      · rw [c] at h1 ⊢
        omega
      · have := ko_next hads (mk := mk) (sz := sz) (ad := ad) (show t' < t by omega) (by omega)
        omega
  have B180 : ∀ (a : tA) (W : tV) c, mX6_slides_B180 fu M (nI n) (nI c) (mkR M (toR a W) f2) = some (mkR M (toR (upA a 10 n c) W) f2) := by
    intro a W c
    unfold mX6_slides_B180
    simp (disch := omega) only [rR11, rs10, gs_nI, uR10, Option.bind_some]
  unfold mX6_slides
  have key := lup0 (fun n' t => mX6_slides_L4 fu M (nI n) n' (nI (ca mk od q sz t)) (nI (fro mk od q sz ad t)) (mkR M (toR (slA F n (ko mk od q) (ca mk od q sz) t) (up2 V 11 n (mv mk od q sz ad (V 11 n) t))) f2)) (kp mk od q) (some (mkR M (toR (upA (slA F n (ko mk od q) (ca mk od q sz) (kp mk od q)) 10 n (ca mk od q sz (kp mk od q))) (up2 V 11 n (mv mk od q sz ad (V 11 n) (kp mk od q)))) f2)) fu (by have := kp_le mk od q; omega)
    (by
      intro n'
      rw [mX6_slides_L4]
      have e10 : slA F n (ko mk od q) (ca mk od q sz) (kp mk od q) 10 n = A 10 n := by rw [slA_o (by omega), Fo 10 _ (by omega)]
      simp (disch := omega) only [rR11, rl10, gl_nI, tR10, Option.bind_some, e10]
      by_cases c : A 10 n ≤ fro mk od q sz ad (kp mk od q)
      · rw [if_pos (nI_le c (by have := hfrob _ (Nat.le_refl (kp mk od q)); omega)), B180]
      · rw [if_neg (nI_ge (by omega) (by omega))]
        rcases eR_min (M := M) (V := up2 V 11 n (mv mk od q sz ad (V 11 n) (kp mk od q))) (fu := fu) (n := n) (frm := fro mk od q sz ad (kp mk od q)) (a := slA F n (ko mk od q) (ca mk od q sz) (kp mk od q)) (k4 := mX6_slides_L4 fu M (nI n) n') (v2 := nI (ca mk od q sz (kp mk od q))) (f2 := f2) hfu hn (hb1 _ (Nat.le_refl _)) (by have := hfrob _ (Nat.le_refl (kp mk od q)); omega) with ⟨-, e⟩ | ⟨k0, k1, k2, -⟩
        · rw [i0, e, B180]
        · obtain ⟨t', w1, w2⟩ := hkept k0 k1 (by have := k2.1; rw [slA_o (by omega)] at this; exact this)
          have := hold (kp mk od q) t' (Nat.le_refl _) w1
          rw [w2] at this
          have := k2.2
          omega)
    (by
      intro n' t ht
      show mX6_slides_L4 fu M (nI n) (n' + 1) (nI (ca mk od q sz t)) (nI (fro mk od q sz ad t)) (mkR M (toR (slA F n (ko mk od q) (ca mk od q sz) t) (up2 V 11 n (mv mk od q sz ad (V 11 n) t))) f2) = _
      rw [mX6_slides_L4]
      have e10 : slA F n (ko mk od q) (ca mk od q sz) t 10 n = A 10 n := by rw [slA_o (by omega), Fo 10 _ (by omega)]
      simp (disch := omega) only [rR11, rl10, gl_nI, tR10, Option.bind_some, e10]
      have hlt2 := hfro t ht
      have hlt3 := ko_top hads (mk := mk) (sz := sz) (ad := ad) ht
      rw [if_neg (nI_ge (by omega) (by omega))]
      have hcand : slA F n (ko mk od q) (ca mk od q sz) t 4 (24 * n + ko mk od q t) = 1 ∧ fro mk od q sz ad t ≤ slA F n (ko mk od q) (ca mk od q sz) t 2 (24 * n + ko mk od q t) := by
        rw [slA_o (by omega), cur t t (by omega) ht, if_neg (by omega)]
        exact ⟨hkt4 t ht, hlt2⟩
      rcases eR_min (M := M) (V := up2 V 11 n (mv mk od q sz ad (V 11 n) t)) (fu := fu) (n := n) (frm := fro mk od q sz ad t) (a := slA F n (ko mk od q) (ca mk od q sz) t) (k4 := mX6_slides_L4 fu M (nI n) n') (v2 := nI (ca mk od q sz t)) (f2 := f2) hfu hn (hb1 t (by omega)) (by omega) with ⟨e, -⟩ | ⟨k0, k1, k2, k3, e⟩
      · exact absurd hcand (e _ (hko t ht))
      · obtain ⟨t', w1, w2⟩ := hkept k0 k1 (by have := k2.1; rw [slA_o (by omega)] at this; exact this)
        have hge : t ≤ t' := by
          apply Classical.byContradiction
          intro hn'
          have := hold t t' (by omega) (by omega)
          rw [w2] at this
          have := k2.2
          omega
        have heq : t' = t := by
          apply Classical.byContradiction
          intro hne
          have h1 := k3 _ (hko t ht) hcand
          rw [← w2, cur t t' (by omega) w1, cur t t (by omega) ht, if_neg (by omega), if_neg (by omega)] at h1
          have := ko_next hads (mk := mk) (sz := sz) (ad := ad) (show t < t' by omega) w1
          omega
        rw [heq] at w2
        rw [← w2] at e
        rw [i0, e]
        have ec : slA F n (ko mk od q) (ca mk od q sz) t 2 (24 * n + ko mk od q t) = ad (ko mk od q t) := by rw [cur t t (by omega) ht, if_neg (by omega)]
        have e1 : slA F n (ko mk od q) (ca mk od q sz) t 1 (24 * n + ko mk od q t) = sz (ko mk od q t) := by rw [slA_o (by omega), Fo 1 _ (by omega), hsz']
        rw [ec, e1, up2_s, up2_2]
        have hkt := hko t ht
        have hB : ∀ (W : tV), mX6_slides_B157 fu (mX6_slides_L4 fu M (nI n) n') M (nI n) (nI (ca mk od q sz t)) (nI (ad (ko mk od q t) + sz (ko mk od q t) + 1)) (nI (24 * n + ko mk od q t)) (mkR M (toR (slA F n (ko mk od q) (ca mk od q sz) t) W) f2) = mX6_slides_L4 fu M (nI n) n' (nI (ca mk od q sz (t + 1))) (nI (fro mk od q sz ad (t + 1))) (mkR M (toR (slA F n (ko mk od q) (ca mk od q sz) (t + 1)) W) f2) := by
          intro W
          unfold mX6_slides_B157
          have e1' : upA (slA F n (ko mk od q) (ca mk od q sz) t) 2 (24 * n + ko mk od q t) (ca mk od q sz t) 1 (24 * n + ko mk od q t) = sz (ko mk od q t) := by rw [upA_n _ _ (by omega)]; exact e1
          simp (disch := omega) only [rR3, rs2, gs_nI, uR2, Option.bind_some, rR2, rl1, gl_nI, tR1, e1', nI_1, nI_add]
          rfl
        have hcb := hcaad t ht
        by_cases c : ad (ko mk od q t) = ca mk od q sz t
        · rw [if_pos (by rw [c]), hB]
          simp only [mv]
          rw [if_pos c]
        · rw [if_neg (fun w => c ((nI_eq (by omega) (by omega)).mp w)), hB]
          simp only [mv]
          rw [if_neg c])
  have e0 : mv mk od q sz ad (V 11 n) 0 = V 11 n := rfl
  rw [e0, up2_id] at key
  rw [i0]
  exact key
end S2
