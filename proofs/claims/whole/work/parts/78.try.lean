/-! the reference: WITHOUT found, then let go -/
theorem inr_congr {A : tA} {V : tV} {N : Nat} {Gr O P : Nat → Prop} (h : ∀ x, gd A N x → (O x ↔ P x)) (m x : Nat) : inr A V N Gr O m x ↔ inr A V N Gr P m x := ⟨inr_anti (fun y hy w => (h y hy).mpr w), inr_anti (fun y hy w => (h y hy).mp w)⟩
theorem scr_inr {A A' : tA} {V : tV} {N : Nat} {Gr O : Nat → Prop} (h : scr A A') (m x : Nat) : inr A' V N Gr O m x ↔ inr A V N Gr O m x := by
  have e1 : ∀ o y, fH A' V o y ↔ fH A V o y := fun o y => scr_fH h o y
  have e2 : ∀ o, gd A' N o ↔ gd A N o := fun o => scr_gd h o
  have e3 : ∀ n y, rH A' V n y ↔ rH A V n y := fun n y => by
    unfold rH
    have e7 : ∀ i, A' 7 i = A 7 i := fun i => h 7 i (by omega) (by omega)
    simp only [e7]
  unfold inr hW hE
  simp only [e1, e2, e3]
section TR
variable {M N : Nat} {V : tV} {A : tA} {Gr : Nat → Prop}
theorem eR_wo {fu cl id : Nat} {A1 : tA} (hfu : 2000 ≤ fu) (hWf : WF A V N cl) (h0 : A 0 2 = 0) (hid : id < 120) (hs : scr A A1) (h21 : bl A1 21) (gG : ∀ x, x < 120 → (A1 21 x = 1 ↔ Gr x)) (hGd : ∀ x, Gr x → gd A N x) (hcl : ∀ o y, gd A N o → Gr o → fH A V o y → Gr y) :
    ∃ A2, (∀ f2, mX6_tries_L120 fu M (nI id) fu 0 (mkR M (toR A1 V) f2) = if A2 23 id = 1 then some (0, mkR M (toR A2 V) f2) else mX6_tries_L174 fu M fu (nI 0) (nI 0) (mkR M (toR A2 V) f2)) ∧ scr A A2 ∧ A2 21 = A1 21 ∧ bl A2 23 ∧ (∀ x, x < 120 → (A2 23 x = 1 ↔ Wo A V N Gr x)) ∧ ∀ m x, m < 5 → x < 120 → A2 22 (120 * m + x) ≤ 1 ∧ (A2 22 (120 * m + x) = 1 ↔ inr A V N Gr (Wo A V N Gr) m x) := by
  obtain ⟨B0, h1, h2⟩ := lupI (S := tA) (T := jM → Option (Int32 × jM)) (fun n i a f2 => mX6_tries_L120 fu M (nI id) n (nI i) (mkR M (toR a V) f2)) (fun a f2 => mX6_tries_L141 fu M (nI id) fu 1 (mkR M (toR a V) f2)) 120 (fun i a => (∀ j, j ≠ 23 → a j = A1 j) ∧ ∀ x, x < i → a 23 x = 0)
    (by
      intro n a _
      funext f2
      rw [mX6_tries_L120, i120, if_pos (nI_le (Nat.le_refl _) (by omega))])
    (by
      intro n i a hi ⟨a1, a2⟩
      refine ⟨upA a 23 i 0, ⟨fun j hj => ?_, fun x hx => ?_⟩, ?_⟩
      · funext y; rw [upA_n _ _ (by omega), a1 j hj]
      · rw [upA_if]; split
        · rfl
        · exact a2 x (by omega)
      · funext f2
        show mX6_tries_L120 fu M (nI id) (n + 1) (nI i) (mkR M (toR a V) f2) = _
        rw [mX6_tries_L120, i120, if_neg (nI_ge hi (by omega))]
        simp (disch := omega) only [rR26, rs23, nar0, gs_nI, Option.bind_some, nI_1]
        rw [i0, uR23])
    fu A1 (by omega) ⟨fun _ _ => rfl, fun x hx => absurd hx (by omega)⟩
  obtain ⟨q1, q2⟩ := h1
  obtain ⟨fu', hfu'⟩ : ∃ n, fu = n + 1 := ⟨fu - 1, by omega⟩
  have fin := lupX (S := tA) (T := jM → Option (Int32 × jM)) (fun n i a f2 => mX6_tries_L141 fu M (nI id) (n + 1) 1 (mkR M (toR a V) f2)) 121 (fun i a => scr A a ∧ a 21 = A1 21 ∧ bl a 23 ∧ (∀ x, x < 120 → a 23 x = 1 → Wo A V N Gr x) ∧ i ≤ cr a 23)
    (fun t => ∃ A2, t = (fun f2 => if A2 23 id = 1 then some (0, mkR M (toR A2 V) f2) else mX6_tries_L174 fu M fu (nI 0) (nI 0) (mkR M (toR A2 V) f2)) ∧ scr A A2 ∧ A2 21 = A1 21 ∧ bl A2 23 ∧ (∀ x, x < 120 → (A2 23 x = 1 ↔ Wo A V N Gr x)) ∧ ∀ m x, m < 5 → x < 120 → A2 22 (120 * m + x) ≤ 1 ∧ (A2 22 (120 * m + x) = 1 ↔ inr A V N Gr (Wo A V N Gr) m x))
    (by
      intro n i a ⟨k1, k2, k3, k4, k5⟩
      have hWa : WF a V N cl := scr_WF k1 hWf
      have k21 : bl a 21 := by unfold bl; rw [k2]; exact h21
      have kG : ∀ x, x < 120 → (a 21 x = 1 ↔ Gr x) := by rw [k2]; exact gG
      obtain ⟨B, b1, b2, b3⟩ := eR_judges (M := M) (Gr := Gr) hfu hWa k21 k3 kG
      have sB : scr A B := fun j x h1 h2 => by rw [b2 j (by omega)]; exact k1 j x h1 h2
      have e23 : B 23 = a 23 := b2 23 (by omega)
      have e21 : B 21 = A1 21 := by rw [b2 21 (by omega), k2]
      have b22 : ∀ m x, m < 5 → x < 120 → B 22 (120 * m + x) ≤ 1 ∧ (B 22 (120 * m + x) = 1 ↔ inr A V N Gr (fun y => B 23 y = 1) m x) := fun m x hm hx => by
        have := b3 m x hm hx
        rw [scr_inr k1] at this
        rw [e23]
        exact this
      obtain ⟨v, a', c1, c2, c3⟩ := eR_grows (M := M) (Gr := Gr) (A := A) (B := B) hfu hWf h0 (fun j j1 j2 => funext (fun x => sB j x j2 (by omega))) (by rw [sB 0 1 (by omega) (by omega)]; exact hWf.1.1) (by unfold bl; rw [e21]; exact h21) (by unfold bl; rw [e23]; exact k3) (by rw [e21]; exact gG) hGd hcl b22
      have ev : ∀ f2, mX6_tries_L141 fu M (nI id) (n + 2) 1 (mkR M (toR a V) f2) = mX6_tries_L141 fu M (nI id) (n + 1) v (mkR M (toR a' V) f2) := by
        intro f2
        rw [mX6_tries_L141, if_neg (by decide)]
        simp only [rchk, Option.bind_some, b1, c1]
      have sa' : scr A a' := fun j x h1 h2 => by rw [c2.1 j (by omega)]; exact sB j x h1 h2
      have snd : ∀ x, x < 120 → a' 23 x = 1 → Wo A V N Gr x := fun x hx w => c2.2.2.2.2 _ Wo_Cld (fun y hy w' => k4 y hy (by rw [← e23]; exact w')) x hx w
      rcases GI_01 c2 with hv | hv
      · left
        subst hv
        have haB := GI_0 c2
        have hcld := c3 rfl
        have hiff : ∀ x, x < 120 → (a' 23 x = 1 ↔ Wo A V N Gr x) := fun x hx => ⟨snd x hx, fun w => by
          have := (w _ hcld).2
          rw [haB]; exact this⟩
        refine ⟨a', ?_, sa', by rw [haB]; exact e21, c2.2.1, hiff, fun m x hm hx => ?_⟩
        · funext f2
          show mX6_tries_L141 fu M (nI id) (n + 2) 1 (mkR M (toR a V) f2) = _
          rw [ev, mX6_tries_L141, if_pos rfl]
          have hb := c2.2.1 id hid
          simp (disch := omega) only [rR26, rl23, gl_nI, tR23, Option.bind_some]
          by_cases c : a' 23 id = 1
          · rw [c, if_neg (by decide), if_pos rfl]
          · have c0 : a' 23 id = 0 := by omega
            rw [c0, if_pos (by decide), if_neg (by decide), ← i0]
        · have := b22 m x hm hx
          rw [haB]
          refine ⟨this.1, this.2.trans (inr_congr (fun y hy => ?_) m x)⟩
          have := hiff y (by have := hy.1; have := hWf.1.2.2; omega)
          rw [haB] at this
          exact this
      · right
        subst hv
        have hlt : cr B 23 < cr a' 23 := by
          rcases c2.2.2.2.1 with w | w
          · exact absurd w.1 (by decide)
          · exact w.2
        have hcB : cr B 23 = cr a 23 := by unfold cr; rw [e23]
        have hc := cnt_le (fun x => a' 23 x == 1) 120
        have hc' : cr a' 23 ≤ 120 := hc
        refine ⟨by omega, a', ⟨sa', by rw [c2.1 21 (by omega)]; exact e21, c2.2.1, snd, by omega⟩, ?_⟩
        funext f2
        exact ev f2)
    121 0 fu' B0 (by omega) (by omega) ⟨fun j x h1 h2 => by rw [q1 j (by omega)]; exact hs j x h1 h2, q1 21 (by omega), fun x hx => by rw [q2 x hx]; omega, fun x hx w => by rw [q2 x hx] at w; omega, by omega⟩
  obtain ⟨A2, z1, z2⟩ := fin
  refine ⟨A2, fun f2 => ?_, z2⟩
  have e2 := congrFun h2 f2
  have e3 := congrFun z1 f2
  rw [← hfu'] at e3
  rw [i0]
  rw [e2, e3, i0]
end TR
/-! fields are emptied -/
def emq (L : Nat → Bool) (row k o f : Nat) (A : tA) : tA := fun j i => if j = row ∧ ((L (i / 12) = true ∧ i / 12 < k) ∨ (i / 12 = o ∧ i % 12 < f)) then 0 else A j i
def emw (L : Nat → Bool) (row k o f : Nat) (V : tV) : tV := fun j i => if j = row ∧ ((L (i / 12) = true ∧ i / 12 < k) ∨ (i / 12 = o ∧ i % 12 < f)) then 0 else V j i
theorem emq_o {L : Nat → Bool} {row k o f j i : Nat} {A : tA} (h : j ≠ row) : emq L row k o f A j i = A j i := by
  unfold emq; rw [if_neg (fun w => h w.1)]
theorem emw_o {L : Nat → Bool} {row k o f j i : Nat} {V : tV} (h : j ≠ row) : emw L row k o f V j i = V j i := by
  unfold emw; rw [if_neg (fun w => h w.1)]
theorem emq_s {L : Nat → Bool} {row k o f : Nat} {A : tA} (hf : f < 12) : upA (emq L row k o f A) row (12 * o + f) 0 = emq L row k o (f + 1) A := by
  funext j i
  by_cases c : j = row ∧ i = 12 * o + f
  · rw [c.1, c.2, upA_s]
    unfold emq
    rw [if_pos ⟨rfl, Or.inr ⟨by omega, by omega⟩⟩]
  · rw [upA_n _ _ (by omega)]
    unfold emq
    by_cases d : j = row ∧ ((L (i / 12) = true ∧ i / 12 < k) ∨ (i / 12 = o ∧ i % 12 < f))
    · rw [if_pos d, if_pos ⟨d.1, d.2.elim Or.inl (fun w => Or.inr ⟨w.1, by omega⟩)⟩]
    · rw [if_neg d, if_neg]
      rintro ⟨w1, w2⟩
      refine d ⟨w1, w2.elim Or.inl (fun w => Or.inr ⟨w.1, ?_⟩)⟩
      omega
theorem emw_s {L : Nat → Bool} {row k o f : Nat} {V : tV} (hf : f < 12) : up2 (emw L row k o f V) row (12 * o + f) 0 = emw L row k o (f + 1) V := by
  funext j i
  by_cases c : j = row ∧ i = 12 * o + f
  · rw [c.1, c.2, up2_s]
    unfold emw
    rw [if_pos ⟨rfl, Or.inr ⟨by omega, by omega⟩⟩]
  · rw [up2_n _ _ (by omega)]
    unfold emw
    by_cases d : j = row ∧ ((L (i / 12) = true ∧ i / 12 < k) ∨ (i / 12 = o ∧ i % 12 < f))
    · rw [if_pos d, if_pos ⟨d.1, d.2.elim Or.inl (fun w => Or.inr ⟨w.1, by omega⟩)⟩]
    · rw [if_neg d, if_neg]
      rintro ⟨w1, w2⟩
      refine d ⟨w1, w2.elim Or.inl (fun w => Or.inr ⟨w.1, ?_⟩)⟩
      omega
theorem emq_n {L : Nat → Bool} {row o f : Nat} {A : tA} (hL : L o = true) (hz : ∀ g, f ≤ g → g < 12 → A row (12 * o + g) = 0) : emq L row o o f A = emq L row (o + 1) 0 0 A := by
  funext j i
  unfold emq
  by_cases d : j = row ∧ ((L (i / 12) = true ∧ i / 12 < o) ∨ (i / 12 = o ∧ i % 12 < f))
  · have hd : L (i / 12) = true ∧ i / 12 < o + 1 := by
      rcases d.2 with w | w
      · exact ⟨w.1, by omega⟩
      · rw [w.1]; exact ⟨hL, by omega⟩
    rw [if_pos d, if_pos ⟨d.1, Or.inl hd⟩]
  · rw [if_neg d]
    by_cases e : j = row ∧ ((L (i / 12) = true ∧ i / 12 < o + 1) ∨ (i / 12 = 0 ∧ i % 12 < 0))
    · rw [if_pos e]
      have h1 : i / 12 = o := by
        rcases e.2 with w | w
        · apply Classical.byContradiction
          intro q
          exact d ⟨e.1, Or.inl ⟨w.1, by omega⟩⟩
        · omega
      have h2 : ¬ i % 12 < f := fun q => d ⟨e.1, Or.inr ⟨h1, q⟩⟩
      have := hz (i % 12) (by omega) (by omega)
      rw [show 12 * o + i % 12 = i by omega] at this
      rw [e.1]; exact this
    · rw [if_neg e]
theorem emw_n {L : Nat → Bool} {row o f : Nat} {V : tV} (hL : L o = true) (hz : ∀ g, f ≤ g → g < 12 → V row (12 * o + g) = 0) : emw L row o o f V = emw L row (o + 1) 0 0 V := by
  funext j i
  unfold emw
  by_cases d : j = row ∧ ((L (i / 12) = true ∧ i / 12 < o) ∨ (i / 12 = o ∧ i % 12 < f))
  · have hd : L (i / 12) = true ∧ i / 12 < o + 1 := by
      rcases d.2 with w | w
      · exact ⟨w.1, by omega⟩
      · rw [w.1]; exact ⟨hL, by omega⟩
    rw [if_pos d, if_pos ⟨d.1, Or.inl hd⟩]
  · rw [if_neg d]
    by_cases e : j = row ∧ ((L (i / 12) = true ∧ i / 12 < o + 1) ∨ (i / 12 = 0 ∧ i % 12 < 0))
    · rw [if_pos e]
      have h1 : i / 12 = o := by
        rcases e.2 with w | w
        · apply Classical.byContradiction
          intro q
          exact d ⟨e.1, Or.inl ⟨w.1, by omega⟩⟩
        · omega
      have h2 : ¬ i % 12 < f := fun q => d ⟨e.1, Or.inr ⟨h1, q⟩⟩
      have := hz (i % 12) (by omega) (by omega)
      rw [show 12 * o + i % 12 = i by omega] at this
      rw [e.1]; exact this
    · rw [if_neg e]
theorem emq_f0 {L : Nat → Bool} {row k o : Nat} {A : tA} : emq L row k 0 0 A = emq L row k o 0 A := by
  funext j i
  unfold emq
  by_cases d : j = row ∧ L (i / 12) = true ∧ i / 12 < k
  · rw [if_pos ⟨d.1, Or.inl d.2⟩, if_pos ⟨d.1, Or.inl d.2⟩]
  · rw [if_neg (fun w => d ⟨w.1, w.2.resolve_right (fun q => by omega)⟩), if_neg (fun w => d ⟨w.1, w.2.resolve_right (fun q => by omega)⟩)]
theorem emw_f0 {L : Nat → Bool} {row k o : Nat} {V : tV} : emw L row k 0 0 V = emw L row k o 0 V := by
  funext j i
  unfold emw
  by_cases d : j = row ∧ L (i / 12) = true ∧ i / 12 < k
  · rw [if_pos ⟨d.1, Or.inl d.2⟩, if_pos ⟨d.1, Or.inl d.2⟩]
  · rw [if_neg (fun w => d ⟨w.1, w.2.resolve_right (fun q => by omega)⟩), if_neg (fun w => d ⟨w.1, w.2.resolve_right (fun q => by omega)⟩)]
theorem emq_k {L : Nat → Bool} {row k : Nat} {A : tA} (hL : L k = false) : emq L row k 0 0 A = emq L row (k + 1) 0 0 A := by
  funext j i
  unfold emq
  by_cases d : j = row ∧ L (i / 12) = true ∧ i / 12 < k
  · rw [if_pos ⟨d.1, Or.inl d.2⟩, if_pos ⟨d.1, Or.inl ⟨d.2.1, by omega⟩⟩]
  · rw [if_neg (fun w => d ⟨w.1, w.2.resolve_right (fun q => by omega)⟩), if_neg]
    rintro ⟨w1, w2⟩
    have w3 := w2.resolve_right (fun q => by omega)
    by_cases e : i / 12 = k
    · rw [e, hL] at w3
      exact absurd w3.1 (by decide)
    · exact d ⟨w1, w3.1, by omega⟩
theorem emw_k {L : Nat → Bool} {row k : Nat} {V : tV} (hL : L k = false) : emw L row k 0 0 V = emw L row (k + 1) 0 0 V := by
  funext j i
  unfold emw
  by_cases d : j = row ∧ L (i / 12) = true ∧ i / 12 < k
  · rw [if_pos ⟨d.1, Or.inl d.2⟩, if_pos ⟨d.1, Or.inl ⟨d.2.1, by omega⟩⟩]
  · rw [if_neg (fun w => d ⟨w.1, w.2.resolve_right (fun q => by omega)⟩), if_neg]
    rintro ⟨w1, w2⟩
    have w3 := w2.resolve_right (fun q => by omega)
    by_cases e : i / 12 = k
    · rw [e, hL] at w3
      exact absurd w3.1 (by decide)
    · exact d ⟨w1, w3.1, by omega⟩
