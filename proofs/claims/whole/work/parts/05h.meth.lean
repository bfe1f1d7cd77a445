def mX6_holds (f : jM) (v0 : Nat) (v1 : Int32) (v2 : Int32) (v3 : Int32) (v4 : Int32) : Option jM :=
    (rdR 6 f v0 8).bind fun x1 =>
    (stI 0 f x1 (((6 : Int32) * v1) + v2) v3).bind fun f2 =>
    (rdR 6 f2 v0 9).bind fun x3 =>
    (stI 0 f2 x3 (((6 : Int32) * v1) + v2) v4).bind fun f4 =>
    some f4
set_option maxRecDepth 100000 in
set_option maxHeartbeats 4000000 in
theorem sX6_holds {l : Launch} {D : jD} {sz : Nat} {f : jM} {v0 : Nat} {v1 : Int32} {v2 : Int32} {v3 : Int32} {v4 : Int32} {res : jM} (h : mX6_holds f v0 v1 v2 v3 v4 = some res) : jCt l D yX6_holds cX6_holds 5 none 0 0 [.ref v0, .int v1, .int v2, .int v3, .int v4] f sz 0 0 none res sz := by
  refine j_start (by decide +kernel) (Nat.le_of_ble_eq_true rfl) (fun c hcl hcD hcn E => ?_)
  subst hcl
  subst hcD
  replace E : jOk c cX6_holds 5 RX6 none 0 0 := E
  show J c (jZ c none res sz) f sz 0 0 0 [(0, .ref v0), (1, .int v1), (2, .int v2), (3, .int v3), (4, .int v4)] []
  unfold mX6_holds at h
  refine j_aload_n E 0 dX6_holds_0 rfl rfl ?_
  obtain ⟨x1, h1, h⟩ := jb h
  refine j_getR E gX6_33 h1 dX6_holds_1 ?_
  refine j_bipush (v := (6 : Int32)) E dX6_holds_4 (by decide) ?_
  refine j_iload_n E 1 dX6_holds_6 rfl rfl ?_
  refine j_imul E dX6_holds_7 ?_
  refine j_iload_n E 2 dX6_holds_8 rfl rfl ?_
  refine j_iadd E dX6_holds_9 ?_
  refine j_iload_n E 3 dX6_holds_10 rfl rfl ?_
  obtain ⟨f2, h2, h⟩ := jb h
  refine j_iast E h2 dX6_holds_11 ?_
  refine j_aload_n E 0 dX6_holds_12 rfl rfl ?_
  obtain ⟨x3, h3, h⟩ := jb h
  refine j_getR E gX6_36 h3 dX6_holds_13 ?_
  refine j_bipush (v := (6 : Int32)) E dX6_holds_16 (by decide) ?_
  refine j_iload_n E 1 dX6_holds_18 rfl rfl ?_
  refine j_imul E dX6_holds_19 ?_
  refine j_iload_n E 2 dX6_holds_20 rfl rfl ?_
  refine j_iadd E dX6_holds_21 ?_
  refine j_iload E 4 dX6_holds_22 rfl ?_
  obtain ⟨f4, h4, h⟩ := jb h
  refine j_iast E h4 dX6_holds_24 ?_
  cases h
  exact j_vret E dX6_holds_25
def mX6_number (f : jM) (v0 : Nat) (v1 : Int32) (v2 : Int32) (v3 : Int32) : Option (Int32 × jM) :=
    (chk 6 f v0).bind fun _ =>
    (mX6_isRegister f v0 v1 v2).bind fun r2 =>
    if r2.1 = 0 then (
    some ((0 : Int32), r2.2)) else (
    (chk 6 r2.2 v0).bind fun _ =>
    (mX6_holds r2.2 v0 v1 v2 (1 : Int32) v3).bind fun f5 =>
    some ((1 : Int32), f5))
set_option maxRecDepth 100000 in
set_option maxHeartbeats 4000000 in
theorem sX6_number {l : Launch} {D : jD} {sz : Nat} {f : jM} {v0 : Nat} {v1 : Int32} {v2 : Int32} {v3 : Int32} {res : (Int32 × jM)} (h : mX6_number f v0 v1 v2 v3 = some res) : jCt l D yX6_number cX6_number 4 (some .boolean) 2 43 [.ref v0, .int v1, .int v2, .int v3] f sz 0 0 (some (.int res.1)) res.2 sz := by
  refine j_start (by decide +kernel) (Nat.le_of_ble_eq_true rfl) (fun c hcl hcD hcn E => ?_)
  subst hcl
  subst hcD
  replace E : jOk c cX6_number 4 RX6 (some .boolean) 2 43 := E
  show J c (jZ c (some (.int res.1)) res.2 sz) f sz 0 0 0 [(0, .ref v0), (1, .int v1), (2, .int v2), (3, .int v3)] []
  unfold mX6_number at h
  refine j_aload_n E 0 dX6_number_0 rfl rfl ?_
  refine j_iload_n E 1 dX6_number_1 rfl rfl ?_
  refine j_iload_n E 2 dX6_number_2 rfl rfl ?_
  obtain ⟨u1, h1, h⟩ := jb h
  obtain ⟨fs1, h1⟩ := chk_spec h1
  obtain ⟨r2, h2, h⟩ := jb h
  refine j_callV (As := [.int v1, .int v2]) (b := v0) (rest := []) (rc := 0) (rs := 0) E (sX6_isRegister h2) lwX6_isRegister lkX6_94 imX6_isRegister seX6_isRegister rfl h1 (by decide) rfl (Nat.le_of_ble_eq_true rfl) dX6_number_3 ?_
  refine j_if_ne (tgt := 11) E dX6_number_6 (by decide) (fun hc3 => ?_) (fun hc3 => ?_)
  · replace h := jf hc3 h
    refine j_aload_n E 0 dX6_number_11 rfl rfl ?_
    refine j_iload_n E 1 dX6_number_12 rfl rfl ?_
    refine j_iload_n E 2 dX6_number_13 rfl rfl ?_
    refine j_iconst (v := (1 : Int32)) E dX6_number_14 (by decide) ?_
    refine j_iload_n E 3 dX6_number_15 rfl rfl ?_
    obtain ⟨u4, h4, h⟩ := jb h
    obtain ⟨fs4, h4⟩ := chk_spec h4
    obtain ⟨f5, h5, h⟩ := jb h
    refine j_callV (As := [.int v1, .int v2, .int (1 : Int32), .int v3]) (b := v0) (rest := []) (rc := 0) (rs := 0) E (sX6_holds h5) lwX6_holds lkX6_106 imX6_holds seX6_holds rfl h4 (by decide) rfl (Nat.le_of_ble_eq_true rfl) dX6_number_16 ?_
    refine j_iconst (v := (1 : Int32)) E dX6_number_19 (by decide) ?_
    cases h
    exact j_zret (v := (1 : Int32)) E (by decide +kernel) dX6_number_20
  replace h := jt hc3 h
  refine j_iconst (v := (0 : Int32)) E dX6_number_9 (by decide) ?_
  cases h
  exact j_zret (v := (0 : Int32)) E (by decide +kernel) dX6_number_10
def mX6_drop (f : jM) (v0 : Nat) (v1 : Int32) (v2 : Int32) : Option (Int32 × jM) :=
    (chk 6 f v0).bind fun _ =>
    (mX6_isRegister f v0 v1 v2).bind fun r2 =>
    if r2.1 = 0 then (
    some ((0 : Int32), r2.2)) else (
    (chk 6 r2.2 v0).bind fun _ =>
    (mX6_holds r2.2 v0 v1 v2 (0 : Int32) (0 : Int32)).bind fun f5 =>
    some ((1 : Int32), f5))
set_option maxRecDepth 100000 in
set_option maxHeartbeats 4000000 in
theorem sX6_drop {l : Launch} {D : jD} {sz : Nat} {f : jM} {v0 : Nat} {v1 : Int32} {v2 : Int32} {res : (Int32 × jM)} (h : mX6_drop f v0 v1 v2 = some res) : jCt l D yX6_drop cX6_drop 3 (some .boolean) 2 43 [.ref v0, .int v1, .int v2] f sz 0 0 (some (.int res.1)) res.2 sz := by
  refine j_start (by decide +kernel) (Nat.le_of_ble_eq_true rfl) (fun c hcl hcD hcn E => ?_)
  subst hcl
  subst hcD
  replace E : jOk c cX6_drop 3 RX6 (some .boolean) 2 43 := E
  show J c (jZ c (some (.int res.1)) res.2 sz) f sz 0 0 0 [(0, .ref v0), (1, .int v1), (2, .int v2)] []
  unfold mX6_drop at h
  refine j_aload_n E 0 dX6_drop_0 rfl rfl ?_
  refine j_iload_n E 1 dX6_drop_1 rfl rfl ?_
  refine j_iload_n E 2 dX6_drop_2 rfl rfl ?_
  obtain ⟨u1, h1, h⟩ := jb h
  obtain ⟨fs1, h1⟩ := chk_spec h1
  obtain ⟨r2, h2, h⟩ := jb h
  refine j_callV (As := [.int v1, .int v2]) (b := v0) (rest := []) (rc := 0) (rs := 0) E (sX6_isRegister h2) lwX6_isRegister lkX6_94 imX6_isRegister seX6_isRegister rfl h1 (by decide) rfl (Nat.le_of_ble_eq_true rfl) dX6_drop_3 ?_
  refine j_if_ne (tgt := 11) E dX6_drop_6 (by decide) (fun hc3 => ?_) (fun hc3 => ?_)
  · replace h := jf hc3 h
    refine j_aload_n E 0 dX6_drop_11 rfl rfl ?_
    refine j_iload_n E 1 dX6_drop_12 rfl rfl ?_
    refine j_iload_n E 2 dX6_drop_13 rfl rfl ?_
    refine j_iconst (v := (0 : Int32)) E dX6_drop_14 (by decide) ?_
    refine j_iconst (v := (0 : Int32)) E dX6_drop_15 (by decide) ?_
    obtain ⟨u4, h4, h⟩ := jb h
    obtain ⟨fs4, h4⟩ := chk_spec h4
    obtain ⟨f5, h5, h⟩ := jb h
    refine j_callV (As := [.int v1, .int v2, .int (0 : Int32), .int (0 : Int32)]) (b := v0) (rest := []) (rc := 0) (rs := 0) E (sX6_holds h5) lwX6_holds lkX6_106 imX6_holds seX6_holds rfl h4 (by decide) rfl (Nat.le_of_ble_eq_true rfl) dX6_drop_16 ?_
    refine j_iconst (v := (1 : Int32)) E dX6_drop_19 (by decide) ?_
    cases h
    exact j_zret (v := (1 : Int32)) E (by decide +kernel) dX6_drop_20
  replace h := jt hc3 h
  refine j_iconst (v := (0 : Int32)) E dX6_drop_9 (by decide) ?_
  cases h
  exact j_zret (v := (0 : Int32)) E (by decide +kernel) dX6_drop_10
def mX6_sends (f : jM) (v0 : Nat) (v1 : Int32) (v2 : Int32) (v3 : Int32) (v4 : Int32) (v5 : Int32) (v6 : Int32) : Option jM :=
    (rdR 6 f v0 14).bind fun x1 =>
    (rdI 6 f v0 13).bind fun x2 =>
    (stI 0 f x1 x2 v1).bind fun f3 =>
    (rdR 6 f3 v0 15).bind fun x4 =>
    (rdI 6 f3 v0 13).bind fun x5 =>
    (stI 0 f3 x4 x5 v2).bind fun f6 =>
    (rdR 6 f6 v0 16).bind fun x7 =>
    (rdI 6 f6 v0 13).bind fun x8 =>
    (stI 0 f6 x7 x8 v3).bind fun f9 =>
    (rdR 6 f9 v0 17).bind fun x10 =>
    (rdI 6 f9 v0 13).bind fun x11 =>
    (stI 0 f9 x10 x11 v4).bind fun f12 =>
    (rdR 6 f12 v0 18).bind fun x13 =>
    (rdI 6 f12 v0 13).bind fun x14 =>
    (stI 0 f12 x13 x14 v5).bind fun f15 =>
    (rdR 6 f15 v0 19).bind fun x16 =>
    (rdI 6 f15 v0 13).bind fun x17 =>
    (stI 0 f15 x16 x17 v6).bind fun f18 =>
    (rdI 6 f18 v0 13).bind fun x19 =>
    (wrV 6 f18 v0 13 (.int (x19 + (1 : Int32)))).bind fun f20 =>
    some f20
set_option maxRecDepth 100000 in
set_option maxHeartbeats 4000000 in
theorem sX6_sends {l : Launch} {D : jD} {sz : Nat} {f : jM} {v0 : Nat} {v1 : Int32} {v2 : Int32} {v3 : Int32} {v4 : Int32} {v5 : Int32} {v6 : Int32} {res : jM} (h : mX6_sends f v0 v1 v2 v3 v4 v5 v6 = some res) : jCt l D yX6_sends cX6_sends 7 none 0 0 [.ref v0, .int v1, .int v2, .int v3, .int v4, .int v5, .int v6] f sz 0 0 none res sz := by
  refine j_start (by decide +kernel) (Nat.le_of_ble_eq_true rfl) (fun c hcl hcD hcn E => ?_)
  subst hcl
  subst hcD
  replace E : jOk c cX6_sends 7 RX6 none 0 0 := E
  show J c (jZ c none res sz) f sz 0 0 0 [(0, .ref v0), (1, .int v1), (2, .int v2), (3, .int v3), (4, .int v4), (5, .int v5), (6, .int v6)] []
  unfold mX6_sends at h
  refine j_aload_n E 0 dX6_sends_0 rfl rfl ?_
  obtain ⟨x1, h1, h⟩ := jb h
  refine j_getR E gX6_48 h1 dX6_sends_1 ?_
  refine j_aload_n E 0 dX6_sends_4 rfl rfl ?_
  obtain ⟨x2, h2, h⟩ := jb h
  refine j_getI E gX6_110 h2 dX6_sends_5 ?_
  refine j_iload_n E 1 dX6_sends_8 rfl rfl ?_
  obtain ⟨f3, h3, h⟩ := jb h
  refine j_iast E h3 dX6_sends_9 ?_
  refine j_aload_n E 0 dX6_sends_10 rfl rfl ?_
  obtain ⟨x4, h4, h⟩ := jb h
  refine j_getR E gX6_51 h4 dX6_sends_11 ?_
  refine j_aload_n E 0 dX6_sends_14 rfl rfl ?_
  obtain ⟨x5, h5, h⟩ := jb h
  refine j_getI E gX6_110 h5 dX6_sends_15 ?_
  refine j_iload_n E 2 dX6_sends_18 rfl rfl ?_
  obtain ⟨f6, h6, h⟩ := jb h
  refine j_iast E h6 dX6_sends_19 ?_
  refine j_aload_n E 0 dX6_sends_20 rfl rfl ?_
  obtain ⟨x7, h7, h⟩ := jb h
  refine j_getR E gX6_54 h7 dX6_sends_21 ?_
  refine j_aload_n E 0 dX6_sends_24 rfl rfl ?_
  obtain ⟨x8, h8, h⟩ := jb h
  refine j_getI E gX6_110 h8 dX6_sends_25 ?_
  refine j_iload_n E 3 dX6_sends_28 rfl rfl ?_
  obtain ⟨f9, h9, h⟩ := jb h
  refine j_iast E h9 dX6_sends_29 ?_
  refine j_aload_n E 0 dX6_sends_30 rfl rfl ?_
  obtain ⟨x10, h10, h⟩ := jb h
  refine j_getR E gX6_57 h10 dX6_sends_31 ?_
  refine j_aload_n E 0 dX6_sends_34 rfl rfl ?_
  obtain ⟨x11, h11, h⟩ := jb h
  refine j_getI E gX6_110 h11 dX6_sends_35 ?_
  refine j_iload E 4 dX6_sends_38 rfl ?_
  obtain ⟨f12, h12, h⟩ := jb h
  refine j_iast E h12 dX6_sends_40 ?_
  refine j_aload_n E 0 dX6_sends_41 rfl rfl ?_
  obtain ⟨x13, h13, h⟩ := jb h
  refine j_getR E gX6_60 h13 dX6_sends_42 ?_
  refine j_aload_n E 0 dX6_sends_45 rfl rfl ?_
  obtain ⟨x14, h14, h⟩ := jb h
  refine j_getI E gX6_110 h14 dX6_sends_46 ?_
  refine j_iload E 5 dX6_sends_49 rfl ?_
  obtain ⟨f15, h15, h⟩ := jb h
  refine j_iast E h15 dX6_sends_51 ?_
  refine j_aload_n E 0 dX6_sends_52 rfl rfl ?_
  obtain ⟨x16, h16, h⟩ := jb h
  refine j_getR E gX6_63 h16 dX6_sends_53 ?_
  refine j_aload_n E 0 dX6_sends_56 rfl rfl ?_
  obtain ⟨x17, h17, h⟩ := jb h
  refine j_getI E gX6_110 h17 dX6_sends_57 ?_
  refine j_iload E 6 dX6_sends_60 rfl ?_
  obtain ⟨f18, h18, h⟩ := jb h
  refine j_iast E h18 dX6_sends_62 ?_
  refine j_aload_n E 0 dX6_sends_63 rfl rfl ?_
  refine j_dup E dX6_sends_64 rfl ?_
  obtain ⟨x19, h19, h⟩ := jb h
  refine j_getI E gX6_110 h19 dX6_sends_65 ?_
  refine j_iconst (v := (1 : Int32)) E dX6_sends_68 (by decide) ?_
  refine j_iadd E dX6_sends_69 ?_
  obtain ⟨f20, h20, h⟩ := jb h
  refine j_putV E gpX6_110 h20 rfl rfl dX6_sends_70 ?_
  cases h
  exact j_vret E dX6_sends_73
def mX6_takes_L12 (fu : Nat)  (v0 : Nat) : Nat → Int32 → jM → Option jM
  | 0, _, _ => none
  | n + 1, v2, f =>
    (rdI 6 f v0 13).bind fun x1 =>
    if x1 ≤ v2 then (
    some f) else (
    (rdR 6 f v0 14).bind fun x3 =>
    (rdR 6 f v0 14).bind fun x4 =>
    (ldI 0 f x4 (v2 + (1 : Int32))).bind fun x5 =>
    (stI 0 f x3 v2 x5).bind fun f6 =>
    (rdR 6 f6 v0 15).bind fun x7 =>
    (rdR 6 f6 v0 15).bind fun x8 =>
    (ldI 0 f6 x8 (v2 + (1 : Int32))).bind fun x9 =>
    (stI 0 f6 x7 v2 x9).bind fun f10 =>
    (rdR 6 f10 v0 16).bind fun x11 =>
    (rdR 6 f10 v0 16).bind fun x12 =>
    (ldI 0 f10 x12 (v2 + (1 : Int32))).bind fun x13 =>
    (stI 0 f10 x11 v2 x13).bind fun f14 =>
    (rdR 6 f14 v0 17).bind fun x15 =>
    (rdR 6 f14 v0 17).bind fun x16 =>
    (ldI 0 f14 x16 (v2 + (1 : Int32))).bind fun x17 =>
    (stI 0 f14 x15 v2 x17).bind fun f18 =>
    (rdR 6 f18 v0 18).bind fun x19 =>
    (rdR 6 f18 v0 18).bind fun x20 =>
    (ldI 0 f18 x20 (v2 + (1 : Int32))).bind fun x21 =>
    (stI 0 f18 x19 v2 x21).bind fun f22 =>
    (rdR 6 f22 v0 19).bind fun x23 =>
    (rdR 6 f22 v0 19).bind fun x24 =>
    (ldI 0 f22 x24 (v2 + (1 : Int32))).bind fun x25 =>
    (stI 0 f22 x23 v2 x25).bind fun f26 =>
    mX6_takes_L12 fu v0 n (v2 + (1 : Int32)) f26)
set_option maxRecDepth 100000 in
set_option maxHeartbeats 4000000 in
theorem wX6_takes_L12 {c : jS} {sz : Nat} {fu : Nat}  {v0 : Nat} {res : jM} (E : jOk c cX6_takes 3 RX6 none 0 0)  : ∀ (n : Nat) (v2 : Int32) (f : jM), mX6_takes_L12 fu  v0 n v2 f = some res → J c (jZ c none res sz) f sz 0 0 12 [(0, .ref v0), (2, .int v2)] [] := by
  intro n
  induction n with
  | zero => intro v2 f h; exact jn0 h
  | succ n ih =>
    intro v2 f h
    rw [mX6_takes_L12] at h
    refine j_iload_n E 1 dX6_takes_12 rfl rfl ?_
    refine j_aload_n E 0 dX6_takes_13 rfl rfl ?_
    obtain ⟨x1, h1, h⟩ := jb h
    refine j_getI E gX6_110 h1 dX6_takes_14 ?_
    refine j_icmp_ge (tgt := 110) E dX6_takes_17 (by decide) (fun hc2 => ?_) (fun hc2 => ?_)
    · replace h := jt hc2 h
      cases h
      exact j_vret E dX6_takes_110
    replace h := jf hc2 h
    refine j_aload_n E 0 dX6_takes_20 rfl rfl ?_
    obtain ⟨x3, h3, h⟩ := jb h
    refine j_getR E gX6_48 h3 dX6_takes_21 ?_
    refine j_iload_n E 1 dX6_takes_24 rfl rfl ?_
    refine j_aload_n E 0 dX6_takes_25 rfl rfl ?_
    obtain ⟨x4, h4, h⟩ := jb h
    refine j_getR E gX6_48 h4 dX6_takes_26 ?_
    refine j_iload_n E 1 dX6_takes_29 rfl rfl ?_
    refine j_iconst (v := (1 : Int32)) E dX6_takes_30 (by decide) ?_
    refine j_iadd E dX6_takes_31 ?_
    obtain ⟨x5, h5, h⟩ := jb h
    refine j_iald E h5 dX6_takes_32 ?_
    obtain ⟨f6, h6, h⟩ := jb h
    refine j_iast E h6 dX6_takes_33 ?_
    refine j_aload_n E 0 dX6_takes_34 rfl rfl ?_
    obtain ⟨x7, h7, h⟩ := jb h
    refine j_getR E gX6_51 h7 dX6_takes_35 ?_
    refine j_iload_n E 1 dX6_takes_38 rfl rfl ?_
    refine j_aload_n E 0 dX6_takes_39 rfl rfl ?_
    obtain ⟨x8, h8, h⟩ := jb h
    refine j_getR E gX6_51 h8 dX6_takes_40 ?_
    refine j_iload_n E 1 dX6_takes_43 rfl rfl ?_
    refine j_iconst (v := (1 : Int32)) E dX6_takes_44 (by decide) ?_
    refine j_iadd E dX6_takes_45 ?_
    obtain ⟨x9, h9, h⟩ := jb h
    refine j_iald E h9 dX6_takes_46 ?_
    obtain ⟨f10, h10, h⟩ := jb h
    refine j_iast E h10 dX6_takes_47 ?_
    refine j_aload_n E 0 dX6_takes_48 rfl rfl ?_
    obtain ⟨x11, h11, h⟩ := jb h
    refine j_getR E gX6_54 h11 dX6_takes_49 ?_
    refine j_iload_n E 1 dX6_takes_52 rfl rfl ?_
    refine j_aload_n E 0 dX6_takes_53 rfl rfl ?_
    obtain ⟨x12, h12, h⟩ := jb h
    refine j_getR E gX6_54 h12 dX6_takes_54 ?_
    refine j_iload_n E 1 dX6_takes_57 rfl rfl ?_
    refine j_iconst (v := (1 : Int32)) E dX6_takes_58 (by decide) ?_
    refine j_iadd E dX6_takes_59 ?_
    obtain ⟨x13, h13, h⟩ := jb h
    refine j_iald E h13 dX6_takes_60 ?_
    obtain ⟨f14, h14, h⟩ := jb h
    refine j_iast E h14 dX6_takes_61 ?_
    refine j_aload_n E 0 dX6_takes_62 rfl rfl ?_
    obtain ⟨x15, h15, h⟩ := jb h
    refine j_getR E gX6_57 h15 dX6_takes_63 ?_
    refine j_iload_n E 1 dX6_takes_66 rfl rfl ?_
    refine j_aload_n E 0 dX6_takes_67 rfl rfl ?_
    obtain ⟨x16, h16, h⟩ := jb h
    refine j_getR E gX6_57 h16 dX6_takes_68 ?_
    refine j_iload_n E 1 dX6_takes_71 rfl rfl ?_
    refine j_iconst (v := (1 : Int32)) E dX6_takes_72 (by decide) ?_
    refine j_iadd E dX6_takes_73 ?_
    obtain ⟨x17, h17, h⟩ := jb h
    refine j_iald E h17 dX6_takes_74 ?_
    obtain ⟨f18, h18, h⟩ := jb h
    refine j_iast E h18 dX6_takes_75 ?_
    refine j_aload_n E 0 dX6_takes_76 rfl rfl ?_
    obtain ⟨x19, h19, h⟩ := jb h
    refine j_getR E gX6_60 h19 dX6_takes_77 ?_
    refine j_iload_n E 1 dX6_takes_80 rfl rfl ?_
    refine j_aload_n E 0 dX6_takes_81 rfl rfl ?_
    obtain ⟨x20, h20, h⟩ := jb h
    refine j_getR E gX6_60 h20 dX6_takes_82 ?_
    refine j_iload_n E 1 dX6_takes_85 rfl rfl ?_
    refine j_iconst (v := (1 : Int32)) E dX6_takes_86 (by decide) ?_
    refine j_iadd E dX6_takes_87 ?_
    obtain ⟨x21, h21, h⟩ := jb h
    refine j_iald E h21 dX6_takes_88 ?_
    obtain ⟨f22, h22, h⟩ := jb h
    refine j_iast E h22 dX6_takes_89 ?_
    refine j_aload_n E 0 dX6_takes_90 rfl rfl ?_
    obtain ⟨x23, h23, h⟩ := jb h
    refine j_getR E gX6_63 h23 dX6_takes_91 ?_
    refine j_iload_n E 1 dX6_takes_94 rfl rfl ?_
    refine j_aload_n E 0 dX6_takes_95 rfl rfl ?_
    obtain ⟨x24, h24, h⟩ := jb h
    refine j_getR E gX6_63 h24 dX6_takes_96 ?_
    refine j_iload_n E 1 dX6_takes_99 rfl rfl ?_
    refine j_iconst (v := (1 : Int32)) E dX6_takes_100 (by decide) ?_
    refine j_iadd E dX6_takes_101 ?_
    obtain ⟨x25, h25, h⟩ := jb h
    refine j_iald E h25 dX6_takes_102 ?_
    obtain ⟨f26, h26, h⟩ := jb h
    refine j_iast E h26 dX6_takes_103 ?_
    refine j_iinc (v := (v2 + (1 : Int32))) (lv' := [(2, .int (v2 + (1 : Int32))), (0, .ref v0)]) E 1 dX6_takes_104 rfl rfl (by decide) rfl ?_
    refine j_goto (tgt := 12) E dX6_takes_107 (by decide) ?_
    exact j_sub [1, 0] rfl (ih _ _ h)
def mX6_takes (fu : Nat) (f : jM) (v0 : Nat) (v1 : Int32) : Option jM :=
    (rdI 6 f v0 13).bind fun x27 =>
    (wrV 6 f v0 13 (.int (x27 - (1 : Int32)))).bind fun f28 =>
    mX6_takes_L12 fu v0 fu v1 f28
set_option maxRecDepth 100000 in
set_option maxHeartbeats 4000000 in
theorem sX6_takes {l : Launch} {D : jD} {sz : Nat} {fu : Nat} {f : jM} {v0 : Nat} {v1 : Int32} {res : jM} (h : mX6_takes fu f v0 v1 = some res) : jCt l D yX6_takes cX6_takes 3 none 0 0 [.ref v0, .int v1] f sz 0 0 none res sz := by
  refine j_start (by decide +kernel) (Nat.le_of_ble_eq_true rfl) (fun c hcl hcD hcn E => ?_)
  subst hcl
  subst hcD
  replace E : jOk c cX6_takes 3 RX6 none 0 0 := E
  show J c (jZ c none res sz) f sz 0 0 0 [(0, .ref v0), (1, .int v1)] []
  unfold mX6_takes at h
  refine j_aload_n E 0 dX6_takes_0 rfl rfl ?_
  refine j_dup E dX6_takes_1 rfl ?_
  obtain ⟨x27, h27, h⟩ := jb h
  refine j_getI E gX6_110 h27 dX6_takes_2 ?_
  refine j_iconst (v := (1 : Int32)) E dX6_takes_5 (by decide) ?_
  refine j_isub E dX6_takes_6 ?_
  obtain ⟨f28, h28, h⟩ := jb h
  refine j_putV E gpX6_110 h28 rfl rfl dX6_takes_7 ?_
  refine j_iload_n E 1 dX6_takes_10 rfl rfl ?_
  refine j_istore_n (lv' := [(2, .int v1), (0, .ref v0), (1, .int v1)]) E dX6_takes_11 rfl (by decide) rfl ?_
  exact j_sub [1, 0] rfl (wX6_takes_L12 E _ _ _ h)
def mX6_send_B137  (v0 : Nat) (v1 : Int32) (v3 : Int32) (v4 : Int32) (v5 : Int32) (v6 : Int32)  (f : jM) : Option (Int32 × jM) :=
    (chk 6 f v0).bind fun _ =>
    (mX6_sends f v0 v1 v3 (1 : Int32) v5 v6 v4).bind fun f2 =>
    some (v6, f2)
set_option maxRecDepth 100000 in
set_option maxHeartbeats 4000000 in
theorem wX6_send_B137 {c : jS} {sz : Nat}  {v0 : Nat} {v1 : Int32} {v3 : Int32} {v4 : Int32} {v5 : Int32} {v6 : Int32}  {f : jM} {res : (Int32 × jM)} (E : jOk c cX6_send 8 RX6 (some .int) 2 43)  (h : mX6_send_B137  v0 v1 v3 v4 v5 v6  f = some res) : J c (jZ c (some (.int res.1)) res.2 sz) f sz 0 0 137 [(0, .ref v0), (1, .int v1), (3, .int v3), (4, .int v4), (5, .int v5), (6, .int v6)] [] := by
  unfold mX6_send_B137 at h
  refine j_aload_n E 0 dX6_send_137 rfl rfl ?_
  refine j_iload_n E 1 dX6_send_138 rfl rfl ?_
  refine j_iload_n E 2 dX6_send_139 rfl rfl ?_
  refine j_iconst (v := (1 : Int32)) E dX6_send_140 (by decide) ?_
  refine j_iload E 4 dX6_send_141 rfl ?_
  refine j_iload E 5 dX6_send_143 rfl ?_
  refine j_iload E 3 dX6_send_145 rfl ?_
  obtain ⟨u1, h1, h⟩ := jb h
  obtain ⟨fs1, h1⟩ := chk_spec h1
  obtain ⟨f2, h2, h⟩ := jb h
  refine j_callV (As := [.int v1, .int v3, .int (1 : Int32), .int v5, .int v6, .int v4]) (b := v0) (rest := []) (rc := 0) (rs := 0) E (sX6_sends h2) lwX6_sends lkX6_113 imX6_sends seX6_sends rfl h1 (by decide) rfl (Nat.le_of_ble_eq_true rfl) dX6_send_147 ?_
  refine j_iload E 5 dX6_send_150 rfl ?_
  cases h
  exact j_iret E dX6_send_152
def mX6_send (f : jM) (v0 : Nat) (v1 : Int32) (v2 : Int32) (v3 : Int32) (v4 : Int32) : Option (Int32 × jM) :=
    (chk 6 f v0).bind fun _ =>
    (mX6_isRegister f v0 v1 v2).bind fun r4 =>
    if r4.1 = 0 then (
    some ((-1 : Int32), r4.2)) else (
    (chk 6 r4.2 v0).bind fun _ =>
    (mX6_isRegister r4.2 v0 v3 v4).bind fun r7 =>
    if r7.1 = 0 then (
    some ((-1 : Int32), r7.2)) else (
    if v3 = v1 then (
    some ((-1 : Int32), r7.2)) else (
    (rdR 6 r7.2 v0 8).bind fun x10 =>
    (ldI 0 r7.2 x10 (((6 : Int32) * v1) + v2)).bind fun x11 =>
    if x11 = (2 : Int32) then (
    (rdI 6 r7.2 v0 13).bind fun x13 =>
    if x13 = (60 : Int32) then (
    some ((-1 : Int32), r7.2)) else (
    (rdR 6 r7.2 v0 9).bind fun x15 =>
    (ldI 0 r7.2 x15 (((6 : Int32) * v1) + v2)).bind fun x16 =>
    if (x16 / (24 : Int32)) = v1 then (
    (rdR 6 r7.2 v0 4).bind fun x26 =>
    (ldI 0 r7.2 x26 x16).bind fun x27 =>
    (stI 0 r7.2 x26 x16 (x27 + (64 : Int32))).bind fun f28 =>
    mX6_send_B137 v0 v1 v3 v4 x16 (64 : Int32) f28) else (
    (rdR 6 r7.2 v0 10).bind fun x18 =>
    (ldI 0 r7.2 x18 (((120 : Int32) * v1) + x16)).bind fun x19 =>
    if x19 = (1 : Int32) then (
    some ((-2 : Int32), r7.2)) else (
    (rdR 6 r7.2 v0 10).bind fun x21 =>
    (ldI 0 r7.2 x21 (((120 : Int32) * v1) + x16)).bind fun x22 =>
    (rdR 6 r7.2 v0 10).bind fun x23 =>
    (ldI 0 r7.2 x23 (((120 : Int32) * v1) + x16)).bind fun x24 =>
    (stI 0 r7.2 x23 (((120 : Int32) * v1) + x16) (x24 - (x22 / (2 : Int32)))).bind fun f25 =>
    mX6_send_B137 v0 v1 v3 v4 x16 (x22 / (2 : Int32)) f25)))) else (
    some ((-1 : Int32), r7.2)))))
set_option maxRecDepth 100000 in
set_option maxHeartbeats 4000000 in
theorem sX6_send {l : Launch} {D : jD} {sz : Nat} {f : jM} {v0 : Nat} {v1 : Int32} {v2 : Int32} {v3 : Int32} {v4 : Int32} {res : (Int32 × jM)} (h : mX6_send f v0 v1 v2 v3 v4 = some res) : jCt l D yX6_send cX6_send 8 (some .int) 2 43 [.ref v0, .int v1, .int v2, .int v3, .int v4] f sz 0 0 (some (.int res.1)) res.2 sz := by
  refine j_start (by decide +kernel) (Nat.le_of_ble_eq_true rfl) (fun c hcl hcD hcn E => ?_)
  subst hcl
  subst hcD
  replace E : jOk c cX6_send 8 RX6 (some .int) 2 43 := E
  show J c (jZ c (some (.int res.1)) res.2 sz) f sz 0 0 0 [(0, .ref v0), (1, .int v1), (2, .int v2), (3, .int v3), (4, .int v4)] []
  unfold mX6_send at h
  refine j_aload_n E 0 dX6_send_0 rfl rfl ?_
  refine j_iload_n E 1 dX6_send_1 rfl rfl ?_
  refine j_iload_n E 2 dX6_send_2 rfl rfl ?_
  obtain ⟨u3, h3, h⟩ := jb h
  obtain ⟨fs3, h3⟩ := chk_spec h3
  obtain ⟨r4, h4, h⟩ := jb h
  refine j_callV (As := [.int v1, .int v2]) (b := v0) (rest := []) (rc := 0) (rs := 0) E (sX6_isRegister h4) lwX6_isRegister lkX6_94 imX6_isRegister seX6_isRegister rfl h3 (by decide) rfl (Nat.le_of_ble_eq_true rfl) dX6_send_3 ?_
  refine j_if_eq (tgt := 48) E dX6_send_6 (by decide) (fun hc5 => ?_) (fun hc5 => ?_)
  · replace h := jt hc5 h
    refine j_iconst (v := (-1 : Int32)) E dX6_send_48 (by decide) ?_
    cases h
    exact j_iret E dX6_send_49
  replace h := jf hc5 h
  refine j_aload_n E 0 dX6_send_9 rfl rfl ?_
  refine j_iload_n E 3 dX6_send_10 rfl rfl ?_
  refine j_iload E 4 dX6_send_11 rfl ?_
  obtain ⟨u6, h6, h⟩ := jb h
  obtain ⟨fs6, h6⟩ := chk_spec h6
  obtain ⟨r7, h7, h⟩ := jb h
  refine j_callV (As := [.int v3, .int v4]) (b := v0) (rest := []) (rc := 0) (rs := 0) E (sX6_isRegister h7) lwX6_isRegister lkX6_94 imX6_isRegister seX6_isRegister rfl h6 (by decide) rfl (Nat.le_of_ble_eq_true rfl) dX6_send_13 ?_
  refine j_if_eq (tgt := 48) E dX6_send_16 (by decide) (fun hc8 => ?_) (fun hc8 => ?_)
  · replace h := jt hc8 h
    refine j_iconst (v := (-1 : Int32)) E dX6_send_48 (by decide) ?_
    cases h
    exact j_iret E dX6_send_49
  replace h := jf hc8 h
  refine j_iload_n E 3 dX6_send_19 rfl rfl ?_
  refine j_iload_n E 1 dX6_send_20 rfl rfl ?_
  refine j_icmp_eq (tgt := 48) E dX6_send_21 (by decide) (fun hc9 => ?_) (fun hc9 => ?_)
  · replace h := jt hc9 h
    refine j_iconst (v := (-1 : Int32)) E dX6_send_48 (by decide) ?_
    cases h
    exact j_iret E dX6_send_49
  replace h := jf hc9 h
  refine j_aload_n E 0 dX6_send_24 rfl rfl ?_
  obtain ⟨x10, h10, h⟩ := jb h
  refine j_getR E gX6_33 h10 dX6_send_25 ?_
  refine j_bipush (v := (6 : Int32)) E dX6_send_28 (by decide) ?_
  refine j_iload_n E 1 dX6_send_30 rfl rfl ?_
  refine j_imul E dX6_send_31 ?_
  refine j_iload_n E 2 dX6_send_32 rfl rfl ?_
  refine j_iadd E dX6_send_33 ?_
  obtain ⟨x11, h11, h⟩ := jb h
  refine j_iald E h11 dX6_send_34 ?_
  refine j_iconst (v := (2 : Int32)) E dX6_send_35 (by decide) ?_
  refine j_icmp_ne (tgt := 48) E dX6_send_36 (by decide) (fun hc12 => ?_) (fun hc12 => ?_)
  · replace h := jf hc12 h
    refine j_iconst (v := (-1 : Int32)) E dX6_send_48 (by decide) ?_
    cases h
    exact j_iret E dX6_send_49
  replace h := jt hc12 h
  refine j_aload_n E 0 dX6_send_39 rfl rfl ?_
  obtain ⟨x13, h13, h⟩ := jb h
  refine j_getI E gX6_110 h13 dX6_send_40 ?_
  refine j_bipush (v := (60 : Int32)) E dX6_send_43 (by decide) ?_
  refine j_icmp_ne (tgt := 50) E dX6_send_45 (by decide) (fun hc14 => ?_) (fun hc14 => ?_)
  · replace h := jf hc14 h
    refine j_aload_n E 0 dX6_send_50 rfl rfl ?_
    obtain ⟨x15, h15, h⟩ := jb h
    refine j_getR E gX6_36 h15 dX6_send_51 ?_
    refine j_bipush (v := (6 : Int32)) E dX6_send_54 (by decide) ?_
    refine j_iload_n E 1 dX6_send_56 rfl rfl ?_
    refine j_imul E dX6_send_57 ?_
    refine j_iload_n E 2 dX6_send_58 rfl rfl ?_
    refine j_iadd E dX6_send_59 ?_
    obtain ⟨x16, h16, h⟩ := jb h
    refine j_iald E h16 dX6_send_60 ?_
    refine j_istore (lv' := [(5, .int x16), (0, .ref v0), (1, .int v1), (2, .int v2), (3, .int v3), (4, .int v4)]) E dX6_send_61 (by decide) rfl ?_
    refine j_bipush (v := (64 : Int32)) E dX6_send_63 (by decide) ?_
    refine j_istore (lv' := [(6, .int (64 : Int32)), (5, .int x16), (0, .ref v0), (1, .int v1), (2, .int v2), (3, .int v3), (4, .int v4)]) E dX6_send_65 (by decide) rfl ?_
    refine j_iload E 1 dX6_send_67 rfl ?_
    refine j_bipush (v := (24 : Int32)) E dX6_send_69 (by decide) ?_
    refine j_idiv E dX6_send_71 (by decide) ?_
    refine j_iload_n E 3 dX6_send_72 rfl rfl ?_
    refine j_icmp_ne (tgt := 91) E dX6_send_73 (by decide) (fun hc17 => ?_) (fun hc17 => ?_)
    · replace h := jf hc17 h
      refine j_bipush (v := (120 : Int32)) E dX6_send_91 (by decide) ?_
      refine j_iload_n E 3 dX6_send_93 rfl rfl ?_
      refine j_imul E dX6_send_94 ?_
      refine j_iload E 1 dX6_send_95 rfl ?_
      refine j_iadd E dX6_send_97 ?_
      refine j_istore (lv' := [(7, .int (((120 : Int32) * v1) + x16)), (6, .int (64 : Int32)), (5, .int x16), (0, .ref v0), (1, .int v1), (2, .int v2), (3, .int v3), (4, .int v4)]) E dX6_send_98 (by decide) rfl ?_
      refine j_aload_n E 3 dX6_send_100 rfl rfl ?_
      obtain ⟨x18, h18, h⟩ := jb h
      refine j_getR E gX6_39 h18 dX6_send_101 ?_
      refine j_iload E 0 dX6_send_104 rfl ?_
      obtain ⟨x19, h19, h⟩ := jb h
      refine j_iald E h19 dX6_send_106 ?_
      refine j_iconst (v := (1 : Int32)) E dX6_send_107 (by decide) ?_
      refine j_icmp_ne (tgt := 114) E dX6_send_108 (by decide) (fun hc20 => ?_) (fun hc20 => ?_)
      · replace h := jf hc20 h
        refine j_aload_n E 3 dX6_send_114 rfl rfl ?_
        obtain ⟨x21, h21, h⟩ := jb h
        refine j_getR E gX6_39 h21 dX6_send_115 ?_
        refine j_iload E 0 dX6_send_118 rfl ?_
        obtain ⟨x22, h22, h⟩ := jb h
        refine j_iald E h22 dX6_send_120 ?_
        refine j_iconst (v := (2 : Int32)) E dX6_send_121 (by decide) ?_
        refine j_idiv E dX6_send_122 (by decide) ?_
        refine j_istore (lv' := [(6, .int (x22 / (2 : Int32))), (7, .int (((120 : Int32) * v1) + x16)), (5, .int x16), (0, .ref v0), (1, .int v1), (2, .int v2), (3, .int v3), (4, .int v4)]) E dX6_send_123 (by decide) rfl ?_
        refine j_aload_n E 3 dX6_send_125 rfl rfl ?_
        obtain ⟨x23, h23, h⟩ := jb h
        refine j_getR E gX6_39 h23 dX6_send_126 ?_
        refine j_iload E 1 dX6_send_129 rfl ?_
        refine j_dup2 E dX6_send_131 rfl rfl ?_
        obtain ⟨x24, h24, h⟩ := jb h
        refine j_iald E h24 dX6_send_132 ?_
        refine j_iload E 0 dX6_send_133 rfl ?_
        refine j_isub E dX6_send_135 ?_
        obtain ⟨f25, h25, h⟩ := jb h
        refine j_iast E h25 dX6_send_136 ?_
        exact j_sub [3, 4, 6, 7, 2, 0] rfl (wX6_send_B137 E  h)
      replace h := jt hc20 h
      refine j_bipush (v := (-2 : Int32)) E dX6_send_111 (by decide) ?_
      cases h
      exact j_iret E dX6_send_113
    replace h := jt hc17 h
    refine j_aload_n E 2 dX6_send_76 rfl rfl ?_
    obtain ⟨x26, h26, h⟩ := jb h
    refine j_getR E gX6_20 h26 dX6_send_77 ?_
    refine j_iload E 1 dX6_send_80 rfl ?_
    refine j_dup2 E dX6_send_82 rfl rfl ?_
    obtain ⟨x27, h27, h⟩ := jb h
    refine j_iald E h27 dX6_send_83 ?_
    refine j_bipush (v := (64 : Int32)) E dX6_send_84 (by decide) ?_
    refine j_iadd E dX6_send_86 ?_
    obtain ⟨f28, h28, h⟩ := jb h
    refine j_iast E h28 dX6_send_87 ?_
    refine j_goto (tgt := 137) E dX6_send_88 (by decide) ?_
    exact j_sub [2, 3, 5, 6, 1, 0] rfl (wX6_send_B137 E  h)
  replace h := jt hc14 h
  refine j_iconst (v := (-1 : Int32)) E dX6_send_48 (by decide) ?_
  cases h
  exact j_iret E dX6_send_49
def mX6_ask (f : jM) (v0 : Nat) (v1 : Int32) (v2 : Int32) : Option (Int32 × jM) :=
    (chk 6 f v0).bind fun _ =>
    (mX6_isRegister f v0 v1 v2).bind fun r2 =>
    if r2.1 = 0 then (
    some ((0 : Int32), r2.2)) else (
    (rdR 6 r2.2 v0 8).bind fun x4 =>
    (ldI 0 r2.2 x4 (((6 : Int32) * v1) + v2)).bind fun x5 =>
    if x5 = (2 : Int32) then (
    (rdI 6 r2.2 v0 13).bind fun x7 =>
    if x7 = (60 : Int32) then (
    some ((0 : Int32), r2.2)) else (
    (rdR 6 r2.2 v0 9).bind fun x9 =>
    (ldI 0 r2.2 x9 (((6 : Int32) * v1) + v2)).bind fun x10 =>
    if (x10 / (24 : Int32)) = v1 then (
    some ((0 : Int32), r2.2)) else (
    (chk 6 r2.2 v0).bind fun _ =>
    (mX6_sends r2.2 v0 v1 (x10 / (24 : Int32)) (3 : Int32) x10 (0 : Int32) (-1 : Int32)).bind fun f13 =>
    some ((1 : Int32), f13)))) else (
    some ((0 : Int32), r2.2)))
set_option maxRecDepth 100000 in
set_option maxHeartbeats 4000000 in
theorem sX6_ask {l : Launch} {D : jD} {sz : Nat} {f : jM} {v0 : Nat} {v1 : Int32} {v2 : Int32} {res : (Int32 × jM)} (h : mX6_ask f v0 v1 v2 = some res) : jCt l D yX6_ask cX6_ask 4 (some .boolean) 2 43 [.ref v0, .int v1, .int v2] f sz 0 0 (some (.int res.1)) res.2 sz := by
  refine j_start (by decide +kernel) (Nat.le_of_ble_eq_true rfl) (fun c hcl hcD hcn E => ?_)
  subst hcl
  subst hcD
  replace E : jOk c cX6_ask 4 RX6 (some .boolean) 2 43 := E
  show J c (jZ c (some (.int res.1)) res.2 sz) f sz 0 0 0 [(0, .ref v0), (1, .int v1), (2, .int v2)] []
  unfold mX6_ask at h
  refine j_aload_n E 0 dX6_ask_0 rfl rfl ?_
  refine j_iload_n E 1 dX6_ask_1 rfl rfl ?_
  refine j_iload_n E 2 dX6_ask_2 rfl rfl ?_
  obtain ⟨u1, h1, h⟩ := jb h
  obtain ⟨fs1, h1⟩ := chk_spec h1
  obtain ⟨r2, h2, h⟩ := jb h
  refine j_callV (As := [.int v1, .int v2]) (b := v0) (rest := []) (rc := 0) (rs := 0) E (sX6_isRegister h2) lwX6_isRegister lkX6_94 imX6_isRegister seX6_isRegister rfl h1 (by decide) rfl (Nat.le_of_ble_eq_true rfl) dX6_ask_3 ?_
  refine j_if_eq (tgt := 33) E dX6_ask_6 (by decide) (fun hc3 => ?_) (fun hc3 => ?_)
  · replace h := jt hc3 h
    refine j_iconst (v := (0 : Int32)) E dX6_ask_33 (by decide) ?_
    cases h
    exact j_zret (v := (0 : Int32)) E (by decide +kernel) dX6_ask_34
  replace h := jf hc3 h
  refine j_aload_n E 0 dX6_ask_9 rfl rfl ?_
  obtain ⟨x4, h4, h⟩ := jb h
  refine j_getR E gX6_33 h4 dX6_ask_10 ?_
  refine j_bipush (v := (6 : Int32)) E dX6_ask_13 (by decide) ?_
  refine j_iload_n E 1 dX6_ask_15 rfl rfl ?_
  refine j_imul E dX6_ask_16 ?_
  refine j_iload_n E 2 dX6_ask_17 rfl rfl ?_
  refine j_iadd E dX6_ask_18 ?_
  obtain ⟨x5, h5, h⟩ := jb h
  refine j_iald E h5 dX6_ask_19 ?_
  refine j_iconst (v := (2 : Int32)) E dX6_ask_20 (by decide) ?_
  refine j_icmp_ne (tgt := 33) E dX6_ask_21 (by decide) (fun hc6 => ?_) (fun hc6 => ?_)
  · replace h := jf hc6 h
    refine j_iconst (v := (0 : Int32)) E dX6_ask_33 (by decide) ?_
    cases h
    exact j_zret (v := (0 : Int32)) E (by decide +kernel) dX6_ask_34
  replace h := jt hc6 h
  refine j_aload_n E 0 dX6_ask_24 rfl rfl ?_
  obtain ⟨x7, h7, h⟩ := jb h
  refine j_getI E gX6_110 h7 dX6_ask_25 ?_
  refine j_bipush (v := (60 : Int32)) E dX6_ask_28 (by decide) ?_
  refine j_icmp_ne (tgt := 35) E dX6_ask_30 (by decide) (fun hc8 => ?_) (fun hc8 => ?_)
  · replace h := jf hc8 h
    refine j_aload_n E 0 dX6_ask_35 rfl rfl ?_
    obtain ⟨x9, h9, h⟩ := jb h
    refine j_getR E gX6_36 h9 dX6_ask_36 ?_
    refine j_bipush (v := (6 : Int32)) E dX6_ask_39 (by decide) ?_
    refine j_iload_n E 1 dX6_ask_41 rfl rfl ?_
    refine j_imul E dX6_ask_42 ?_
    refine j_iload_n E 2 dX6_ask_43 rfl rfl ?_
    refine j_iadd E dX6_ask_44 ?_
    obtain ⟨x10, h10, h⟩ := jb h
    refine j_iald E h10 dX6_ask_45 ?_
    refine j_istore_n (lv' := [(3, .int x10), (0, .ref v0), (1, .int v1), (2, .int v2)]) E dX6_ask_46 rfl (by decide) rfl ?_
    refine j_iload_n E 0 dX6_ask_47 rfl rfl ?_
    refine j_bipush (v := (24 : Int32)) E dX6_ask_48 (by decide) ?_
    refine j_idiv E dX6_ask_50 (by decide) ?_
    refine j_iload_n E 2 dX6_ask_51 rfl rfl ?_
    refine j_icmp_ne (tgt := 57) E dX6_ask_52 (by decide) (fun hc11 => ?_) (fun hc11 => ?_)
    · replace h := jf hc11 h
      refine j_aload_n E 1 dX6_ask_57 rfl rfl ?_
      refine j_iload_n E 2 dX6_ask_58 rfl rfl ?_
      refine j_iload_n E 0 dX6_ask_59 rfl rfl ?_
      refine j_bipush (v := (24 : Int32)) E dX6_ask_60 (by decide) ?_
      refine j_idiv E dX6_ask_62 (by decide) ?_
      refine j_iconst (v := (3 : Int32)) E dX6_ask_63 (by decide) ?_
      refine j_iload_n E 0 dX6_ask_64 rfl rfl ?_
      refine j_iconst (v := (0 : Int32)) E dX6_ask_65 (by decide) ?_
      refine j_iconst (v := (-1 : Int32)) E dX6_ask_66 (by decide) ?_
      obtain ⟨u12, h12, h⟩ := jb h
      obtain ⟨fs12, h12⟩ := chk_spec h12
      obtain ⟨f13, h13, h⟩ := jb h
      refine j_callV (As := [.int v1, .int (x10 / (24 : Int32)), .int (3 : Int32), .int x10, .int (0 : Int32), .int (-1 : Int32)]) (b := v0) (rest := []) (rc := 0) (rs := 0) E (sX6_sends h13) lwX6_sends lkX6_113 imX6_sends seX6_sends rfl h12 (by decide) rfl (Nat.le_of_ble_eq_true rfl) dX6_ask_67 ?_
      refine j_iconst (v := (1 : Int32)) E dX6_ask_70 (by decide) ?_
      cases h
      exact j_zret (v := (1 : Int32)) E (by decide +kernel) dX6_ask_71
    replace h := jt hc11 h
    refine j_iconst (v := (0 : Int32)) E dX6_ask_55 (by decide) ?_
    cases h
    exact j_zret (v := (0 : Int32)) E (by decide +kernel) dX6_ask_56
  replace h := jt hc8 h
  refine j_iconst (v := (0 : Int32)) E dX6_ask_33 (by decide) ?_
  cases h
  exact j_zret (v := (0 : Int32)) E (by decide +kernel) dX6_ask_34
def mX6_importsOf_L4 (fu : Nat)  (v0 : Nat) (v1 : Int32) : Nat → Int32 → Int32 → jM → Option (Int32 × jM)
  | 0, _, _, _ => none
  | n + 1, v2, v3, f =>
    if (120 : Int32) ≤ v3 then (
    some (v2, f)) else (
    (rdR 6 f v0 10).bind fun x2 =>
    (ldI 0 f x2 (((120 : Int32) * v1) + v3)).bind fun x3 =>
    if x3 ≤ 0 then (
    mX6_importsOf_L4 fu v0 v1 n v2 (v3 + (1 : Int32)) f) else (
    mX6_importsOf_L4 fu v0 v1 n (v2 + (1 : Int32)) (v3 + (1 : Int32)) f))
set_option maxRecDepth 100000 in
set_option maxHeartbeats 4000000 in
theorem wX6_importsOf_L4 {c : jS} {sz : Nat} {fu : Nat}  {v0 : Nat} {v1 : Int32} {res : (Int32 × jM)} (E : jOk c cX6_importsOf 4 RX6 (some .int) 0 0)  : ∀ (n : Nat) (v2 : Int32) (v3 : Int32) (f : jM), mX6_importsOf_L4 fu  v0 v1 n v2 v3 f = some res → J c (jZ c (some (.int res.1)) res.2 sz) f sz 0 0 4 [(0, .ref v0), (1, .int v1), (2, .int v2), (3, .int v3)] [] := by
  intro n
  induction n with
  | zero => intro v2 v3 f h; exact jn0 h
  | succ n ih =>
    intro v2 v3 f h
    rw [mX6_importsOf_L4] at h
    refine j_iload_n E 3 dX6_importsOf_4 rfl rfl ?_
    refine j_bipush (v := (120 : Int32)) E dX6_importsOf_5 (by decide) ?_
    refine j_icmp_ge (tgt := 33) E dX6_importsOf_7 (by decide) (fun hc1 => ?_) (fun hc1 => ?_)
    · replace h := jt hc1 h
      refine j_iload_n E 2 dX6_importsOf_33 rfl rfl ?_
      cases h
      exact j_iret E dX6_importsOf_34
    replace h := jf hc1 h
    refine j_aload_n E 0 dX6_importsOf_10 rfl rfl ?_
    obtain ⟨x2, h2, h⟩ := jb h
    refine j_getR E gX6_39 h2 dX6_importsOf_11 ?_
    refine j_bipush (v := (120 : Int32)) E dX6_importsOf_14 (by decide) ?_
    refine j_iload_n E 1 dX6_importsOf_16 rfl rfl ?_
    refine j_imul E dX6_importsOf_17 ?_
    refine j_iload_n E 3 dX6_importsOf_18 rfl rfl ?_
    refine j_iadd E dX6_importsOf_19 ?_
    obtain ⟨x3, h3, h⟩ := jb h
    refine j_iald E h3 dX6_importsOf_20 ?_
    refine j_if_le (tgt := 27) E dX6_importsOf_21 (by decide) (fun hc4 => ?_) (fun hc4 => ?_)
    · replace h := jt hc4 h
      refine j_iinc (v := (v3 + (1 : Int32))) (lv' := [(3, .int (v3 + (1 : Int32))), (0, .ref v0), (1, .int v1), (2, .int v2)]) E 3 dX6_importsOf_27 rfl rfl (by decide) rfl ?_
      refine j_goto (tgt := 4) E dX6_importsOf_30 (by decide) ?_
      exact j_sub [1, 2, 3, 0] rfl (ih _ _ _ h)
    replace h := jf hc4 h
    refine j_iinc (v := (v2 + (1 : Int32))) (lv' := [(2, .int (v2 + (1 : Int32))), (0, .ref v0), (1, .int v1), (3, .int v3)]) E 2 dX6_importsOf_24 rfl rfl (by decide) rfl ?_
    refine j_iinc (v := (v3 + (1 : Int32))) (lv' := [(3, .int (v3 + (1 : Int32))), (2, .int (v2 + (1 : Int32))), (0, .ref v0), (1, .int v1)]) E 3 dX6_importsOf_27 rfl rfl (by decide) rfl ?_
    refine j_goto (tgt := 4) E dX6_importsOf_30 (by decide) ?_
    exact j_sub [2, 3, 1, 0] rfl (ih _ _ _ h)
def mX6_importsOf (fu : Nat) (f : jM) (v0 : Nat) (v1 : Int32) : Option (Int32 × jM) :=
    mX6_importsOf_L4 fu v0 v1 fu (0 : Int32) (0 : Int32) f
set_option maxRecDepth 100000 in
set_option maxHeartbeats 4000000 in
theorem sX6_importsOf {l : Launch} {D : jD} {sz : Nat} {fu : Nat} {f : jM} {v0 : Nat} {v1 : Int32} {res : (Int32 × jM)} (h : mX6_importsOf fu f v0 v1 = some res) : jCt l D yX6_importsOf cX6_importsOf 4 (some .int) 0 0 [.ref v0, .int v1] f sz 0 0 (some (.int res.1)) res.2 sz := by
  refine j_start (by decide +kernel) (Nat.le_of_ble_eq_true rfl) (fun c hcl hcD hcn E => ?_)
  subst hcl
  subst hcD
  replace E : jOk c cX6_importsOf 4 RX6 (some .int) 0 0 := E
  show J c (jZ c (some (.int res.1)) res.2 sz) f sz 0 0 0 [(0, .ref v0), (1, .int v1)] []
  unfold mX6_importsOf at h
  refine j_iconst (v := (0 : Int32)) E dX6_importsOf_0 (by decide) ?_
  refine j_istore_n (lv' := [(2, .int (0 : Int32)), (0, .ref v0), (1, .int v1)]) E dX6_importsOf_1 rfl (by decide) rfl ?_
  refine j_iconst (v := (0 : Int32)) E dX6_importsOf_2 (by decide) ?_
  refine j_istore_n (lv' := [(3, .int (0 : Int32)), (2, .int (0 : Int32)), (0, .ref v0), (1, .int v1)]) E dX6_importsOf_3 rfl (by decide) rfl ?_
  exact j_sub [2, 3, 1, 0] rfl (wX6_importsOf_L4 E _ _ _ _ h)
def mX6_firstOf_L2 (fu : Nat)  (v0 : Nat) (v1 : Int32) (v2 : Int32) : Nat → Int32 → jM → Option (Int32 × jM)
  | 0, _, _ => none
  | n + 1, v3, f =>
    (rdI 6 f v0 13).bind fun x1 =>
    if x1 ≤ v3 then (
    some ((-1 : Int32), f)) else (
    (rdR 6 f v0 14).bind fun x3 =>
    (ldI 0 f x3 v3).bind fun x4 =>
    if x4 = v1 then (
    (rdR 6 f v0 15).bind fun x6 =>
    (ldI 0 f x6 v3).bind fun x7 =>
    if x7 = v2 then (
    some (v3, f)) else (
    mX6_firstOf_L2 fu v0 v1 v2 n (v3 + (1 : Int32)) f)) else (
    mX6_firstOf_L2 fu v0 v1 v2 n (v3 + (1 : Int32)) f))
set_option maxRecDepth 100000 in
set_option maxHeartbeats 4000000 in
theorem wX6_firstOf_L2 {c : jS} {sz : Nat} {fu : Nat}  {v0 : Nat} {v1 : Int32} {v2 : Int32} {res : (Int32 × jM)} (E : jOk c cX6_firstOf 4 RX6 (some .int) 0 0)  : ∀ (n : Nat) (v3 : Int32) (f : jM), mX6_firstOf_L2 fu  v0 v1 v2 n v3 f = some res → J c (jZ c (some (.int res.1)) res.2 sz) f sz 0 0 2 [(0, .ref v0), (1, .int v1), (2, .int v2), (3, .int v3)] [] := by
  intro n
  induction n with
  | zero => intro v3 f h; exact jn0 h
  | succ n ih =>
    intro v3 f h
    rw [mX6_firstOf_L2] at h
    refine j_iload_n E 3 dX6_firstOf_2 rfl rfl ?_
    refine j_aload_n E 0 dX6_firstOf_3 rfl rfl ?_
    obtain ⟨x1, h1, h⟩ := jb h
    refine j_getI E gX6_110 h1 dX6_firstOf_4 ?_
    refine j_icmp_ge (tgt := 38) E dX6_firstOf_7 (by decide) (fun hc2 => ?_) (fun hc2 => ?_)
    · replace h := jt hc2 h
      refine j_iconst (v := (-1 : Int32)) E dX6_firstOf_38 (by decide) ?_
      cases h
      exact j_iret E dX6_firstOf_39
    replace h := jf hc2 h
    refine j_aload_n E 0 dX6_firstOf_10 rfl rfl ?_
    obtain ⟨x3, h3, h⟩ := jb h
    refine j_getR E gX6_48 h3 dX6_firstOf_11 ?_
    refine j_iload_n E 3 dX6_firstOf_14 rfl rfl ?_
    obtain ⟨x4, h4, h⟩ := jb h
    refine j_iald E h4 dX6_firstOf_15 ?_
    refine j_iload_n E 1 dX6_firstOf_16 rfl rfl ?_
    refine j_icmp_ne (tgt := 32) E dX6_firstOf_17 (by decide) (fun hc5 => ?_) (fun hc5 => ?_)
    · replace h := jf hc5 h
      refine j_iinc (v := (v3 + (1 : Int32))) (lv' := [(3, .int (v3 + (1 : Int32))), (0, .ref v0), (1, .int v1), (2, .int v2)]) E 3 dX6_firstOf_32 rfl rfl (by decide) rfl ?_
      refine j_goto (tgt := 2) E dX6_firstOf_35 (by decide) ?_
      exact j_sub [1, 2, 3, 0] rfl (ih _ _ h)
    replace h := jt hc5 h
    refine j_aload_n E 0 dX6_firstOf_20 rfl rfl ?_
    obtain ⟨x6, h6, h⟩ := jb h
    refine j_getR E gX6_51 h6 dX6_firstOf_21 ?_
    refine j_iload_n E 3 dX6_firstOf_24 rfl rfl ?_
    obtain ⟨x7, h7, h⟩ := jb h
    refine j_iald E h7 dX6_firstOf_25 ?_
    refine j_iload_n E 2 dX6_firstOf_26 rfl rfl ?_
    refine j_icmp_ne (tgt := 32) E dX6_firstOf_27 (by decide) (fun hc8 => ?_) (fun hc8 => ?_)
    · replace h := jf hc8 h
      refine j_iinc (v := (v3 + (1 : Int32))) (lv' := [(3, .int (v3 + (1 : Int32))), (0, .ref v0), (1, .int v1), (2, .int v2)]) E 3 dX6_firstOf_32 rfl rfl (by decide) rfl ?_
      refine j_goto (tgt := 2) E dX6_firstOf_35 (by decide) ?_
      exact j_sub [1, 2, 3, 0] rfl (ih _ _ h)
    replace h := jt hc8 h
    refine j_iload_n E 3 dX6_firstOf_30 rfl rfl ?_
    cases h
    exact j_iret E dX6_firstOf_31
def mX6_firstOf (fu : Nat) (f : jM) (v0 : Nat) (v1 : Int32) (v2 : Int32) : Option (Int32 × jM) :=
    mX6_firstOf_L2 fu v0 v1 v2 fu (0 : Int32) f
set_option maxRecDepth 100000 in
set_option maxHeartbeats 4000000 in
theorem sX6_firstOf {l : Launch} {D : jD} {sz : Nat} {fu : Nat} {f : jM} {v0 : Nat} {v1 : Int32} {v2 : Int32} {res : (Int32 × jM)} (h : mX6_firstOf fu f v0 v1 v2 = some res) : jCt l D yX6_firstOf cX6_firstOf 4 (some .int) 0 0 [.ref v0, .int v1, .int v2] f sz 0 0 (some (.int res.1)) res.2 sz := by
  refine j_start (by decide +kernel) (Nat.le_of_ble_eq_true rfl) (fun c hcl hcD hcn E => ?_)
  subst hcl
  subst hcD
  replace E : jOk c cX6_firstOf 4 RX6 (some .int) 0 0 := E
  show J c (jZ c (some (.int res.1)) res.2 sz) f sz 0 0 0 [(0, .ref v0), (1, .int v1), (2, .int v2)] []
  unfold mX6_firstOf at h
  refine j_iconst (v := (0 : Int32)) E dX6_firstOf_0 (by decide) ?_
  refine j_istore_n (lv' := [(3, .int (0 : Int32)), (0, .ref v0), (1, .int v1), (2, .int v2)]) E dX6_firstOf_1 rfl (by decide) rfl ?_
  exact j_sub [1, 2, 3, 0] rfl (wX6_firstOf_L2 E _ _ _ h)
def mX6_stays (fu : Nat) (f : jM) (v0 : Nat) (v1 : Int32) : Option (Int32 × jM) :=
    (rdR 6 f v0 15).bind fun x1 =>
    (ldI 0 f x1 v1).bind fun x2 =>
    (rdR 6 f v0 17).bind fun x3 =>
    (ldI 0 f x3 v1).bind fun x4 =>
    (rdR 6 f v0 16).bind fun x5 =>
    (ldI 0 f x5 v1).bind fun x6 =>
    if x6 = (1 : Int32) then (
    if (x4 / (24 : Int32)) = x2 then (
    some ((0 : Int32), f)) else (
    (rdR 6 f v0 10).bind fun x9 =>
    (ldI 0 f x9 (((120 : Int32) * x2) + x4)).bind fun x10 =>
    if x10 = 0 then (
    (chk 6 f v0).bind fun _ =>
    (mX6_importsOf fu f v0 x2).bind fun r13 =>
    if r13.1 = (30 : Int32) then (
    some ((1 : Int32), r13.2)) else (
    some ((0 : Int32), r13.2))) else (
    some ((0 : Int32), f)))) else (
    some ((0 : Int32), f))
set_option maxRecDepth 100000 in
set_option maxHeartbeats 4000000 in
theorem sX6_stays {l : Launch} {D : jD} {sz : Nat} {fu : Nat} {f : jM} {v0 : Nat} {v1 : Int32} {res : (Int32 × jM)} (h : mX6_stays fu f v0 v1 = some res) : jCt l D yX6_stays cX6_stays 4 (some .boolean) 1 23 [.ref v0, .int v1] f sz 0 0 (some (.int res.1)) res.2 sz := by
  refine j_start (by decide +kernel) (Nat.le_of_ble_eq_true rfl) (fun c hcl hcD hcn E => ?_)
  subst hcl
  subst hcD
  replace E : jOk c cX6_stays 4 RX6 (some .boolean) 1 23 := E
  show J c (jZ c (some (.int res.1)) res.2 sz) f sz 0 0 0 [(0, .ref v0), (1, .int v1)] []
  unfold mX6_stays at h
  refine j_aload_n E 0 dX6_stays_0 rfl rfl ?_
  obtain ⟨x1, h1, h⟩ := jb h
  refine j_getR E gX6_51 h1 dX6_stays_1 ?_
  refine j_iload_n E 1 dX6_stays_4 rfl rfl ?_
  obtain ⟨x2, h2, h⟩ := jb h
  refine j_iald E h2 dX6_stays_5 ?_
  refine j_istore_n (lv' := [(2, .int x2), (0, .ref v0), (1, .int v1)]) E dX6_stays_6 rfl (by decide) rfl ?_
  refine j_aload_n E 1 dX6_stays_7 rfl rfl ?_
  obtain ⟨x3, h3, h⟩ := jb h
  refine j_getR E gX6_57 h3 dX6_stays_8 ?_
  refine j_iload_n E 2 dX6_stays_11 rfl rfl ?_
  obtain ⟨x4, h4, h⟩ := jb h
  refine j_iald E h4 dX6_stays_12 ?_
  refine j_istore_n (lv' := [(3, .int x4), (2, .int x2), (0, .ref v0), (1, .int v1)]) E dX6_stays_13 rfl (by decide) rfl ?_
  refine j_aload_n E 2 dX6_stays_14 rfl rfl ?_
  obtain ⟨x5, h5, h⟩ := jb h
  refine j_getR E gX6_54 h5 dX6_stays_15 ?_
  refine j_iload_n E 3 dX6_stays_18 rfl rfl ?_
  obtain ⟨x6, h6, h⟩ := jb h
  refine j_iald E h6 dX6_stays_19 ?_
  refine j_iconst (v := (1 : Int32)) E dX6_stays_20 (by decide) ?_
  refine j_icmp_ne (tgt := 60) E dX6_stays_21 (by decide) (fun hc7 => ?_) (fun hc7 => ?_)
  · replace h := jf hc7 h
    refine j_iconst (v := (0 : Int32)) E dX6_stays_60 (by decide) ?_
    cases h
    exact j_zret (v := (0 : Int32)) E (by decide +kernel) dX6_stays_61
  replace h := jt hc7 h
  refine j_iload_n E 0 dX6_stays_24 rfl rfl ?_
  refine j_bipush (v := (24 : Int32)) E dX6_stays_25 (by decide) ?_
  refine j_idiv E dX6_stays_27 (by decide) ?_
  refine j_iload_n E 1 dX6_stays_28 rfl rfl ?_
  refine j_icmp_eq (tgt := 60) E dX6_stays_29 (by decide) (fun hc8 => ?_) (fun hc8 => ?_)
  · replace h := jt hc8 h
    refine j_iconst (v := (0 : Int32)) E dX6_stays_60 (by decide) ?_
    cases h
    exact j_zret (v := (0 : Int32)) E (by decide +kernel) dX6_stays_61
  replace h := jf hc8 h
  refine j_aload_n E 2 dX6_stays_32 rfl rfl ?_
  obtain ⟨x9, h9, h⟩ := jb h
  refine j_getR E gX6_39 h9 dX6_stays_33 ?_
  refine j_bipush (v := (120 : Int32)) E dX6_stays_36 (by decide) ?_
  refine j_iload_n E 1 dX6_stays_38 rfl rfl ?_
  refine j_imul E dX6_stays_39 ?_
  refine j_iload_n E 0 dX6_stays_40 rfl rfl ?_
  refine j_iadd E dX6_stays_41 ?_
  obtain ⟨x10, h10, h⟩ := jb h
  refine j_iald E h10 dX6_stays_42 ?_
  refine j_if_ne (tgt := 60) E dX6_stays_43 (by decide) (fun hc11 => ?_) (fun hc11 => ?_)
  · replace h := jf hc11 h
    refine j_iconst (v := (0 : Int32)) E dX6_stays_60 (by decide) ?_
    cases h
    exact j_zret (v := (0 : Int32)) E (by decide +kernel) dX6_stays_61
  replace h := jt hc11 h
  refine j_aload_n E 2 dX6_stays_46 rfl rfl ?_
  refine j_iload_n E 1 dX6_stays_47 rfl rfl ?_
  obtain ⟨u12, h12, h⟩ := jb h
  obtain ⟨fs12, h12⟩ := chk_spec h12
  obtain ⟨r13, h13, h⟩ := jb h
  refine j_callV (As := [.int x2]) (b := v0) (rest := []) (rc := 0) (rs := 0) E (sX6_importsOf h13) lwX6_importsOf lkX6_117 imX6_importsOf seX6_importsOf rfl h12 (by decide) rfl (Nat.le_of_ble_eq_true rfl) dX6_stays_48 ?_
  refine j_bipush (v := (30 : Int32)) E dX6_stays_51 (by decide) ?_
  refine j_icmp_ne (tgt := 60) E dX6_stays_53 (by decide) (fun hc14 => ?_) (fun hc14 => ?_)
  · replace h := jf hc14 h
    refine j_iconst (v := (0 : Int32)) E dX6_stays_60 (by decide) ?_
    cases h
    exact j_zret (v := (0 : Int32)) E (by decide +kernel) dX6_stays_61
  replace h := jt hc14 h
  refine j_iconst (v := (1 : Int32)) E dX6_stays_56 (by decide) ?_
  refine j_goto (tgt := 61) E dX6_stays_57 (by decide) ?_
  cases h
  exact j_zret (v := (1 : Int32)) E (by decide +kernel) dX6_stays_61
