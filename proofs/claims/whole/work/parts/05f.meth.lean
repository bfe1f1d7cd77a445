def mX5_pass_L40 (fu : Nat) (k6 : Int32 → Int32 → Int32 → jM → Option (Int32 × jM)) (v0 : Nat) (v1 : Int32) (v3 : Int32) : Nat → Int32 → Int32 → jM → Option (Int32 × jM)
  | 0, _, _, _ => none
  | n + 1, v2, v5, f =>
    if (120 : Int32) ≤ v5 then (
    k6 v1 v2 (v3 + (1 : Int32)) f) else (
    if v2 = 0 then (
    (mX5_nodeOf f v5).bind fun r8 =>
    (mX5_numberOf r8.2 v5).bind fun r9 =>
    (chk 5 r9.2 v0).bind fun _ =>
    (mX5_trial fu r9.2 v0 r8.1 r9.1).bind fun r11 =>
    if r11.1 ≤ 0 then (
    mX5_pass_L40 fu k6 v0 v1 v3 n (0 : Int32) (v5 + (1 : Int32)) r11.2) else (
    mX5_pass_L40 fu k6 v0 v1 v3 n (1 : Int32) (v5 + (1 : Int32)) r11.2)) else (
    k6 v1 v2 (v3 + (1 : Int32)) f))
set_option maxRecDepth 100000 in
set_option maxHeartbeats 4000000 in
theorem wX5_pass_L40 {c : jS} {sz : Nat} {fu : Nat} {k6 : Int32 → Int32 → Int32 → jM → Option (Int32 × jM)} {v0 : Nat} {v1 : Int32} {v3 : Int32} {res : (Int32 × jM)} (E : jOk c cX5_pass 6 RX5 (some .int) 7 168) (hk6 : ∀ (v1 : Int32) (v2 : Int32) (v3 : Int32) (f : jM), k6 v1 v2 v3 f = some res → J c (jZ c (some (.int res.1)) res.2 sz) f sz 0 0 6 [(0, .ref v0), (1, .int v1), (2, .int v2), (3, .int v3)] []) : ∀ (n : Nat) (v2 : Int32) (v5 : Int32) (f : jM), mX5_pass_L40 fu k6 v0 v1 v3 n v2 v5 f = some res → J c (jZ c (some (.int res.1)) res.2 sz) f sz 0 0 40 [(0, .ref v0), (1, .int v1), (2, .int v2), (3, .int v3), (5, .int v5)] [] := by
  intro n
  induction n with
  | zero => intro v2 v5 f h; exact jn0 h
  | succ n ih =>
    intro v2 v5 f h
    rw [mX5_pass_L40] at h
    refine j_iload E 4 dX5_pass_40 rfl ?_
    refine j_bipush (v := (120 : Int32)) E dX5_pass_42 (by decide) ?_
    refine j_icmp_ge (tgt := 80) E dX5_pass_44 (by decide) (fun hc6 => ?_) (fun hc6 => ?_)
    · replace h := jt hc6 h
      refine j_iinc (v := (v3 + (1 : Int32))) (lv' := [(3, .int (v3 + (1 : Int32))), (0, .ref v0), (1, .int v1), (2, .int v2), (5, .int v5)]) E 3 dX5_pass_80 rfl rfl (by decide) rfl ?_
      refine j_goto (tgt := 6) E dX5_pass_83 (by decide) ?_
      exact j_sub [1, 2, 3, 0] rfl (hk6 _ _ _ _ h)
    replace h := jf hc6 h
    refine j_iload_n E 2 dX5_pass_47 rfl rfl ?_
    refine j_if_ne (tgt := 80) E dX5_pass_48 (by decide) (fun hc7 => ?_) (fun hc7 => ?_)
    · replace h := jf hc7 h
      refine j_iinc (v := (v3 + (1 : Int32))) (lv' := [(3, .int (v3 + (1 : Int32))), (0, .ref v0), (1, .int v1), (2, .int v2), (5, .int v5)]) E 3 dX5_pass_80 rfl rfl (by decide) rfl ?_
      refine j_goto (tgt := 6) E dX5_pass_83 (by decide) ?_
      exact j_sub [1, 2, 3, 0] rfl (hk6 _ _ _ _ h)
    replace h := jt hc7 h
    refine j_aload_n E 0 dX5_pass_51 rfl rfl ?_
    refine j_iload E 4 dX5_pass_52 rfl ?_
    obtain ⟨r8, h8, h⟩ := jb h
    refine j_callS (As := [.int v5]) (rest := [.ref v0]) (rc := 0) (rs := 0) E (sX5_nodeOf h8) lwX5_nodeOf lkX5_105 stX5_nodeOf (by decide) rfl (Nat.le_of_ble_eq_true rfl) dX5_pass_54 ?_
    refine j_iload E 4 dX5_pass_57 rfl ?_
    obtain ⟨r9, h9, h⟩ := jb h
    refine j_callS (As := [.int v5]) (rest := [.int r8.1, .ref v0]) (rc := 0) (rs := 0) E (sX5_numberOf h9) lwX5_numberOf lkX5_185 stX5_numberOf (by decide) rfl (Nat.le_of_ble_eq_true rfl) dX5_pass_59 ?_
    obtain ⟨u10, h10, h⟩ := jb h
    obtain ⟨fs10, h10⟩ := chk_spec h10
    obtain ⟨r11, h11, h⟩ := jb h
    refine j_callV (As := [.int r8.1, .int r9.1]) (b := v0) (rest := []) (rc := 0) (rs := 0) E (sX5_trial h11) lwX5_trial lkX5_188 imX5_trial seX5_trial rfl h10 (by decide) rfl (Nat.le_of_ble_eq_true rfl) dX5_pass_62 ?_
    refine j_if_le (tgt := 72) E dX5_pass_65 (by decide) (fun hc12 => ?_) (fun hc12 => ?_)
    · replace h := jt hc12 h
      refine j_iconst (v := (0 : Int32)) E dX5_pass_72 (by decide) ?_
      refine j_istore_n (lv' := [(2, .int (0 : Int32)), (0, .ref v0), (1, .int v1), (3, .int v3), (5, .int v5)]) E dX5_pass_73 rfl (by decide) rfl ?_
      refine j_iinc (v := (v5 + (1 : Int32))) (lv' := [(5, .int (v5 + (1 : Int32))), (2, .int (0 : Int32)), (0, .ref v0), (1, .int v1), (3, .int v3)]) E 4 dX5_pass_74 rfl rfl (by decide) rfl ?_
      refine j_goto (tgt := 40) E dX5_pass_77 (by decide) ?_
      exact j_sub [2, 3, 1, 4, 0] rfl (ih _ _ _ h)
    replace h := jf hc12 h
    refine j_iconst (v := (1 : Int32)) E dX5_pass_68 (by decide) ?_
    refine j_goto (tgt := 73) E dX5_pass_69 (by decide) ?_
    refine j_istore_n (lv' := [(2, .int (1 : Int32)), (0, .ref v0), (1, .int v1), (3, .int v3), (5, .int v5)]) E dX5_pass_73 rfl (by decide) rfl ?_
    refine j_iinc (v := (v5 + (1 : Int32))) (lv' := [(5, .int (v5 + (1 : Int32))), (2, .int (1 : Int32)), (0, .ref v0), (1, .int v1), (3, .int v3)]) E 4 dX5_pass_74 rfl rfl (by decide) rfl ?_
    refine j_goto (tgt := 40) E dX5_pass_77 (by decide) ?_
    exact j_sub [2, 3, 1, 4, 0] rfl (ih _ _ _ h)
def mX5_pass_L6 (fu : Nat)  (v0 : Nat) : Nat → Int32 → Int32 → Int32 → jM → Option (Int32 × jM)
  | 0, _, _, _, _ => none
  | n + 1, v1, v2, v3, f =>
    if v2 = 0 then (
    some (v1, f)) else (
    if (1000000 : Int32) ≤ v3 then (
    some (v1, f)) else (
    (chk 5 f v0).bind fun _ =>
    (mX5_settle fu f v0).bind fun r4 =>
    if 0 ≤ r4.1 then (
    mX5_pass_L40 fu (mX5_pass_L6 fu v0 n) v0 (v1 + r4.1) v3 fu (0 : Int32) (0 : Int32) r4.2) else (
    some ((-2 : Int32), r4.2))))
set_option maxRecDepth 100000 in
set_option maxHeartbeats 4000000 in
theorem wX5_pass_L6 {c : jS} {sz : Nat} {fu : Nat}  {v0 : Nat} {res : (Int32 × jM)} (E : jOk c cX5_pass 6 RX5 (some .int) 7 168)  : ∀ (n : Nat) (v1 : Int32) (v2 : Int32) (v3 : Int32) (f : jM), mX5_pass_L6 fu  v0 n v1 v2 v3 f = some res → J c (jZ c (some (.int res.1)) res.2 sz) f sz 0 0 6 [(0, .ref v0), (1, .int v1), (2, .int v2), (3, .int v3)] [] := by
  intro n
  induction n with
  | zero => intro v1 v2 v3 f h; exact jn0 h
  | succ n ih =>
    intro v1 v2 v3 f h
    rw [mX5_pass_L6] at h
    refine j_iload_n E 2 dX5_pass_6 rfl rfl ?_
    refine j_if_eq (tgt := 86) E dX5_pass_7 (by decide) (fun hc1 => ?_) (fun hc1 => ?_)
    · replace h := jt hc1 h
      refine j_iload_n E 1 dX5_pass_86 rfl rfl ?_
      cases h
      exact j_iret E dX5_pass_87
    replace h := jf hc1 h
    refine j_iload_n E 3 dX5_pass_10 rfl rfl ?_
    refine j_ldc E kcX5_175 dX5_pass_11 ?_
    refine j_icmp_ge (tgt := 86) E dX5_pass_13 (by decide) (fun hc2 => ?_) (fun hc2 => ?_)
    · replace h := jt hc2 h
      refine j_iload_n E 1 dX5_pass_86 rfl rfl ?_
      cases h
      exact j_iret E dX5_pass_87
    replace h := jf hc2 h
    refine j_aload_n E 0 dX5_pass_16 rfl rfl ?_
    obtain ⟨u3, h3, h⟩ := jb h
    obtain ⟨fs3, h3⟩ := chk_spec h3
    obtain ⟨r4, h4, h⟩ := jb h
    refine j_callV (As := []) (b := v0) (rest := []) (rc := 0) (rs := 0) E (sX5_settle h4) lwX5_settle lkX5_182 imX5_settle seX5_settle rfl h3 (by decide) rfl (Nat.le_of_ble_eq_true rfl) dX5_pass_17 ?_
    refine j_istore (lv' := [(4, .int r4.1), (0, .ref v0), (1, .int v1), (2, .int v2), (3, .int v3)]) E dX5_pass_20 (by decide) rfl ?_
    refine j_iload E 0 dX5_pass_22 rfl ?_
    refine j_if_ge (tgt := 30) E dX5_pass_24 (by decide) (fun hc5 => ?_) (fun hc5 => ?_)
    · replace h := jt hc5 h
      refine j_iload_n E 2 dX5_pass_30 rfl rfl ?_
      refine j_iload E 0 dX5_pass_31 rfl ?_
      refine j_iadd E dX5_pass_33 ?_
      refine j_istore_n (lv' := [(1, .int (v1 + r4.1)), (4, .int r4.1), (0, .ref v0), (2, .int v2), (3, .int v3)]) E dX5_pass_34 rfl (by decide) rfl ?_
      refine j_iconst (v := (0 : Int32)) E dX5_pass_35 (by decide) ?_
      refine j_istore_n (lv' := [(2, .int (0 : Int32)), (1, .int (v1 + r4.1)), (4, .int r4.1), (0, .ref v0), (3, .int v3)]) E dX5_pass_36 rfl (by decide) rfl ?_
      refine j_iconst (v := (0 : Int32)) E dX5_pass_37 (by decide) ?_
      refine j_istore (lv' := [(5, .int (0 : Int32)), (2, .int (0 : Int32)), (1, .int (v1 + r4.1)), (4, .int r4.1), (0, .ref v0), (3, .int v3)]) E dX5_pass_38 (by decide) rfl ?_
      exact j_sub [4, 2, 1, 5, 0] rfl (wX5_pass_L40 E ih _ _ _ _ h)
    replace h := jf hc5 h
    refine j_bipush (v := (-2 : Int32)) E dX5_pass_27 (by decide) ?_
    cases h
    exact j_iret E dX5_pass_29
def mX5_pass (fu : Nat) (f : jM) (v0 : Nat) : Option (Int32 × jM) :=
    mX5_pass_L6 fu v0 fu (0 : Int32) (1 : Int32) (0 : Int32) f
set_option maxRecDepth 100000 in
set_option maxHeartbeats 4000000 in
theorem sX5_pass {l : Launch} {D : jD} {sz : Nat} {fu : Nat} {f : jM} {v0 : Nat} {res : (Int32 × jM)} (h : mX5_pass fu f v0 = some res) : jCt l D yX5_pass cX5_pass 6 (some .int) 7 168 [.ref v0] f sz 0 0 (some (.int res.1)) res.2 sz := by
  refine j_start (by decide +kernel) (Nat.le_of_ble_eq_true rfl) (fun c hcl hcD hcn E => ?_)
  subst hcl
  subst hcD
  replace E : jOk c cX5_pass 6 RX5 (some .int) 7 168 := E
  show J c (jZ c (some (.int res.1)) res.2 sz) f sz 0 0 0 [(0, .ref v0)] []
  unfold mX5_pass at h
  refine j_iconst (v := (0 : Int32)) E dX5_pass_0 (by decide) ?_
  refine j_istore_n (lv' := [(1, .int (0 : Int32)), (0, .ref v0)]) E dX5_pass_1 rfl (by decide) rfl ?_
  refine j_iconst (v := (1 : Int32)) E dX5_pass_2 (by decide) ?_
  refine j_istore_n (lv' := [(2, .int (1 : Int32)), (1, .int (0 : Int32)), (0, .ref v0)]) E dX5_pass_3 rfl (by decide) rfl ?_
  refine j_iconst (v := (0 : Int32)) E dX5_pass_4 (by decide) ?_
  refine j_istore_n (lv' := [(3, .int (0 : Int32)), (2, .int (1 : Int32)), (1, .int (0 : Int32)), (0, .ref v0)]) E dX5_pass_5 rfl (by decide) rfl ?_
  exact j_sub [3, 2, 1, 0] rfl (wX5_pass_L6 E _ _ _ _ _ h)
def mX5_register (f : jM) (v0 : Nat) (v1 : Int32) (v2 : Int32) (v3 : Int32) : Option (Int32 × jM) :=
    (chk 5 f v0).bind fun _ =>
    (mX5_isNode f v0 v1).bind fun r2 =>
    if r2.1 = 0 then (
    some ((-1 : Int32), r2.2)) else (
    (mX5_isRegister r2.2 v2).bind fun r4 =>
    if r4.1 = 0 then (
    some ((-1 : Int32), r4.2)) else (
    (rdR 5 r4.2 v0 0).bind fun x6 =>
    (ldR 2 r4.2 x6 v1).bind fun x7 =>
    (chk 2 r4.2 x7).bind fun _ =>
    (mX2_tell r4.2 x7 v2 v3).bind fun r9 =>
    some (r9.1, r9.2)))
set_option maxRecDepth 100000 in
set_option maxHeartbeats 4000000 in
theorem sX5_register {l : Launch} {D : jD} {sz : Nat} {f : jM} {v0 : Nat} {v1 : Int32} {v2 : Int32} {v3 : Int32} {res : (Int32 × jM)} (h : mX5_register f v0 v1 v2 v3 = some res) : jCt l D yX5_register cX5_register 4 (some .int) 3 62 [.ref v0, .int v1, .int v2, .int v3] f sz 0 0 (some (.int res.1)) res.2 sz := by
  refine j_start (by decide +kernel) (Nat.le_of_ble_eq_true rfl) (fun c hcl hcD hcn E => ?_)
  subst hcl
  subst hcD
  replace E : jOk c cX5_register 4 RX5 (some .int) 3 62 := E
  show J c (jZ c (some (.int res.1)) res.2 sz) f sz 0 0 0 [(0, .ref v0), (1, .int v1), (2, .int v2), (3, .int v3)] []
  unfold mX5_register at h
  refine j_aload_n E 0 dX5_register_0 rfl rfl ?_
  refine j_iload_n E 1 dX5_register_1 rfl rfl ?_
  obtain ⟨u1, h1, h⟩ := jb h
  obtain ⟨fs1, h1⟩ := chk_spec h1
  obtain ⟨r2, h2, h⟩ := jb h
  refine j_callV (As := [.int v1]) (b := v0) (rest := []) (rc := 0) (rs := 0) E (sX5_isNode h2) lwX5_isNode lkX5_48 imX5_isNode seX5_isNode rfl h1 (by decide) rfl (Nat.le_of_ble_eq_true rfl) dX5_register_2 ?_
  refine j_if_eq (tgt := 15) E dX5_register_5 (by decide) (fun hc3 => ?_) (fun hc3 => ?_)
  · replace h := jt hc3 h
    refine j_iconst (v := (-1 : Int32)) E dX5_register_15 (by decide) ?_
    cases h
    exact j_iret E dX5_register_16
  replace h := jf hc3 h
  refine j_iload_n E 2 dX5_register_8 rfl rfl ?_
  obtain ⟨r4, h4, h⟩ := jb h
  refine j_callS (As := [.int v2]) (rest := []) (rc := 0) (rs := 0) E (sX5_isRegister h4) lwX5_isRegister lkX5_52 stX5_isRegister (by decide) rfl (Nat.le_of_ble_eq_true rfl) dX5_register_9 ?_
  refine j_if_ne (tgt := 17) E dX5_register_12 (by decide) (fun hc5 => ?_) (fun hc5 => ?_)
  · replace h := jf hc5 h
    refine j_aload_n E 0 dX5_register_17 rfl rfl ?_
    obtain ⟨x6, h6, h⟩ := jb h
    refine j_getR E gX5_20 h6 dX5_register_18 ?_
    refine j_iload_n E 1 dX5_register_21 rfl rfl ?_
    obtain ⟨x7, h7, h⟩ := jb h
    refine j_aald E rfl h7 dX5_register_22 ?_
    refine j_iload_n E 2 dX5_register_23 rfl rfl ?_
    refine j_iload_n E 3 dX5_register_24 rfl rfl ?_
    obtain ⟨u8, h8, h⟩ := jb h
    obtain ⟨fs8, h8⟩ := chk_spec h8
    obtain ⟨r9, h9, h⟩ := jb h
    refine j_callV (As := [.int v2, .int v3]) (b := x7) (rest := []) (rc := 0) (rs := 0) E (sX2_tell h9) lwX2_tell lkX5_191 imX2_tell seX2_tell rfl h8 (by decide) rfl (Nat.le_of_ble_eq_true rfl) dX5_register_25 ?_
    cases h
    exact j_iret E dX5_register_28
  replace h := jt hc5 h
  refine j_iconst (v := (-1 : Int32)) E dX5_register_15 (by decide) ?_
  cases h
  exact j_iret E dX5_register_16
def mX5_field (f : jM) (v0 : Nat) (v1 : Int32) (v2 : Int32) (v3 : Int32) (v4 : Int32) : Option (Int32 × jM) :=
    (chk 5 f v0).bind fun _ =>
    (mX5_isNode f v0 v1).bind fun r2 =>
    if r2.1 = 0 then (
    some ((-1 : Int32), r2.2)) else (
    (rdR 5 r2.2 v0 0).bind fun x4 =>
    (ldR 2 r2.2 x4 v1).bind fun x5 =>
    (chk 2 r2.2 x5).bind fun _ =>
    (mX2_hasField r2.2 x5 v2 v3).bind fun r7 =>
    if r7.1 = 0 then (
    some ((-1 : Int32), r7.2)) else (
    (rdR 5 r7.2 v0 0).bind fun x9 =>
    (ldR 2 r7.2 x9 v1).bind fun x10 =>
    (mX5_fieldSlot r7.2 v2 v3).bind fun r11 =>
    (chk 2 r11.2 x10).bind fun _ =>
    (mX2_tell r11.2 x10 r11.1 v4).bind fun r13 =>
    some (r13.1, r13.2)))
set_option maxRecDepth 100000 in
set_option maxHeartbeats 4000000 in
theorem sX5_field {l : Launch} {D : jD} {sz : Nat} {f : jM} {v0 : Nat} {v1 : Int32} {v2 : Int32} {v3 : Int32} {v4 : Int32} {res : (Int32 × jM)} (h : mX5_field f v0 v1 v2 v3 v4 = some res) : jCt l D yX5_field cX5_field 5 (some .int) 3 62 [.ref v0, .int v1, .int v2, .int v3, .int v4] f sz 0 0 (some (.int res.1)) res.2 sz := by
  refine j_start (by decide +kernel) (Nat.le_of_ble_eq_true rfl) (fun c hcl hcD hcn E => ?_)
  subst hcl
  subst hcD
  replace E : jOk c cX5_field 5 RX5 (some .int) 3 62 := E
  show J c (jZ c (some (.int res.1)) res.2 sz) f sz 0 0 0 [(0, .ref v0), (1, .int v1), (2, .int v2), (3, .int v3), (4, .int v4)] []
  unfold mX5_field at h
  refine j_aload_n E 0 dX5_field_0 rfl rfl ?_
  refine j_iload_n E 1 dX5_field_1 rfl rfl ?_
  obtain ⟨u1, h1, h⟩ := jb h
  obtain ⟨fs1, h1⟩ := chk_spec h1
  obtain ⟨r2, h2, h⟩ := jb h
  refine j_callV (As := [.int v1]) (b := v0) (rest := []) (rc := 0) (rs := 0) E (sX5_isNode h2) lwX5_isNode lkX5_48 imX5_isNode seX5_isNode rfl h1 (by decide) rfl (Nat.le_of_ble_eq_true rfl) dX5_field_2 ?_
  refine j_if_eq (tgt := 22) E dX5_field_5 (by decide) (fun hc3 => ?_) (fun hc3 => ?_)
  · replace h := jt hc3 h
    refine j_iconst (v := (-1 : Int32)) E dX5_field_22 (by decide) ?_
    cases h
    exact j_iret E dX5_field_23
  replace h := jf hc3 h
  refine j_aload_n E 0 dX5_field_8 rfl rfl ?_
  obtain ⟨x4, h4, h⟩ := jb h
  refine j_getR E gX5_20 h4 dX5_field_9 ?_
  refine j_iload_n E 1 dX5_field_12 rfl rfl ?_
  obtain ⟨x5, h5, h⟩ := jb h
  refine j_aald E rfl h5 dX5_field_13 ?_
  refine j_iload_n E 2 dX5_field_14 rfl rfl ?_
  refine j_iload_n E 3 dX5_field_15 rfl rfl ?_
  obtain ⟨u6, h6, h⟩ := jb h
  obtain ⟨fs6, h6⟩ := chk_spec h6
  obtain ⟨r7, h7, h⟩ := jb h
  refine j_callV (As := [.int v2, .int v3]) (b := x5) (rest := []) (rc := 0) (rs := 0) E (sX2_hasField h7) lwX2_hasField lkX5_194 imX2_hasField seX2_hasField rfl h6 (by decide) rfl (Nat.le_of_ble_eq_true rfl) dX5_field_16 ?_
  refine j_if_ne (tgt := 24) E dX5_field_19 (by decide) (fun hc8 => ?_) (fun hc8 => ?_)
  · replace h := jf hc8 h
    refine j_aload_n E 0 dX5_field_24 rfl rfl ?_
    obtain ⟨x9, h9, h⟩ := jb h
    refine j_getR E gX5_20 h9 dX5_field_25 ?_
    refine j_iload_n E 1 dX5_field_28 rfl rfl ?_
    obtain ⟨x10, h10, h⟩ := jb h
    refine j_aald E rfl h10 dX5_field_29 ?_
    refine j_iload_n E 2 dX5_field_30 rfl rfl ?_
    refine j_iload_n E 3 dX5_field_31 rfl rfl ?_
    obtain ⟨r11, h11, h⟩ := jb h
    refine j_callS (As := [.int v2, .int v3]) (rest := [.ref x10]) (rc := 0) (rs := 0) E (sX5_fieldSlot h11) lwX5_fieldSlot lkX5_197 stX5_fieldSlot (by decide) rfl (Nat.le_of_ble_eq_true rfl) dX5_field_32 ?_
    refine j_iload E 4 dX5_field_35 rfl ?_
    obtain ⟨u12, h12, h⟩ := jb h
    obtain ⟨fs12, h12⟩ := chk_spec h12
    obtain ⟨r13, h13, h⟩ := jb h
    refine j_callV (As := [.int r11.1, .int v4]) (b := x10) (rest := []) (rc := 0) (rs := 0) E (sX2_tell h13) lwX2_tell lkX5_191 imX2_tell seX2_tell rfl h12 (by decide) rfl (Nat.le_of_ble_eq_true rfl) dX5_field_37 ?_
    cases h
    exact j_iret E dX5_field_40
  replace h := jt hc8 h
  refine j_iconst (v := (-1 : Int32)) E dX5_field_22 (by decide) ?_
  cases h
  exact j_iret E dX5_field_23
def mX5_cell (fu : Nat) (f : jM) (v0 : Nat) (v1 : Int32) (v2 : Int32) (v3 : Int32) : Option (Int32 × jM) :=
    (chk 5 f v0).bind fun _ =>
    (mX5_isNode f v0 v1).bind fun r2 =>
    if r2.1 = 0 then (
    some ((-1 : Int32), r2.2)) else (
    if v3 < 0 then (
    some ((-1 : Int32), r2.2)) else (
    if v3 ≤ (1 : Int32) then (
    (rdR 5 r2.2 v0 0).bind fun x6 =>
    (ldR 2 r2.2 x6 v1).bind fun x7 =>
    (chk 2 r2.2 x7).bind fun _ =>
    (mX2_objectAt fu r2.2 x7 v2).bind fun r9 =>
    if r9.1 = (-1 : Int32) then (
    some ((-1 : Int32), r9.2)) else (
    if v3 = 0 then (
    some (r9.1, r9.2)) else (
    (rdR 5 r9.2 v0 0).bind fun x12 =>
    (ldR 2 r9.2 x12 v1).bind fun x13 =>
    (rdR 2 r9.2 x13 4).bind fun x14 =>
    (ldI 0 r9.2 x14 r9.1).bind fun x15 =>
    some ((v2 - x15), r9.2)))) else (
    some ((-1 : Int32), r2.2))))
set_option maxRecDepth 100000 in
set_option maxHeartbeats 4000000 in
theorem sX5_cell {l : Launch} {D : jD} {sz : Nat} {fu : Nat} {f : jM} {v0 : Nat} {v1 : Int32} {v2 : Int32} {v3 : Int32} {res : (Int32 × jM)} (h : mX5_cell fu f v0 v1 v2 v3 = some res) : jCt l D yX5_cell cX5_cell 5 (some .int) 2 43 [.ref v0, .int v1, .int v2, .int v3] f sz 0 0 (some (.int res.1)) res.2 sz := by
  refine j_start (by decide +kernel) (Nat.le_of_ble_eq_true rfl) (fun c hcl hcD hcn E => ?_)
  subst hcl
  subst hcD
  replace E : jOk c cX5_cell 5 RX5 (some .int) 2 43 := E
  show J c (jZ c (some (.int res.1)) res.2 sz) f sz 0 0 0 [(0, .ref v0), (1, .int v1), (2, .int v2), (3, .int v3)] []
  unfold mX5_cell at h
  refine j_aload_n E 0 dX5_cell_0 rfl rfl ?_
  refine j_iload_n E 1 dX5_cell_1 rfl rfl ?_
  obtain ⟨u1, h1, h⟩ := jb h
  obtain ⟨fs1, h1⟩ := chk_spec h1
  obtain ⟨r2, h2, h⟩ := jb h
  refine j_callV (As := [.int v1]) (b := v0) (rest := []) (rc := 0) (rs := 0) E (sX5_isNode h2) lwX5_isNode lkX5_48 imX5_isNode seX5_isNode rfl h1 (by decide) rfl (Nat.le_of_ble_eq_true rfl) dX5_cell_2 ?_
  refine j_if_eq (tgt := 17) E dX5_cell_5 (by decide) (fun hc3 => ?_) (fun hc3 => ?_)
  · replace h := jt hc3 h
    refine j_iconst (v := (-1 : Int32)) E dX5_cell_17 (by decide) ?_
    cases h
    exact j_iret E dX5_cell_18
  replace h := jf hc3 h
  refine j_iload_n E 3 dX5_cell_8 rfl rfl ?_
  refine j_if_lt (tgt := 17) E dX5_cell_9 (by decide) (fun hc4 => ?_) (fun hc4 => ?_)
  · replace h := jt hc4 h
    refine j_iconst (v := (-1 : Int32)) E dX5_cell_17 (by decide) ?_
    cases h
    exact j_iret E dX5_cell_18
  replace h := jf hc4 h
  refine j_iload_n E 3 dX5_cell_12 rfl rfl ?_
  refine j_iconst (v := (1 : Int32)) E dX5_cell_13 (by decide) ?_
  refine j_icmp_le (tgt := 19) E dX5_cell_14 (by decide) (fun hc5 => ?_) (fun hc5 => ?_)
  · replace h := jt hc5 h
    refine j_aload_n E 0 dX5_cell_19 rfl rfl ?_
    obtain ⟨x6, h6, h⟩ := jb h
    refine j_getR E gX5_20 h6 dX5_cell_20 ?_
    refine j_iload_n E 1 dX5_cell_23 rfl rfl ?_
    obtain ⟨x7, h7, h⟩ := jb h
    refine j_aald E rfl h7 dX5_cell_24 ?_
    refine j_iload_n E 2 dX5_cell_25 rfl rfl ?_
    obtain ⟨u8, h8, h⟩ := jb h
    obtain ⟨fs8, h8⟩ := chk_spec h8
    obtain ⟨r9, h9, h⟩ := jb h
    refine j_callV (As := [.int v2]) (b := x7) (rest := []) (rc := 0) (rs := 0) E (sX2_objectAt h9) lwX2_objectAt lkX5_200 imX2_objectAt seX2_objectAt rfl h8 (by decide) rfl (Nat.le_of_ble_eq_true rfl) dX5_cell_26 ?_
    refine j_istore (lv' := [(4, .int r9.1), (0, .ref v0), (1, .int v1), (2, .int v2), (3, .int v3)]) E dX5_cell_29 (by decide) rfl ?_
    refine j_iload E 0 dX5_cell_31 rfl ?_
    refine j_iconst (v := (-1 : Int32)) E dX5_cell_33 (by decide) ?_
    refine j_icmp_ne (tgt := 39) E dX5_cell_34 (by decide) (fun hc10 => ?_) (fun hc10 => ?_)
    · replace h := jf hc10 h
      refine j_iload_n E 4 dX5_cell_39 rfl rfl ?_
      refine j_if_ne (tgt := 48) E dX5_cell_40 (by decide) (fun hc11 => ?_) (fun hc11 => ?_)
      · replace h := jf hc11 h
        refine j_iload_n E 3 dX5_cell_48 rfl rfl ?_
        refine j_aload_n E 1 dX5_cell_49 rfl rfl ?_
        obtain ⟨x12, h12, h⟩ := jb h
        refine j_getR E gX5_20 h12 dX5_cell_50 ?_
        refine j_iload_n E 2 dX5_cell_53 rfl rfl ?_
        obtain ⟨x13, h13, h⟩ := jb h
        refine j_aald E rfl h13 dX5_cell_54 ?_
        obtain ⟨x14, h14, h⟩ := jb h
        refine j_getR E gX5_203 h14 dX5_cell_55 ?_
        refine j_iload E 0 dX5_cell_58 rfl ?_
        obtain ⟨x15, h15, h⟩ := jb h
        refine j_iald E h15 dX5_cell_60 ?_
        refine j_isub E dX5_cell_61 ?_
        cases h
        exact j_iret E dX5_cell_62
      replace h := jt hc11 h
      refine j_iload E 0 dX5_cell_43 rfl ?_
      refine j_goto (tgt := 62) E dX5_cell_45 (by decide) ?_
      cases h
      exact j_iret E dX5_cell_62
    replace h := jt hc10 h
    refine j_iconst (v := (-1 : Int32)) E dX5_cell_37 (by decide) ?_
    cases h
    exact j_iret E dX5_cell_38
  replace h := jf hc5 h
  refine j_iconst (v := (-1 : Int32)) E dX5_cell_17 (by decide) ?_
  cases h
  exact j_iret E dX5_cell_18
def mX5_markHeld_L9 (fu : Nat)  (v0 : Nat) : Nat → Int32 → jM → Option jM
  | 0, _, _ => none
  | n + 1, v1, f =>
    (rdR 5 f v0 0).bind fun x1 =>
    (alen f x1).bind fun x2 =>
    if x2 ≤ v1 then (
    (rdR 5 f v0 1).bind fun x4 =>
    (rdR 5 f v0 2).bind fun x5 =>
    (chk 3 f x4).bind fun _ =>
    (mX3_markRefs fu f x4 x5).bind fun f7 =>
    (rdR 5 f7 v0 2).bind fun x8 =>
    (rdR 5 f7 v0 0).bind fun x9 =>
    (chk 1 f7 x8).bind fun _ =>
    (mX1_spread fu f7 x8 x9).bind fun f11 =>
    some f11) else (
    (rdR 5 f v0 0).bind fun x12 =>
    (ldR 2 f x12 v1).bind fun x13 =>
    (rdR 5 f v0 2).bind fun x14 =>
    (chk 2 f x13).bind fun _ =>
    (mX2_markRegisters fu f x13 x14).bind fun f16 =>
    mX5_markHeld_L9 fu v0 n (v1 + (1 : Int32)) f16)
set_option maxRecDepth 100000 in
set_option maxHeartbeats 4000000 in
theorem wX5_markHeld_L9 {c : jS} {sz : Nat} {fu : Nat}  {v0 : Nat} {res : jM} (E : jOk c cX5_markHeld 2 RX5 none 3 68)  : ∀ (n : Nat) (v1 : Int32) (f : jM), mX5_markHeld_L9 fu  v0 n v1 f = some res → J c (jZ c none res sz) f sz 0 0 9 [(0, .ref v0), (1, .int v1)] [] := by
  intro n
  induction n with
  | zero => intro v1 f h; exact jn0 h
  | succ n ih =>
    intro v1 f h
    rw [mX5_markHeld_L9] at h
    refine j_iload_n E 1 dX5_markHeld_9 rfl rfl ?_
    refine j_aload_n E 0 dX5_markHeld_10 rfl rfl ?_
    obtain ⟨x1, h1, h⟩ := jb h
    refine j_getR E gX5_20 h1 dX5_markHeld_11 ?_
    obtain ⟨x2, h2, h⟩ := jb h
    refine j_alen E h2 dX5_markHeld_14 ?_
    refine j_icmp_ge (tgt := 37) E dX5_markHeld_15 (by decide) (fun hc3 => ?_) (fun hc3 => ?_)
    · replace h := jt hc3 h
      refine j_aload_n E 0 dX5_markHeld_37 rfl rfl ?_
      obtain ⟨x4, h4, h⟩ := jb h
      refine j_getR E gX5_30 h4 dX5_markHeld_38 ?_
      refine j_aload_n E 0 dX5_markHeld_41 rfl rfl ?_
      obtain ⟨x5, h5, h⟩ := jb h
      refine j_getR E gX5_37 h5 dX5_markHeld_42 ?_
      obtain ⟨u6, h6, h⟩ := jb h
      obtain ⟨fs6, h6⟩ := chk_spec h6
      obtain ⟨f7, h7, h⟩ := jb h
      refine j_callV (As := [.ref x5]) (b := x4) (rest := []) (rc := 0) (rs := 0) E (sX3_markRefs h7) lwX3_markRefs lkX5_243 imX3_markRefs seX3_markRefs rfl h6 (by decide) rfl (Nat.le_of_ble_eq_true rfl) dX5_markHeld_45 ?_
      refine j_aload_n E 0 dX5_markHeld_48 rfl rfl ?_
      obtain ⟨x8, h8, h⟩ := jb h
      refine j_getR E gX5_37 h8 dX5_markHeld_49 ?_
      refine j_aload_n E 0 dX5_markHeld_52 rfl rfl ?_
      obtain ⟨x9, h9, h⟩ := jb h
      refine j_getR E gX5_20 h9 dX5_markHeld_53 ?_
      obtain ⟨u10, h10, h⟩ := jb h
      obtain ⟨fs10, h10⟩ := chk_spec h10
      obtain ⟨f11, h11, h⟩ := jb h
      refine j_callV (As := [.ref x9]) (b := x8) (rest := []) (rc := 0) (rs := 0) E (sX1_spread h11) lwX1_spread lkX5_246 imX1_spread seX1_spread rfl h10 (by decide) rfl (Nat.le_of_ble_eq_true rfl) dX5_markHeld_56 ?_
      cases h
      exact j_vret E dX5_markHeld_59
    replace h := jf hc3 h
    refine j_aload_n E 0 dX5_markHeld_18 rfl rfl ?_
    obtain ⟨x12, h12, h⟩ := jb h
    refine j_getR E gX5_20 h12 dX5_markHeld_19 ?_
    refine j_iload_n E 1 dX5_markHeld_22 rfl rfl ?_
    obtain ⟨x13, h13, h⟩ := jb h
    refine j_aald E rfl h13 dX5_markHeld_23 ?_
    refine j_aload_n E 0 dX5_markHeld_24 rfl rfl ?_
    obtain ⟨x14, h14, h⟩ := jb h
    refine j_getR E gX5_37 h14 dX5_markHeld_25 ?_
    obtain ⟨u15, h15, h⟩ := jb h
    obtain ⟨fs15, h15⟩ := chk_spec h15
    obtain ⟨f16, h16, h⟩ := jb h
    refine j_callV (As := [.ref x14]) (b := x13) (rest := []) (rc := 0) (rs := 0) E (sX2_markRegisters h16) lwX2_markRegisters lkX5_240 imX2_markRegisters seX2_markRegisters rfl h15 (by decide) rfl (Nat.le_of_ble_eq_true rfl) dX5_markHeld_28 ?_
    refine j_iinc (v := (v1 + (1 : Int32))) (lv' := [(1, .int (v1 + (1 : Int32))), (0, .ref v0)]) E 1 dX5_markHeld_31 rfl rfl (by decide) rfl ?_
    refine j_goto (tgt := 9) E dX5_markHeld_34 (by decide) ?_
    exact j_sub [1, 0] rfl (ih _ _ h)
def mX5_markHeld (fu : Nat) (f : jM) (v0 : Nat) : Option jM :=
    (rdR 5 f v0 2).bind fun x17 =>
    (chk 1 f x17).bind fun _ =>
    (mX1_clear fu f x17).bind fun f19 =>
    mX5_markHeld_L9 fu v0 fu (0 : Int32) f19
set_option maxRecDepth 100000 in
set_option maxHeartbeats 4000000 in
theorem sX5_markHeld {l : Launch} {D : jD} {sz : Nat} {fu : Nat} {f : jM} {v0 : Nat} {res : jM} (h : mX5_markHeld fu f v0 = some res) : jCt l D yX5_markHeld cX5_markHeld 2 none 3 68 [.ref v0] f sz 0 0 none res sz := by
  refine j_start (by decide +kernel) (Nat.le_of_ble_eq_true rfl) (fun c hcl hcD hcn E => ?_)
  subst hcl
  subst hcD
  replace E : jOk c cX5_markHeld 2 RX5 none 3 68 := E
  show J c (jZ c none res sz) f sz 0 0 0 [(0, .ref v0)] []
  unfold mX5_markHeld at h
  refine j_aload_n E 0 dX5_markHeld_0 rfl rfl ?_
  obtain ⟨x17, h17, h⟩ := jb h
  refine j_getR E gX5_37 h17 dX5_markHeld_1 ?_
  obtain ⟨u18, h18, h⟩ := jb h
  obtain ⟨fs18, h18⟩ := chk_spec h18
  obtain ⟨f19, h19, h⟩ := jb h
  refine j_callV (As := []) (b := x17) (rest := []) (rc := 0) (rs := 0) E (sX1_clear h19) lwX1_clear lkX5_237 imX1_clear seX1_clear rfl h18 (by decide) rfl (Nat.le_of_ble_eq_true rfl) dX5_markHeld_4 ?_
  refine j_iconst (v := (0 : Int32)) E dX5_markHeld_7 (by decide) ?_
  refine j_istore_n (lv' := [(1, .int (0 : Int32)), (0, .ref v0)]) E dX5_markHeld_8 rfl (by decide) rfl ?_
  exact j_sub [1, 0] rfl (wX5_markHeld_L9 E _ _ _ h)
def mX5_object (fu : Nat) (f : jM) (v0 : Nat) (v1 : Int32) (v2 : Int32) (v3 : Int32) : Option (Int32 × jM) :=
    (chk 5 f v0).bind fun _ =>
    (mX5_isObject f v0 v1 v2).bind fun r2 =>
    if r2.1 = 0 then (
    some ((-2 : Int32), r2.2)) else (
    if v3 = (0 : Int32) then (
    (rdR 5 r2.2 v0 0).bind fun x5 =>
    (ldR 2 r2.2 x5 v1).bind fun x6 =>
    (rdR 2 r2.2 x6 4).bind fun x7 =>
    (ldI 0 r2.2 x7 v2).bind fun x8 =>
    some (x8, r2.2)) else (if v3 = (1 : Int32) then (
    (rdR 5 r2.2 v0 0).bind fun x10 =>
    (ldR 2 r2.2 x10 v1).bind fun x11 =>
    (rdR 2 r2.2 x11 3).bind fun x12 =>
    (ldI 0 r2.2 x12 v2).bind fun x13 =>
    some (x13, r2.2)) else (if v3 = (2 : Int32) then (
    (rdR 5 r2.2 v0 0).bind fun x15 =>
    (ldR 2 r2.2 x15 v1).bind fun x16 =>
    (rdR 2 r2.2 x16 5).bind fun x17 =>
    (ldI 0 r2.2 x17 v2).bind fun x18 =>
    some (x18, r2.2)) else (if v3 = (3 : Int32) then (
    (chk 5 r2.2 v0).bind fun _ =>
    (mX5_markHeld fu r2.2 v0).bind fun f21 =>
    (rdR 5 f21 v0 2).bind fun x22 =>
    (mX5_idOf f21 v1 v2).bind fun r23 =>
    (chk 1 r23.2 x22).bind fun _ =>
    (mX1_has r23.2 x22 r23.1).bind fun r25 =>
    if r25.1 = 0 then (
    some ((0 : Int32), r25.2)) else (
    some ((1 : Int32), r25.2))) else (
    some ((-2 : Int32), r2.2))))))
set_option maxRecDepth 100000 in
set_option maxHeartbeats 4000000 in
theorem sX5_object {l : Launch} {D : jD} {sz : Nat} {fu : Nat} {f : jM} {v0 : Nat} {v1 : Int32} {v2 : Int32} {v3 : Int32} {res : (Int32 × jM)} (h : mX5_object fu f v0 v1 v2 v3 = some res) : jCt l D yX5_object cX5_object 4 (some .int) 4 89 [.ref v0, .int v1, .int v2, .int v3] f sz 0 0 (some (.int res.1)) res.2 sz := by
  refine j_start (by decide +kernel) (Nat.le_of_ble_eq_true rfl) (fun c hcl hcD hcn E => ?_)
  subst hcl
  subst hcD
  replace E : jOk c cX5_object 4 RX5 (some .int) 4 89 := E
  show J c (jZ c (some (.int res.1)) res.2 sz) f sz 0 0 0 [(0, .ref v0), (1, .int v1), (2, .int v2), (3, .int v3)] []
  unfold mX5_object at h
  refine j_aload_n E 0 dX5_object_0 rfl rfl ?_
  refine j_iload_n E 1 dX5_object_1 rfl rfl ?_
  refine j_iload_n E 2 dX5_object_2 rfl rfl ?_
  obtain ⟨u1, h1, h⟩ := jb h
  obtain ⟨fs1, h1⟩ := chk_spec h1
  obtain ⟨r2, h2, h⟩ := jb h
  refine j_callV (As := [.int v1, .int v2]) (b := v0) (rest := []) (rc := 0) (rs := 0) E (sX5_isObject h2) lwX5_isObject lkX5_164 imX5_isObject seX5_isObject rfl h1 (by decide) rfl (Nat.le_of_ble_eq_true rfl) dX5_object_3 ?_
  refine j_if_ne (tgt := 12) E dX5_object_6 (by decide) (fun hc3 => ?_) (fun hc3 => ?_)
  · replace h := jf hc3 h
    refine j_iload_n E 3 dX5_object_12 rfl rfl ?_
    by_cases hc4 : v3 = (0 : Int32)
    · replace h := jt hc4 h
      refine j_tableIn (off := 31) (tgt := 44) E dX5_object_13 (by rw [hc4]; decide) (by rw [hc4]; decide) (by rw [hc4]; rfl) (by decide) ?_
      refine j_aload_n E 0 dX5_object_44 rfl rfl ?_
      obtain ⟨x5, h5, h⟩ := jb h
      refine j_getR E gX5_20 h5 dX5_object_45 ?_
      refine j_iload_n E 1 dX5_object_48 rfl rfl ?_
      obtain ⟨x6, h6, h⟩ := jb h
      refine j_aald E rfl h6 dX5_object_49 ?_
      obtain ⟨x7, h7, h⟩ := jb h
      refine j_getR E gX5_203 h7 dX5_object_50 ?_
      refine j_iload_n E 2 dX5_object_53 rfl rfl ?_
      obtain ⟨x8, h8, h⟩ := jb h
      refine j_iald E h8 dX5_object_54 ?_
      cases h
      exact j_iret E dX5_object_55
    replace h := jf hc4 h
    by_cases hc9 : v3 = (1 : Int32)
    · replace h := jt hc9 h
      refine j_tableIn (off := 43) (tgt := 56) E dX5_object_13 (by rw [hc9]; decide) (by rw [hc9]; decide) (by rw [hc9]; rfl) (by decide) ?_
      refine j_aload_n E 0 dX5_object_56 rfl rfl ?_
      obtain ⟨x10, h10, h⟩ := jb h
      refine j_getR E gX5_20 h10 dX5_object_57 ?_
      refine j_iload_n E 1 dX5_object_60 rfl rfl ?_
      obtain ⟨x11, h11, h⟩ := jb h
      refine j_aald E rfl h11 dX5_object_61 ?_
      obtain ⟨x12, h12, h⟩ := jb h
      refine j_getR E gX5_206 h12 dX5_object_62 ?_
      refine j_iload_n E 2 dX5_object_65 rfl rfl ?_
      obtain ⟨x13, h13, h⟩ := jb h
      refine j_iald E h13 dX5_object_66 ?_
      cases h
      exact j_iret E dX5_object_67
    replace h := jf hc9 h
    by_cases hc14 : v3 = (2 : Int32)
    · replace h := jt hc14 h
      refine j_tableIn (off := 55) (tgt := 68) E dX5_object_13 (by rw [hc14]; decide) (by rw [hc14]; decide) (by rw [hc14]; rfl) (by decide) ?_
      refine j_aload_n E 0 dX5_object_68 rfl rfl ?_
      obtain ⟨x15, h15, h⟩ := jb h
      refine j_getR E gX5_20 h15 dX5_object_69 ?_
      refine j_iload_n E 1 dX5_object_72 rfl rfl ?_
      obtain ⟨x16, h16, h⟩ := jb h
      refine j_aald E rfl h16 dX5_object_73 ?_
      obtain ⟨x17, h17, h⟩ := jb h
      refine j_getR E gX5_168 h17 dX5_object_74 ?_
      refine j_iload_n E 2 dX5_object_77 rfl rfl ?_
      obtain ⟨x18, h18, h⟩ := jb h
      refine j_iald E h18 dX5_object_78 ?_
      cases h
      exact j_iret E dX5_object_79
    replace h := jf hc14 h
    by_cases hc19 : v3 = (3 : Int32)
    · replace h := jt hc19 h
      refine j_tableIn (off := 67) (tgt := 80) E dX5_object_13 (by rw [hc19]; decide) (by rw [hc19]; decide) (by rw [hc19]; rfl) (by decide) ?_
      refine j_aload_n E 0 dX5_object_80 rfl rfl ?_
      obtain ⟨u20, h20, h⟩ := jb h
      obtain ⟨fs20, h20⟩ := chk_spec h20
      obtain ⟨f21, h21, h⟩ := jb h
      refine j_callV (As := []) (b := v0) (rest := []) (rc := 0) (rs := 0) E (sX5_markHeld h21) lwX5_markHeld lkX5_209 imX5_markHeld seX5_markHeld rfl h20 (by decide) rfl (Nat.le_of_ble_eq_true rfl) dX5_object_81 ?_
      refine j_aload_n E 0 dX5_object_84 rfl rfl ?_
      obtain ⟨x22, h22, h⟩ := jb h
      refine j_getR E gX5_37 h22 dX5_object_85 ?_
      refine j_iload_n E 1 dX5_object_88 rfl rfl ?_
      refine j_iload_n E 2 dX5_object_89 rfl rfl ?_
      obtain ⟨r23, h23, h⟩ := jb h
      refine j_callS (As := [.int v1, .int v2]) (rest := [.ref x22]) (rc := 0) (rs := 0) E (sX5_idOf h23) lwX5_idOf lkX5_66 stX5_idOf (by decide) rfl (Nat.le_of_ble_eq_true rfl) dX5_object_90 ?_
      obtain ⟨u24, h24, h⟩ := jb h
      obtain ⟨fs24, h24⟩ := chk_spec h24
      obtain ⟨r25, h25, h⟩ := jb h
      refine j_callV (As := [.int r23.1]) (b := x22) (rest := []) (rc := 0) (rs := 0) E (sX1_has h25) lwX1_has lkX5_212 imX1_has seX1_has rfl h24 (by decide) rfl (Nat.le_of_ble_eq_true rfl) dX5_object_93 ?_
      refine j_if_eq (tgt := 103) E dX5_object_96 (by decide) (fun hc26 => ?_) (fun hc26 => ?_)
      · replace h := jt hc26 h
        refine j_iconst (v := (0 : Int32)) E dX5_object_103 (by decide) ?_
        cases h
        exact j_iret E dX5_object_104
      replace h := jf hc26 h
      refine j_iconst (v := (1 : Int32)) E dX5_object_99 (by decide) ?_
      refine j_goto (tgt := 104) E dX5_object_100 (by decide) ?_
      cases h
      exact j_iret E dX5_object_104
    replace h := jf hc19 h
    have q4 := jne (0 : Int32) (k := 0) rfl hc4
    have q9 := jne (1 : Int32) (k := 1) rfl hc9
    have q14 := jne (2 : Int32) (k := 2) rfl hc14
    have q19 := jne (3 : Int32) (k := 3) rfl hc19
    refine j_tableOut (tgt := 105) E dX5_object_13 (by omega) (by decide) ?_
    refine j_bipush (v := (-2 : Int32)) E dX5_object_105 (by decide) ?_
    cases h
    exact j_iret E dX5_object_107
  replace h := jt hc3 h
  refine j_bipush (v := (-2 : Int32)) E dX5_object_9 (by decide) ?_
  cases h
  exact j_iret E dX5_object_11
def mX5_weight (f : jM) (v0 : Nat) (v1 : Int32) (v2 : Int32) (v3 : Int32) : Option (Int32 × jM) :=
    (chk 5 f v0).bind fun _ =>
    (mX5_isNode f v0 v1).bind fun r2 =>
    if r2.1 = 0 then (
    some ((0 : Int32), r2.2)) else (
    (chk 5 r2.2 v0).bind fun _ =>
    (mX5_isNode r2.2 v0 v2).bind fun r5 =>
    if r5.1 = 0 then (
    some ((0 : Int32), r5.2)) else (
    if v3 < 0 then (
    some ((0 : Int32), r5.2)) else (
    if v3 < (24 : Int32) then (
    (rdR 5 r5.2 v0 0).bind fun x9 =>
    (ldR 2 r5.2 x9 v1).bind fun x10 =>
    (mX5_idOf r5.2 v2 v3).bind fun r11 =>
    (chk 2 r11.2 x10).bind fun _ =>
    (mX2_weightOfImport r11.2 x10 r11.1).bind fun r13 =>
    some (r13.1, r13.2)) else (
    some ((0 : Int32), r5.2)))))
set_option maxRecDepth 100000 in
set_option maxHeartbeats 4000000 in
theorem sX5_weight {l : Launch} {D : jD} {sz : Nat} {f : jM} {v0 : Nat} {v1 : Int32} {v2 : Int32} {v3 : Int32} {res : (Int32 × jM)} (h : mX5_weight f v0 v1 v2 v3 = some res) : jCt l D yX5_weight cX5_weight 4 (some .int) 2 41 [.ref v0, .int v1, .int v2, .int v3] f sz 0 0 (some (.int res.1)) res.2 sz := by
  refine j_start (by decide +kernel) (Nat.le_of_ble_eq_true rfl) (fun c hcl hcD hcn E => ?_)
  subst hcl
  subst hcD
  replace E : jOk c cX5_weight 4 RX5 (some .int) 2 41 := E
  show J c (jZ c (some (.int res.1)) res.2 sz) f sz 0 0 0 [(0, .ref v0), (1, .int v1), (2, .int v2), (3, .int v3)] []
  unfold mX5_weight at h
  refine j_aload_n E 0 dX5_weight_0 rfl rfl ?_
  refine j_iload_n E 1 dX5_weight_1 rfl rfl ?_
  obtain ⟨u1, h1, h⟩ := jb h
  obtain ⟨fs1, h1⟩ := chk_spec h1
  obtain ⟨r2, h2, h⟩ := jb h
  refine j_callV (As := [.int v1]) (b := v0) (rest := []) (rc := 0) (rs := 0) E (sX5_isNode h2) lwX5_isNode lkX5_48 imX5_isNode seX5_isNode rfl h1 (by decide) rfl (Nat.le_of_ble_eq_true rfl) dX5_weight_2 ?_
  refine j_if_eq (tgt := 26) E dX5_weight_5 (by decide) (fun hc3 => ?_) (fun hc3 => ?_)
  · replace h := jt hc3 h
    refine j_iconst (v := (0 : Int32)) E dX5_weight_26 (by decide) ?_
    cases h
    exact j_iret E dX5_weight_27
  replace h := jf hc3 h
  refine j_aload_n E 0 dX5_weight_8 rfl rfl ?_
  refine j_iload_n E 2 dX5_weight_9 rfl rfl ?_
  obtain ⟨u4, h4, h⟩ := jb h
  obtain ⟨fs4, h4⟩ := chk_spec h4
  obtain ⟨r5, h5, h⟩ := jb h
  refine j_callV (As := [.int v2]) (b := v0) (rest := []) (rc := 0) (rs := 0) E (sX5_isNode h5) lwX5_isNode lkX5_48 imX5_isNode seX5_isNode rfl h4 (by decide) rfl (Nat.le_of_ble_eq_true rfl) dX5_weight_10 ?_
  refine j_if_eq (tgt := 26) E dX5_weight_13 (by decide) (fun hc6 => ?_) (fun hc6 => ?_)
  · replace h := jt hc6 h
    refine j_iconst (v := (0 : Int32)) E dX5_weight_26 (by decide) ?_
    cases h
    exact j_iret E dX5_weight_27
  replace h := jf hc6 h
  refine j_iload_n E 3 dX5_weight_16 rfl rfl ?_
  refine j_if_lt (tgt := 26) E dX5_weight_17 (by decide) (fun hc7 => ?_) (fun hc7 => ?_)
  · replace h := jt hc7 h
    refine j_iconst (v := (0 : Int32)) E dX5_weight_26 (by decide) ?_
    cases h
    exact j_iret E dX5_weight_27
  replace h := jf hc7 h
  refine j_iload_n E 3 dX5_weight_20 rfl rfl ?_
  refine j_bipush (v := (24 : Int32)) E dX5_weight_21 (by decide) ?_
  refine j_icmp_lt (tgt := 28) E dX5_weight_23 (by decide) (fun hc8 => ?_) (fun hc8 => ?_)
  · replace h := jt hc8 h
    refine j_aload_n E 0 dX5_weight_28 rfl rfl ?_
    obtain ⟨x9, h9, h⟩ := jb h
    refine j_getR E gX5_20 h9 dX5_weight_29 ?_
    refine j_iload_n E 1 dX5_weight_32 rfl rfl ?_
    obtain ⟨x10, h10, h⟩ := jb h
    refine j_aald E rfl h10 dX5_weight_33 ?_
    refine j_iload_n E 2 dX5_weight_34 rfl rfl ?_
    refine j_iload_n E 3 dX5_weight_35 rfl rfl ?_
    obtain ⟨r11, h11, h⟩ := jb h
    refine j_callS (As := [.int v2, .int v3]) (rest := [.ref x10]) (rc := 0) (rs := 0) E (sX5_idOf h11) lwX5_idOf lkX5_66 stX5_idOf (by decide) rfl (Nat.le_of_ble_eq_true rfl) dX5_weight_36 ?_
    obtain ⟨u12, h12, h⟩ := jb h
    obtain ⟨fs12, h12⟩ := chk_spec h12
    obtain ⟨r13, h13, h⟩ := jb h
    refine j_callV (As := [.int r11.1]) (b := x10) (rest := []) (rc := 0) (rs := 0) E (sX2_weightOfImport h13) lwX2_weightOfImport lkX5_215 imX2_weightOfImport seX2_weightOfImport rfl h12 (by decide) rfl (Nat.le_of_ble_eq_true rfl) dX5_weight_39 ?_
    cases h
    exact j_iret E dX5_weight_42
  replace h := jf hc8 h
  refine j_iconst (v := (0 : Int32)) E dX5_weight_26 (by decide) ?_
  cases h
  exact j_iret E dX5_weight_27
def mX5_message (fu : Nat) (f : jM) (v0 : Nat) (v1 : Int32) (v2 : Int32) (v3 : Int32) (v4 : Int32) : Option (Int32 × jM) :=
    (rdR 5 f v0 1).bind fun x1 =>
    (chk 3 f x1).bind fun _ =>
    (mX3_find fu f x1 v1 v2 v3).bind fun r3 =>
    jcase r3.1 (
    some ((-1 : Int32), r3.2)) (fun x4 =>
    if v4 = (0 : Int32) then (
    (rdI 0 r3.2 x4 0).bind fun x6 =>
    some (x6, r3.2)) else (if v4 = (1 : Int32) then (
    (rdI 0 r3.2 x4 3).bind fun x8 =>
    (mX5_nameOf r3.2 x8).bind fun r9 =>
    some (r9.1, r9.2)) else (if v4 = (2 : Int32) then (
    (rdI 0 r3.2 x4 4).bind fun x11 =>
    some (x11, r3.2)) else (if v4 = (3 : Int32) then (
    (rdI 0 r3.2 x4 5).bind fun x13 =>
    some (x13, r3.2)) else (
    some ((-1 : Int32), r3.2))))))
set_option maxRecDepth 100000 in
set_option maxHeartbeats 4000000 in
theorem sX5_message {l : Launch} {D : jD} {sz : Nat} {fu : Nat} {f : jM} {v0 : Nat} {v1 : Int32} {v2 : Int32} {v3 : Int32} {v4 : Int32} {res : (Int32 × jM)} (h : mX5_message fu f v0 v1 v2 v3 v4 = some res) : jCt l D yX5_message cX5_message 6 (some .int) 2 40 [.ref v0, .int v1, .int v2, .int v3, .int v4] f sz 0 0 (some (.int res.1)) res.2 sz := by
  refine j_start (by decide +kernel) (Nat.le_of_ble_eq_true rfl) (fun c hcl hcD hcn E => ?_)
  subst hcl
  subst hcD
  replace E : jOk c cX5_message 6 RX5 (some .int) 2 40 := E
  show J c (jZ c (some (.int res.1)) res.2 sz) f sz 0 0 0 [(0, .ref v0), (1, .int v1), (2, .int v2), (3, .int v3), (4, .int v4)] []
  unfold mX5_message at h
  refine j_aload_n E 0 dX5_message_0 rfl rfl ?_
  obtain ⟨x1, h1, h⟩ := jb h
  refine j_getR E gX5_30 h1 dX5_message_1 ?_
  refine j_iload_n E 1 dX5_message_4 rfl rfl ?_
  refine j_iload_n E 2 dX5_message_5 rfl rfl ?_
  refine j_iload_n E 3 dX5_message_6 rfl rfl ?_
  obtain ⟨u2, h2, h⟩ := jb h
  obtain ⟨fs2, h2⟩ := chk_spec h2
  obtain ⟨r3, h3, h⟩ := jb h
  refine j_callV (As := [.int v1, .int v2, .int v3]) (b := x1) (rest := []) (rc := 0) (rs := 0) E (sX3_find h3) lwX3_find lkX5_108 imX3_find seX3_find rfl h2 (by decide) rfl (Nat.le_of_ble_eq_true rfl) dX5_message_7 ?_
  refine j_astoreQ (lv' := [(5, va_rf r3.1), (0, .ref v0), (1, .int v1), (2, .int v2), (3, .int v3), (4, .int v4)]) E dX5_message_10 (by decide) rfl ?_
  refine j_aloadQ E 0 dX5_message_12 rfl ?_
  refine j_ifnonnull (tgt := 19) E dX5_message_14 (by decide) (fun x4 hc4 => ?_) (fun hc4 => ?_)
  · rw [hc4] at h
    replace h := jcs h
    rw [hc4]
    refine j_iload E 5 dX5_message_19 rfl ?_
    by_cases hc5 : v4 = (0 : Int32)
    · replace h := jt hc5 h
      refine j_tableIn (off := 31) (tgt := 52) E dX5_message_21 (by rw [hc5]; decide) (by rw [hc5]; decide) (by rw [hc5]; rfl) (by decide) ?_
      refine j_aload E 0 dX5_message_52 rfl ?_
      obtain ⟨x6, h6, h⟩ := jb h
      refine j_getI E gX5_112 h6 dX5_message_54 ?_
      cases h
      exact j_iret E dX5_message_57
    replace h := jf hc5 h
    by_cases hc7 : v4 = (1 : Int32)
    · replace h := jt hc7 h
      refine j_tableIn (off := 37) (tgt := 58) E dX5_message_21 (by rw [hc7]; decide) (by rw [hc7]; decide) (by rw [hc7]; rfl) (by decide) ?_
      refine j_aload E 0 dX5_message_58 rfl ?_
      obtain ⟨x8, h8, h⟩ := jb h
      refine j_getI E gX5_118 h8 dX5_message_60 ?_
      obtain ⟨r9, h9, h⟩ := jb h
      refine j_callS (As := [.int x8]) (rest := []) (rc := 0) (rs := 0) E (sX5_nameOf h9) lwX5_nameOf lkX5_218 stX5_nameOf (by decide) rfl (Nat.le_of_ble_eq_true rfl) dX5_message_63 ?_
      cases h
      exact j_iret E dX5_message_66
    replace h := jf hc7 h
    by_cases hc10 : v4 = (2 : Int32)
    · replace h := jt hc10 h
      refine j_tableIn (off := 46) (tgt := 67) E dX5_message_21 (by rw [hc10]; decide) (by rw [hc10]; decide) (by rw [hc10]; rfl) (by decide) ?_
      refine j_aload E 0 dX5_message_67 rfl ?_
      obtain ⟨x11, h11, h⟩ := jb h
      refine j_getI E gX5_124 h11 dX5_message_69 ?_
      cases h
      exact j_iret E dX5_message_72
    replace h := jf hc10 h
    by_cases hc12 : v4 = (3 : Int32)
    · replace h := jt hc12 h
      refine j_tableIn (off := 52) (tgt := 73) E dX5_message_21 (by rw [hc12]; decide) (by rw [hc12]; decide) (by rw [hc12]; rfl) (by decide) ?_
      refine j_aload E 0 dX5_message_73 rfl ?_
      obtain ⟨x13, h13, h⟩ := jb h
      refine j_getI E gX5_127 h13 dX5_message_75 ?_
      cases h
      exact j_iret E dX5_message_78
    replace h := jf hc12 h
    have q5 := jne (0 : Int32) (k := 0) rfl hc5
    have q7 := jne (1 : Int32) (k := 1) rfl hc7
    have q10 := jne (2 : Int32) (k := 2) rfl hc10
    have q12 := jne (3 : Int32) (k := 3) rfl hc12
    refine j_tableOut (tgt := 79) E dX5_message_21 (by omega) (by decide) ?_
    refine j_iconst (v := (-1 : Int32)) E dX5_message_79 (by decide) ?_
    cases h
    exact j_iret E dX5_message_80
  · rw [hc4] at h
    replace h := jcn h
    rw [hc4]
    refine j_iconst (v := (-1 : Int32)) E dX5_message_17 (by decide) ?_
    cases h
    exact j_iret E dX5_message_18
def mX5_countOf (fu : Nat) (f : jM) (v0 : Nat) (v1 : Nat) (v2 : Int32) : Option (Int32 × jM) :=
    if v2 = (0 : Int32) then (
    (rdI 2 f v1 8).bind fun x2 =>
    some (x2, f)) else (if v2 = (1 : Int32) then (
    (chk 2 f v1).bind fun _ =>
    (mX2_countExports fu f v1).bind fun r5 =>
    some (r5.1, r5.2)) else (if v2 = (2 : Int32) then (
    (rdI 2 f v1 9).bind fun x7 =>
    some (x7, f)) else (if v2 = (3 : Int32) then (
    (rdR 5 f v0 2).bind fun x9 =>
    (chk 2 f v1).bind fun _ =>
    (mX2_countUnmarkedObjects fu f v1 x9).bind fun r11 =>
    some (r11.1, r11.2)) else (if v2 = (4 : Int32) then (
    (rdR 5 f v0 1).bind fun x13 =>
    (rdI 2 f v1 0).bind fun x14 =>
    (chk 3 f x13).bind fun _ =>
    (mX3_countTo fu f x13 x14).bind fun r16 =>
    some (r16.1, r16.2)) else (if v2 = (5 : Int32) then (
    (rdI 2 f v1 10).bind fun x18 =>
    some (x18, f)) else (
    (rdI 2 f v1 11).bind fun x19 =>
    some (x19, f)))))))
set_option maxRecDepth 100000 in
set_option maxHeartbeats 4000000 in
theorem sX5_countOf {l : Launch} {D : jD} {sz : Nat} {fu : Nat} {f : jM} {v0 : Nat} {v1 : Nat} {v2 : Int32} {res : (Int32 × jM)} (h : mX5_countOf fu f v0 v1 v2 = some res) : jCt l D yX5_countOf cX5_countOf 3 (some .int) 2 44 [.ref v0, .ref v1, .int v2] f sz 0 0 (some (.int res.1)) res.2 sz := by
  refine j_start (by decide +kernel) (Nat.le_of_ble_eq_true rfl) (fun c hcl hcD hcn E => ?_)
  subst hcl
  subst hcD
  replace E : jOk c cX5_countOf 3 RX5 (some .int) 2 44 := E
  show J c (jZ c (some (.int res.1)) res.2 sz) f sz 0 0 0 [(0, .ref v0), (1, .ref v1), (2, .int v2)] []
  unfold mX5_countOf at h
  refine j_iload_n E 2 dX5_countOf_0 rfl rfl ?_
  by_cases hc1 : v2 = (0 : Int32)
  · replace h := jt hc1 h
    refine j_tableIn (off := 39) (tgt := 40) E dX5_countOf_1 (by rw [hc1]; decide) (by rw [hc1]; decide) (by rw [hc1]; rfl) (by decide) ?_
    refine j_aload_n E 1 dX5_countOf_40 rfl rfl ?_
    obtain ⟨x2, h2, h⟩ := jb h
    refine j_getI E gX5_250 h2 dX5_countOf_41 ?_
    cases h
    exact j_iret E dX5_countOf_44
  replace h := jf hc1 h
  by_cases hc3 : v2 = (1 : Int32)
  · replace h := jt hc3 h
    refine j_tableIn (off := 44) (tgt := 45) E dX5_countOf_1 (by rw [hc3]; decide) (by rw [hc3]; decide) (by rw [hc3]; rfl) (by decide) ?_
    refine j_aload_n E 1 dX5_countOf_45 rfl rfl ?_
    obtain ⟨u4, h4, h⟩ := jb h
    obtain ⟨fs4, h4⟩ := chk_spec h4
    obtain ⟨r5, h5, h⟩ := jb h
    refine j_callV (As := []) (b := v1) (rest := []) (rc := 0) (rs := 0) E (sX2_countExports h5) lwX2_countExports lkX5_253 imX2_countExports seX2_countExports rfl h4 (by decide) rfl (Nat.le_of_ble_eq_true rfl) dX5_countOf_46 ?_
    cases h
    exact j_iret E dX5_countOf_49
  replace h := jf hc3 h
  by_cases hc6 : v2 = (2 : Int32)
  · replace h := jt hc6 h
    refine j_tableIn (off := 49) (tgt := 50) E dX5_countOf_1 (by rw [hc6]; decide) (by rw [hc6]; decide) (by rw [hc6]; rfl) (by decide) ?_
    refine j_aload_n E 1 dX5_countOf_50 rfl rfl ?_
    obtain ⟨x7, h7, h⟩ := jb h
    refine j_getI E gX5_256 h7 dX5_countOf_51 ?_
    cases h
    exact j_iret E dX5_countOf_54
  replace h := jf hc6 h
  by_cases hc8 : v2 = (3 : Int32)
  · replace h := jt hc8 h
    refine j_tableIn (off := 54) (tgt := 55) E dX5_countOf_1 (by rw [hc8]; decide) (by rw [hc8]; decide) (by rw [hc8]; rfl) (by decide) ?_
    refine j_aload_n E 1 dX5_countOf_55 rfl rfl ?_
    refine j_aload_n E 0 dX5_countOf_56 rfl rfl ?_
    obtain ⟨x9, h9, h⟩ := jb h
    refine j_getR E gX5_37 h9 dX5_countOf_57 ?_
    obtain ⟨u10, h10, h⟩ := jb h
    obtain ⟨fs10, h10⟩ := chk_spec h10
    obtain ⟨r11, h11, h⟩ := jb h
    refine j_callV (As := [.ref x9]) (b := v1) (rest := []) (rc := 0) (rs := 0) E (sX2_countUnmarkedObjects h11) lwX2_countUnmarkedObjects lkX5_259 imX2_countUnmarkedObjects seX2_countUnmarkedObjects rfl h10 (by decide) rfl (Nat.le_of_ble_eq_true rfl) dX5_countOf_60 ?_
    cases h
    exact j_iret E dX5_countOf_63
  replace h := jf hc8 h
  by_cases hc12 : v2 = (4 : Int32)
  · replace h := jt hc12 h
    refine j_tableIn (off := 63) (tgt := 64) E dX5_countOf_1 (by rw [hc12]; decide) (by rw [hc12]; decide) (by rw [hc12]; rfl) (by decide) ?_
    refine j_aload_n E 0 dX5_countOf_64 rfl rfl ?_
    obtain ⟨x13, h13, h⟩ := jb h
    refine j_getR E gX5_30 h13 dX5_countOf_65 ?_
    refine j_aload_n E 1 dX5_countOf_68 rfl rfl ?_
    obtain ⟨x14, h14, h⟩ := jb h
    refine j_getI E gX5_262 h14 dX5_countOf_69 ?_
    obtain ⟨u15, h15, h⟩ := jb h
    obtain ⟨fs15, h15⟩ := chk_spec h15
    obtain ⟨r16, h16, h⟩ := jb h
    refine j_callV (As := [.int x14]) (b := x13) (rest := []) (rc := 0) (rs := 0) E (sX3_countTo h16) lwX3_countTo lkX5_265 imX3_countTo seX3_countTo rfl h15 (by decide) rfl (Nat.le_of_ble_eq_true rfl) dX5_countOf_72 ?_
    cases h
    exact j_iret E dX5_countOf_75
  replace h := jf hc12 h
  by_cases hc17 : v2 = (5 : Int32)
  · replace h := jt hc17 h
    refine j_tableIn (off := 75) (tgt := 76) E dX5_countOf_1 (by rw [hc17]; decide) (by rw [hc17]; decide) (by rw [hc17]; rfl) (by decide) ?_
    refine j_aload_n E 1 dX5_countOf_76 rfl rfl ?_
    obtain ⟨x18, h18, h⟩ := jb h
    refine j_getI E gX5_268 h18 dX5_countOf_77 ?_
    cases h
    exact j_iret E dX5_countOf_80
  replace h := jf hc17 h
  have q1 := jne (0 : Int32) (k := 0) rfl hc1
  have q3 := jne (1 : Int32) (k := 1) rfl hc3
  have q6 := jne (2 : Int32) (k := 2) rfl hc6
  have q8 := jne (3 : Int32) (k := 3) rfl hc8
  have q12 := jne (4 : Int32) (k := 4) rfl hc12
  have q17 := jne (5 : Int32) (k := 5) rfl hc17
  refine j_tableOut (tgt := 81) E dX5_countOf_1 (by omega) (by decide) ?_
  refine j_aload_n E 1 dX5_countOf_81 rfl rfl ?_
  obtain ⟨x19, h19, h⟩ := jb h
  refine j_getI E gX5_271 h19 dX5_countOf_82 ?_
  cases h
  exact j_iret E dX5_countOf_85
def mX5_count_B60 (fu : Nat) (k39 : Int32 → Int32 → jM → Option (Int32 × jM)) (v0 : Nat) (v1 : Int32) (v2 : Int32) (v3 : Int32) (v4 : Int32)  (f : jM) : Option (Int32 × jM) :=
    (rdR 5 f v0 0).bind fun x11 =>
    (ldR 2 f x11 v4).bind fun x12 =>
    (chk 5 f v0).bind fun _ =>
    (mX5_countOf fu f v0 x12 v2).bind fun r14 =>
    k39 (v3 + r14.1) (v4 + (1 : Int32)) r14.2
set_option maxRecDepth 100000 in
set_option maxHeartbeats 4000000 in
theorem wX5_count_B60 {c : jS} {sz : Nat} {fu : Nat} {k39 : Int32 → Int32 → jM → Option (Int32 × jM)} {v0 : Nat} {v1 : Int32} {v2 : Int32} {v3 : Int32} {v4 : Int32}  {f : jM} {res : (Int32 × jM)} (E : jOk c cX5_count 5 RX5 (some .int) 4 89) (hk39 : ∀ (v3 : Int32) (v4 : Int32) (f : jM), k39 v3 v4 f = some res → J c (jZ c (some (.int res.1)) res.2 sz) f sz 0 0 39 [(0, .ref v0), (1, .int v1), (2, .int v2), (3, .int v3), (4, .int v4)] []) (h : mX5_count_B60 fu k39 v0 v1 v2 v3 v4  f = some res) : J c (jZ c (some (.int res.1)) res.2 sz) f sz 0 0 60 [(0, .ref v0), (1, .int v1), (2, .int v2), (3, .int v3), (4, .int v4)] [] := by
  unfold mX5_count_B60 at h
  refine j_iload_n E 3 dX5_count_60 rfl rfl ?_
  refine j_aload_n E 0 dX5_count_61 rfl rfl ?_
  refine j_aload_n E 0 dX5_count_62 rfl rfl ?_
  obtain ⟨x11, h11, h⟩ := jb h
  refine j_getR E gX5_20 h11 dX5_count_63 ?_
  refine j_iload E 4 dX5_count_66 rfl ?_
  obtain ⟨x12, h12, h⟩ := jb h
  refine j_aald E rfl h12 dX5_count_68 ?_
  refine j_iload_n E 2 dX5_count_69 rfl rfl ?_
  obtain ⟨u13, h13, h⟩ := jb h
  obtain ⟨fs13, h13⟩ := chk_spec h13
  obtain ⟨r14, h14, h⟩ := jb h
  refine j_callV (As := [.ref x12, .int v2]) (b := v0) (rest := [.int v3]) (rc := 0) (rs := 0) E (sX5_countOf h14) lwX5_countOf lkX5_221 imX5_countOf seX5_countOf rfl h13 (by decide) rfl (Nat.le_of_ble_eq_true rfl) dX5_count_70 ?_
  refine j_iadd E dX5_count_73 ?_
  refine j_istore_n (lv' := [(3, .int (v3 + r14.1)), (0, .ref v0), (1, .int v1), (2, .int v2), (4, .int v4)]) E dX5_count_74 rfl (by decide) rfl ?_
  refine j_iinc (v := (v4 + (1 : Int32))) (lv' := [(4, .int (v4 + (1 : Int32))), (3, .int (v3 + r14.1)), (0, .ref v0), (1, .int v1), (2, .int v2)]) E 4 dX5_count_75 rfl rfl (by decide) rfl ?_
  refine j_goto (tgt := 39) E dX5_count_78 (by decide) ?_
  exact j_sub [2, 3, 4, 1, 0] rfl (hk39 _ _ _ h)
def mX5_count_L39 (fu : Nat)  (v0 : Nat) (v1 : Int32) (v2 : Int32) : Nat → Int32 → Int32 → jM → Option (Int32 × jM)
  | 0, _, _, _ => none
  | n + 1, v3, v4, f =>
    (rdR 5 f v0 0).bind fun x6 =>
    (alen f x6).bind fun x7 =>
    if x7 ≤ v4 then (
    some (v3, f)) else (
    if v1 = (-1 : Int32) then (
    mX5_count_B60 fu (mX5_count_L39 fu v0 v1 v2 n) v0 v1 v2 v3 v4 f) else (
    if v1 = v4 then (
    mX5_count_B60 fu (mX5_count_L39 fu v0 v1 v2 n) v0 v1 v2 v3 v4 f) else (
    mX5_count_L39 fu v0 v1 v2 n v3 (v4 + (1 : Int32)) f)))
set_option maxRecDepth 100000 in
set_option maxHeartbeats 4000000 in
theorem wX5_count_L39 {c : jS} {sz : Nat} {fu : Nat}  {v0 : Nat} {v1 : Int32} {v2 : Int32} {res : (Int32 × jM)} (E : jOk c cX5_count 5 RX5 (some .int) 4 89)  : ∀ (n : Nat) (v3 : Int32) (v4 : Int32) (f : jM), mX5_count_L39 fu  v0 v1 v2 n v3 v4 f = some res → J c (jZ c (some (.int res.1)) res.2 sz) f sz 0 0 39 [(0, .ref v0), (1, .int v1), (2, .int v2), (3, .int v3), (4, .int v4)] [] := by
  intro n
  induction n with
  | zero => intro v3 v4 f h; exact jn0 h
  | succ n ih =>
    intro v3 v4 f h
    rw [mX5_count_L39] at h
    refine j_iload E 4 dX5_count_39 rfl ?_
    refine j_aload_n E 0 dX5_count_41 rfl rfl ?_
    obtain ⟨x6, h6, h⟩ := jb h
    refine j_getR E gX5_20 h6 dX5_count_42 ?_
    obtain ⟨x7, h7, h⟩ := jb h
    refine j_alen E h7 dX5_count_45 ?_
    refine j_icmp_ge (tgt := 81) E dX5_count_46 (by decide) (fun hc8 => ?_) (fun hc8 => ?_)
    · replace h := jt hc8 h
      refine j_iload_n E 3 dX5_count_81 rfl rfl ?_
      cases h
      exact j_iret E dX5_count_82
    replace h := jf hc8 h
    refine j_iload_n E 1 dX5_count_49 rfl rfl ?_
    refine j_iconst (v := (-1 : Int32)) E dX5_count_50 (by decide) ?_
    refine j_icmp_eq (tgt := 60) E dX5_count_51 (by decide) (fun hc9 => ?_) (fun hc9 => ?_)
    · replace h := jt hc9 h
      exact j_sub [0, 1, 2, 3, 4] rfl (wX5_count_B60 E ih h)
    replace h := jf hc9 h
    refine j_iload_n E 1 dX5_count_54 rfl rfl ?_
    refine j_iload E 4 dX5_count_55 rfl ?_
    refine j_icmp_ne (tgt := 75) E dX5_count_57 (by decide) (fun hc10 => ?_) (fun hc10 => ?_)
    · replace h := jf hc10 h
      refine j_iinc (v := (v4 + (1 : Int32))) (lv' := [(4, .int (v4 + (1 : Int32))), (0, .ref v0), (1, .int v1), (2, .int v2), (3, .int v3)]) E 4 dX5_count_75 rfl rfl (by decide) rfl ?_
      refine j_goto (tgt := 39) E dX5_count_78 (by decide) ?_
      exact j_sub [1, 2, 3, 4, 0] rfl (ih _ _ _ h)
    replace h := jt hc10 h
    exact j_sub [0, 1, 2, 3, 4] rfl (wX5_count_B60 E ih h)
def mX5_count_B34 (fu : Nat)  (v0 : Nat) (v1 : Int32) (v2 : Int32)  (f : jM) : Option (Int32 × jM) :=
    mX5_count_L39 fu v0 v1 v2 fu (0 : Int32) (0 : Int32) f
set_option maxRecDepth 100000 in
set_option maxHeartbeats 4000000 in
theorem wX5_count_B34 {c : jS} {sz : Nat} {fu : Nat}  {v0 : Nat} {v1 : Int32} {v2 : Int32}  {f : jM} {res : (Int32 × jM)} (E : jOk c cX5_count 5 RX5 (some .int) 4 89)  (h : mX5_count_B34 fu  v0 v1 v2  f = some res) : J c (jZ c (some (.int res.1)) res.2 sz) f sz 0 0 34 [(0, .ref v0), (1, .int v1), (2, .int v2)] [] := by
  unfold mX5_count_B34 at h
  refine j_iconst (v := (0 : Int32)) E dX5_count_34 (by decide) ?_
  refine j_istore_n (lv' := [(3, .int (0 : Int32)), (0, .ref v0), (1, .int v1), (2, .int v2)]) E dX5_count_35 rfl (by decide) rfl ?_
  refine j_iconst (v := (0 : Int32)) E dX5_count_36 (by decide) ?_
  refine j_istore (lv' := [(4, .int (0 : Int32)), (3, .int (0 : Int32)), (0, .ref v0), (1, .int v1), (2, .int v2)]) E dX5_count_37 (by decide) rfl ?_
  exact j_sub [2, 3, 4, 1, 0] rfl (wX5_count_L39 E _ _ _ _ h)
def mX5_count_B13 (fu : Nat)  (v0 : Nat) (v1 : Int32) (v2 : Int32)  (f : jM) : Option (Int32 × jM) :=
    if v2 < 0 then (
    some ((-1 : Int32), f)) else (
    if v2 ≤ (6 : Int32) then (
    if v2 = (3 : Int32) then (
    (chk 5 f v0).bind fun _ =>
    (mX5_markHeld fu f v0).bind fun f5 =>
    mX5_count_B34 fu v0 v1 v2 f5) else (
    mX5_count_B34 fu v0 v1 v2 f)) else (
    some ((-1 : Int32), f)))
set_option maxRecDepth 100000 in
set_option maxHeartbeats 4000000 in
theorem wX5_count_B13 {c : jS} {sz : Nat} {fu : Nat}  {v0 : Nat} {v1 : Int32} {v2 : Int32}  {f : jM} {res : (Int32 × jM)} (E : jOk c cX5_count 5 RX5 (some .int) 4 89)  (h : mX5_count_B13 fu  v0 v1 v2  f = some res) : J c (jZ c (some (.int res.1)) res.2 sz) f sz 0 0 13 [(0, .ref v0), (1, .int v1), (2, .int v2)] [] := by
  unfold mX5_count_B13 at h
  refine j_iload_n E 2 dX5_count_13 rfl rfl ?_
  refine j_if_lt (tgt := 23) E dX5_count_14 (by decide) (fun hc1 => ?_) (fun hc1 => ?_)
  · replace h := jt hc1 h
    refine j_iconst (v := (-1 : Int32)) E dX5_count_23 (by decide) ?_
    cases h
    exact j_iret E dX5_count_24
  replace h := jf hc1 h
  refine j_iload_n E 2 dX5_count_17 rfl rfl ?_
  refine j_bipush (v := (6 : Int32)) E dX5_count_18 (by decide) ?_
  refine j_icmp_le (tgt := 25) E dX5_count_20 (by decide) (fun hc2 => ?_) (fun hc2 => ?_)
  · replace h := jt hc2 h
    refine j_iload_n E 2 dX5_count_25 rfl rfl ?_
    refine j_iconst (v := (3 : Int32)) E dX5_count_26 (by decide) ?_
    refine j_icmp_ne (tgt := 34) E dX5_count_27 (by decide) (fun hc3 => ?_) (fun hc3 => ?_)
    · replace h := jf hc3 h
      exact j_sub [0, 1, 2] rfl (wX5_count_B34 E  h)
    replace h := jt hc3 h
    refine j_aload_n E 0 dX5_count_30 rfl rfl ?_
    obtain ⟨u4, h4, h⟩ := jb h
    obtain ⟨fs4, h4⟩ := chk_spec h4
    obtain ⟨f5, h5, h⟩ := jb h
    refine j_callV (As := []) (b := v0) (rest := []) (rc := 0) (rs := 0) E (sX5_markHeld h5) lwX5_markHeld lkX5_209 imX5_markHeld seX5_markHeld rfl h4 (by decide) rfl (Nat.le_of_ble_eq_true rfl) dX5_count_31 ?_
    exact j_sub [0, 1, 2] rfl (wX5_count_B34 E  h)
  replace h := jf hc2 h
  refine j_iconst (v := (-1 : Int32)) E dX5_count_23 (by decide) ?_
  cases h
  exact j_iret E dX5_count_24
def mX5_count (fu : Nat) (f : jM) (v0 : Nat) (v1 : Int32) (v2 : Int32) : Option (Int32 × jM) :=
    if v1 = (-1 : Int32) then (
    mX5_count_B13 fu v0 v1 v2 f) else (
    (chk 5 f v0).bind fun _ =>
    (mX5_isNode f v0 v1).bind fun r17 =>
    if r17.1 = 0 then (
    some ((-1 : Int32), r17.2)) else (
    mX5_count_B13 fu v0 v1 v2 r17.2))
set_option maxRecDepth 100000 in
set_option maxHeartbeats 4000000 in
theorem sX5_count {l : Launch} {D : jD} {sz : Nat} {fu : Nat} {f : jM} {v0 : Nat} {v1 : Int32} {v2 : Int32} {res : (Int32 × jM)} (h : mX5_count fu f v0 v1 v2 = some res) : jCt l D yX5_count cX5_count 5 (some .int) 4 89 [.ref v0, .int v1, .int v2] f sz 0 0 (some (.int res.1)) res.2 sz := by
  refine j_start (by decide +kernel) (Nat.le_of_ble_eq_true rfl) (fun c hcl hcD hcn E => ?_)
  subst hcl
  subst hcD
  replace E : jOk c cX5_count 5 RX5 (some .int) 4 89 := E
  show J c (jZ c (some (.int res.1)) res.2 sz) f sz 0 0 0 [(0, .ref v0), (1, .int v1), (2, .int v2)] []
  unfold mX5_count at h
  refine j_iload_n E 1 dX5_count_0 rfl rfl ?_
  refine j_iconst (v := (-1 : Int32)) E dX5_count_1 (by decide) ?_
  refine j_icmp_eq (tgt := 13) E dX5_count_2 (by decide) (fun hc15 => ?_) (fun hc15 => ?_)
  · replace h := jt hc15 h
    exact j_sub [0, 1, 2] rfl (wX5_count_B13 E  h)
  replace h := jf hc15 h
  refine j_aload_n E 0 dX5_count_5 rfl rfl ?_
  refine j_iload_n E 1 dX5_count_6 rfl rfl ?_
  obtain ⟨u16, h16, h⟩ := jb h
  obtain ⟨fs16, h16⟩ := chk_spec h16
  obtain ⟨r17, h17, h⟩ := jb h
  refine j_callV (As := [.int v1]) (b := v0) (rest := []) (rc := 0) (rs := 0) E (sX5_isNode h17) lwX5_isNode lkX5_48 imX5_isNode seX5_isNode rfl h16 (by decide) rfl (Nat.le_of_ble_eq_true rfl) dX5_count_7 ?_
  refine j_if_eq (tgt := 23) E dX5_count_10 (by decide) (fun hc18 => ?_) (fun hc18 => ?_)
  · replace h := jt hc18 h
    refine j_iconst (v := (-1 : Int32)) E dX5_count_23 (by decide) ?_
    cases h
    exact j_iret E dX5_count_24
  replace h := jf hc18 h
  exact j_sub [0, 1, 2] rfl (wX5_count_B13 E  h)
def mX5_weightsOf_L11 (fu : Nat)  (v0 : Nat) (v1 : Int32) : Nat → Int32 → Int32 → jM → Option (Int32 × jM)
  | 0, _, _, _ => none
  | n + 1, v2, v3, f =>
    (rdR 5 f v0 0).bind fun x1 =>
    (alen f x1).bind fun x2 =>
    if x2 ≤ v3 then (
    some (v2, f)) else (
    (rdR 5 f v0 0).bind fun x4 =>
    (ldR 2 f x4 v3).bind fun x5 =>
    (chk 2 f x5).bind fun _ =>
    (mX2_weightOfImport f x5 v1).bind fun r7 =>
    mX5_weightsOf_L11 fu v0 v1 n (v2 + r7.1) (v3 + (1 : Int32)) r7.2)
set_option maxRecDepth 100000 in
set_option maxHeartbeats 4000000 in
theorem wX5_weightsOf_L11 {c : jS} {sz : Nat} {fu : Nat}  {v0 : Nat} {v1 : Int32} {res : (Int32 × jM)} (E : jOk c cX5_weightsOf 4 RX5 (some .int) 2 41)  : ∀ (n : Nat) (v2 : Int32) (v3 : Int32) (f : jM), mX5_weightsOf_L11 fu  v0 v1 n v2 v3 f = some res → J c (jZ c (some (.int res.1)) res.2 sz) f sz 0 0 11 [(0, .ref v0), (1, .int v1), (2, .int v2), (3, .int v3)] [] := by
  intro n
  induction n with
  | zero => intro v2 v3 f h; exact jn0 h
  | succ n ih =>
    intro v2 v3 f h
    rw [mX5_weightsOf_L11] at h
    refine j_iload_n E 3 dX5_weightsOf_11 rfl rfl ?_
    refine j_aload_n E 0 dX5_weightsOf_12 rfl rfl ?_
    obtain ⟨x1, h1, h⟩ := jb h
    refine j_getR E gX5_20 h1 dX5_weightsOf_13 ?_
    obtain ⟨x2, h2, h⟩ := jb h
    refine j_alen E h2 dX5_weightsOf_16 ?_
    refine j_icmp_ge (tgt := 39) E dX5_weightsOf_17 (by decide) (fun hc3 => ?_) (fun hc3 => ?_)
    · replace h := jt hc3 h
      refine j_iload_n E 2 dX5_weightsOf_39 rfl rfl ?_
      cases h
      exact j_iret E dX5_weightsOf_40
    replace h := jf hc3 h
    refine j_iload_n E 2 dX5_weightsOf_20 rfl rfl ?_
    refine j_aload_n E 0 dX5_weightsOf_21 rfl rfl ?_
    obtain ⟨x4, h4, h⟩ := jb h
    refine j_getR E gX5_20 h4 dX5_weightsOf_22 ?_
    refine j_iload_n E 3 dX5_weightsOf_25 rfl rfl ?_
    obtain ⟨x5, h5, h⟩ := jb h
    refine j_aald E rfl h5 dX5_weightsOf_26 ?_
    refine j_iload_n E 1 dX5_weightsOf_27 rfl rfl ?_
    obtain ⟨u6, h6, h⟩ := jb h
    obtain ⟨fs6, h6⟩ := chk_spec h6
    obtain ⟨r7, h7, h⟩ := jb h
    refine j_callV (As := [.int v1]) (b := x5) (rest := [.int v2]) (rc := 0) (rs := 0) E (sX2_weightOfImport h7) lwX2_weightOfImport lkX5_215 imX2_weightOfImport seX2_weightOfImport rfl h6 (by decide) rfl (Nat.le_of_ble_eq_true rfl) dX5_weightsOf_28 ?_
    refine j_iadd E dX5_weightsOf_31 ?_
    refine j_istore_n (lv' := [(2, .int (v2 + r7.1)), (0, .ref v0), (1, .int v1), (3, .int v3)]) E dX5_weightsOf_32 rfl (by decide) rfl ?_
    refine j_iinc (v := (v3 + (1 : Int32))) (lv' := [(3, .int (v3 + (1 : Int32))), (2, .int (v2 + r7.1)), (0, .ref v0), (1, .int v1)]) E 3 dX5_weightsOf_33 rfl rfl (by decide) rfl ?_
    refine j_goto (tgt := 11) E dX5_weightsOf_36 (by decide) ?_
    exact j_sub [2, 3, 1, 0] rfl (ih _ _ _ h)
def mX5_weightsOf (fu : Nat) (f : jM) (v0 : Nat) (v1 : Int32) : Option (Int32 × jM) :=
    (rdR 5 f v0 1).bind fun x8 =>
    (chk 3 f x8).bind fun _ =>
    (mX3_weightOf fu f x8 v1).bind fun r10 =>
    mX5_weightsOf_L11 fu v0 v1 fu r10.1 (0 : Int32) r10.2
set_option maxRecDepth 100000 in
set_option maxHeartbeats 4000000 in
theorem sX5_weightsOf {l : Launch} {D : jD} {sz : Nat} {fu : Nat} {f : jM} {v0 : Nat} {v1 : Int32} {res : (Int32 × jM)} (h : mX5_weightsOf fu f v0 v1 = some res) : jCt l D yX5_weightsOf cX5_weightsOf 4 (some .int) 2 41 [.ref v0, .int v1] f sz 0 0 (some (.int res.1)) res.2 sz := by
  refine j_start (by decide +kernel) (Nat.le_of_ble_eq_true rfl) (fun c hcl hcD hcn E => ?_)
  subst hcl
  subst hcD
  replace E : jOk c cX5_weightsOf 4 RX5 (some .int) 2 41 := E
  show J c (jZ c (some (.int res.1)) res.2 sz) f sz 0 0 0 [(0, .ref v0), (1, .int v1)] []
  unfold mX5_weightsOf at h
  refine j_aload_n E 0 dX5_weightsOf_0 rfl rfl ?_
  obtain ⟨x8, h8, h⟩ := jb h
  refine j_getR E gX5_30 h8 dX5_weightsOf_1 ?_
  refine j_iload_n E 1 dX5_weightsOf_4 rfl rfl ?_
  obtain ⟨u9, h9, h⟩ := jb h
  obtain ⟨fs9, h9⟩ := chk_spec h9
  obtain ⟨r10, h10, h⟩ := jb h
  refine j_callV (As := [.int v1]) (b := x8) (rest := []) (rc := 0) (rs := 0) E (sX3_weightOf h10) lwX3_weightOf lkX5_274 imX3_weightOf seX3_weightOf rfl h9 (by decide) rfl (Nat.le_of_ble_eq_true rfl) dX5_weightsOf_5 ?_
  refine j_istore_n (lv' := [(2, .int r10.1), (0, .ref v0), (1, .int v1)]) E dX5_weightsOf_8 rfl (by decide) rfl ?_
  refine j_iconst (v := (0 : Int32)) E dX5_weightsOf_9 (by decide) ?_
  refine j_istore_n (lv' := [(3, .int (0 : Int32)), (2, .int r10.1), (0, .ref v0), (1, .int v1)]) E dX5_weightsOf_10 rfl (by decide) rfl ?_
  exact j_sub [2, 3, 1, 0] rfl (wX5_weightsOf_L11 E _ _ _ _ h)
def mX5_isEven_L13 (fu : Nat) (k2 : Int32 → jM → Option (Int32 × jM)) (v0 : Nat) (v1 : Int32) : Nat → Int32 → jM → Option (Int32 × jM)
  | 0, _, _ => none
  | n + 1, v2, f =>
    if (24 : Int32) ≤ v2 then (
    k2 (v1 + (1 : Int32)) f) else (
    (rdR 5 f v0 0).bind fun x5 =>
    (ldR 2 f x5 v1).bind fun x6 =>
    (rdR 2 f x6 5).bind fun x7 =>
    (ldI 0 f x7 v2).bind fun x8 =>
    if x8 ≤ 0 then (
    mX5_isEven_L13 fu k2 v0 v1 n (v2 + (1 : Int32)) f) else (
    (mX5_idOf f v1 v2).bind fun r10 =>
    (chk 5 r10.2 v0).bind fun _ =>
    (mX5_weightsOf fu r10.2 v0 r10.1).bind fun r12 =>
    if x8 = r12.1 then (
    mX5_isEven_L13 fu k2 v0 v1 n (v2 + (1 : Int32)) r12.2) else (
    some ((0 : Int32), r12.2))))
set_option maxRecDepth 100000 in
set_option maxHeartbeats 4000000 in
theorem wX5_isEven_L13 {c : jS} {sz : Nat} {fu : Nat} {k2 : Int32 → jM → Option (Int32 × jM)} {v0 : Nat} {v1 : Int32} {res : (Int32 × jM)} (E : jOk c cX5_isEven 4 RX5 (some .boolean) 3 64) (hk2 : ∀ (v1 : Int32) (f : jM), k2 v1 f = some res → J c (jZ c (some (.int res.1)) res.2 sz) f sz 0 0 2 [(0, .ref v0), (1, .int v1)] []) : ∀ (n : Nat) (v2 : Int32) (f : jM), mX5_isEven_L13 fu k2 v0 v1 n v2 f = some res → J c (jZ c (some (.int res.1)) res.2 sz) f sz 0 0 13 [(0, .ref v0), (1, .int v1), (2, .int v2)] [] := by
  intro n
  induction n with
  | zero => intro v2 f h; exact jn0 h
  | succ n ih =>
    intro v2 f h
    rw [mX5_isEven_L13] at h
    refine j_iload_n E 2 dX5_isEven_13 rfl rfl ?_
    refine j_bipush (v := (24 : Int32)) E dX5_isEven_14 (by decide) ?_
    refine j_icmp_ge (tgt := 56) E dX5_isEven_16 (by decide) (fun hc4 => ?_) (fun hc4 => ?_)
    · replace h := jt hc4 h
      refine j_iinc (v := (v1 + (1 : Int32))) (lv' := [(1, .int (v1 + (1 : Int32))), (0, .ref v0), (2, .int v2)]) E 1 dX5_isEven_56 rfl rfl (by decide) rfl ?_
      refine j_goto (tgt := 2) E dX5_isEven_59 (by decide) ?_
      exact j_sub [1, 0] rfl (hk2 _ _ h)
    replace h := jf hc4 h
    refine j_aload_n E 0 dX5_isEven_19 rfl rfl ?_
    obtain ⟨x5, h5, h⟩ := jb h
    refine j_getR E gX5_20 h5 dX5_isEven_20 ?_
    refine j_iload_n E 1 dX5_isEven_23 rfl rfl ?_
    obtain ⟨x6, h6, h⟩ := jb h
    refine j_aald E rfl h6 dX5_isEven_24 ?_
    obtain ⟨x7, h7, h⟩ := jb h
    refine j_getR E gX5_168 h7 dX5_isEven_25 ?_
    refine j_iload_n E 2 dX5_isEven_28 rfl rfl ?_
    obtain ⟨x8, h8, h⟩ := jb h
    refine j_iald E h8 dX5_isEven_29 ?_
    refine j_istore_n (lv' := [(3, .int x8), (0, .ref v0), (1, .int v1), (2, .int v2)]) E dX5_isEven_30 rfl (by decide) rfl ?_
    refine j_iload_n E 0 dX5_isEven_31 rfl rfl ?_
    refine j_if_le (tgt := 50) E dX5_isEven_32 (by decide) (fun hc9 => ?_) (fun hc9 => ?_)
    · replace h := jt hc9 h
      refine j_iinc (v := (v2 + (1 : Int32))) (lv' := [(2, .int (v2 + (1 : Int32))), (3, .int x8), (0, .ref v0), (1, .int v1)]) E 3 dX5_isEven_50 rfl rfl (by decide) rfl ?_
      refine j_goto (tgt := 13) E dX5_isEven_53 (by decide) ?_
      exact j_sub [2, 3, 0] rfl (ih _ _ h)
    replace h := jf hc9 h
    refine j_iload_n E 0 dX5_isEven_35 rfl rfl ?_
    refine j_aload_n E 1 dX5_isEven_36 rfl rfl ?_
    refine j_iload_n E 2 dX5_isEven_37 rfl rfl ?_
    refine j_iload_n E 3 dX5_isEven_38 rfl rfl ?_
    obtain ⟨r10, h10, h⟩ := jb h
    refine j_callS (As := [.int v1, .int v2]) (rest := [.ref v0, .int x8]) (rc := 0) (rs := 0) E (sX5_idOf h10) lwX5_idOf lkX5_66 stX5_idOf (by decide) rfl (Nat.le_of_ble_eq_true rfl) dX5_isEven_39 ?_
    obtain ⟨u11, h11, h⟩ := jb h
    obtain ⟨fs11, h11⟩ := chk_spec h11
    obtain ⟨r12, h12, h⟩ := jb h
    refine j_callV (As := [.int r10.1]) (b := v0) (rest := [.int x8]) (rc := 0) (rs := 0) E (sX5_weightsOf h12) lwX5_weightsOf lkX5_225 imX5_weightsOf seX5_weightsOf rfl h11 (by decide) rfl (Nat.le_of_ble_eq_true rfl) dX5_isEven_42 ?_
    refine j_icmp_eq (tgt := 50) E dX5_isEven_45 (by decide) (fun hc13 => ?_) (fun hc13 => ?_)
    · replace h := jt hc13 h
      refine j_iinc (v := (v2 + (1 : Int32))) (lv' := [(2, .int (v2 + (1 : Int32))), (3, .int x8), (0, .ref v0), (1, .int v1)]) E 3 dX5_isEven_50 rfl rfl (by decide) rfl ?_
      refine j_goto (tgt := 13) E dX5_isEven_53 (by decide) ?_
      exact j_sub [2, 3, 0] rfl (ih _ _ h)
    replace h := jf hc13 h
    refine j_iconst (v := (0 : Int32)) E dX5_isEven_48 (by decide) ?_
    cases h
    exact j_zret (v := (0 : Int32)) E (by decide +kernel) dX5_isEven_49
def mX5_isEven_L2 (fu : Nat)  (v0 : Nat) : Nat → Int32 → jM → Option (Int32 × jM)
  | 0, _, _ => none
  | n + 1, v1, f =>
    (rdR 5 f v0 0).bind fun x1 =>
    (alen f x1).bind fun x2 =>
    if x2 ≤ v1 then (
    some ((1 : Int32), f)) else (
    mX5_isEven_L13 fu (mX5_isEven_L2 fu v0 n) v0 v1 fu (0 : Int32) f)
set_option maxRecDepth 100000 in
set_option maxHeartbeats 4000000 in
theorem wX5_isEven_L2 {c : jS} {sz : Nat} {fu : Nat}  {v0 : Nat} {res : (Int32 × jM)} (E : jOk c cX5_isEven 4 RX5 (some .boolean) 3 64)  : ∀ (n : Nat) (v1 : Int32) (f : jM), mX5_isEven_L2 fu  v0 n v1 f = some res → J c (jZ c (some (.int res.1)) res.2 sz) f sz 0 0 2 [(0, .ref v0), (1, .int v1)] [] := by
  intro n
  induction n with
  | zero => intro v1 f h; exact jn0 h
  | succ n ih =>
    intro v1 f h
    rw [mX5_isEven_L2] at h
    refine j_iload_n E 1 dX5_isEven_2 rfl rfl ?_
    refine j_aload_n E 0 dX5_isEven_3 rfl rfl ?_
    obtain ⟨x1, h1, h⟩ := jb h
    refine j_getR E gX5_20 h1 dX5_isEven_4 ?_
    obtain ⟨x2, h2, h⟩ := jb h
    refine j_alen E h2 dX5_isEven_7 ?_
    refine j_icmp_ge (tgt := 62) E dX5_isEven_8 (by decide) (fun hc3 => ?_) (fun hc3 => ?_)
    · replace h := jt hc3 h
      refine j_iconst (v := (1 : Int32)) E dX5_isEven_62 (by decide) ?_
      cases h
      exact j_zret (v := (1 : Int32)) E (by decide +kernel) dX5_isEven_63
    replace h := jf hc3 h
    refine j_iconst (v := (0 : Int32)) E dX5_isEven_11 (by decide) ?_
    refine j_istore_n (lv' := [(2, .int (0 : Int32)), (0, .ref v0), (1, .int v1)]) E dX5_isEven_12 rfl (by decide) rfl ?_
    exact j_sub [1, 2, 0] rfl (wX5_isEven_L13 E ih _ _ _ h)
def mX5_isEven (fu : Nat) (f : jM) (v0 : Nat) : Option (Int32 × jM) :=
    mX5_isEven_L2 fu v0 fu (0 : Int32) f
set_option maxRecDepth 100000 in
set_option maxHeartbeats 4000000 in
theorem sX5_isEven {l : Launch} {D : jD} {sz : Nat} {fu : Nat} {f : jM} {v0 : Nat} {res : (Int32 × jM)} (h : mX5_isEven fu f v0 = some res) : jCt l D yX5_isEven cX5_isEven 4 (some .boolean) 3 64 [.ref v0] f sz 0 0 (some (.int res.1)) res.2 sz := by
  refine j_start (by decide +kernel) (Nat.le_of_ble_eq_true rfl) (fun c hcl hcD hcn E => ?_)
  subst hcl
  subst hcD
  replace E : jOk c cX5_isEven 4 RX5 (some .boolean) 3 64 := E
  show J c (jZ c (some (.int res.1)) res.2 sz) f sz 0 0 0 [(0, .ref v0)] []
  unfold mX5_isEven at h
  refine j_iconst (v := (0 : Int32)) E dX5_isEven_0 (by decide) ?_
  refine j_istore_n (lv' := [(1, .int (0 : Int32)), (0, .ref v0)]) E dX5_isEven_1 rfl (by decide) rfl ?_
  exact j_sub [1, 0] rfl (wX5_isEven_L2 E _ _ _ h)
