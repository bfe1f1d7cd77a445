def mX6_settles_L28 (fu : Nat) (k4 : Int32 → Int32 → jM → Option (Int32 × jM)) (v0 : Nat) (v1 : Int32) (v3 : Int32) (v5 : Int32) : Nat → Int32 → Int32 → jM → Option (Int32 × jM)
  | 0, _, _, _ => none
  | n + 1, v4, v6, f =>
    (rdI 6 f v0 1).bind fun x7 =>
    if x7 ≤ v6 then (
    if 0 < v3 then (
    k4 (v1 + v4) (1 : Int32) f) else (
    if 0 < v4 then (
    k4 (v1 + v4) (1 : Int32) f) else (
    (rdI 6 f v0 13).bind fun x11 =>
    if x11 ≤ v5 then (
    k4 (v1 + v4) (0 : Int32) f) else (
    k4 (v1 + v4) (1 : Int32) f)))) else (
    (chk 6 f v0).bind fun _ =>
    (mX6_collects fu f v0 v6).bind fun r14 =>
    if 0 ≤ r14.1 then (
    mX6_settles_L28 fu k4 v0 v1 v3 v5 n (v4 + r14.1) (v6 + (1 : Int32)) r14.2) else (
    some ((-2 : Int32), r14.2)))
set_option maxRecDepth 100000 in
set_option maxHeartbeats 4000000 in
theorem wX6_settles_L28 {c : jS} {sz : Nat} {fu : Nat} {k4 : Int32 → Int32 → jM → Option (Int32 × jM)} {v0 : Nat} {v1 : Int32} {v3 : Int32} {v5 : Int32} {res : (Int32 × jM)} (E : jOk c cX6_settles 8 RX6 (some .int) 3 79) (hk4 : ∀ (v1 : Int32) (v2 : Int32) (f : jM), k4 v1 v2 f = some res → J c (jZ c (some (.int res.1)) res.2 sz) f sz 0 0 4 [(0, .ref v0), (1, .int v1), (2, .int v2)] []) : ∀ (n : Nat) (v4 : Int32) (v6 : Int32) (f : jM), mX6_settles_L28 fu k4 v0 v1 v3 v5 n v4 v6 f = some res → J c (jZ c (some (.int res.1)) res.2 sz) f sz 0 0 28 [(0, .ref v0), (1, .int v1), (3, .int v3), (4, .int v4), (5, .int v5), (6, .int v6)] [] := by
  intro n
  induction n with
  | zero => intro v4 v6 f h; exact jn0 h
  | succ n ih =>
    intro v4 v6 f h
    rw [mX6_settles_L28] at h
    refine j_iload E 5 dX6_settles_28 rfl ?_
    refine j_aload_n E 0 dX6_settles_30 rfl rfl ?_
    obtain ⟨x7, h7, h⟩ := jb h
    refine j_getI E gX6_87 h7 dX6_settles_31 ?_
    refine j_icmp_ge (tgt := 66) E dX6_settles_34 (by decide) (fun hc8 => ?_) (fun hc8 => ?_)
    · replace h := jt hc8 h
      refine j_iload_n E 1 dX6_settles_66 rfl rfl ?_
      refine j_iload E 3 dX6_settles_67 rfl ?_
      refine j_iadd E dX6_settles_69 ?_
      refine j_istore_n (lv' := [(1, .int (v1 + v4)), (0, .ref v0), (3, .int v3), (4, .int v4), (5, .int v5), (6, .int v6)]) E dX6_settles_70 rfl (by decide) rfl ?_
      refine j_iload_n E 2 dX6_settles_71 rfl rfl ?_
      refine j_if_gt (tgt := 89) E dX6_settles_72 (by decide) (fun hc9 => ?_) (fun hc9 => ?_)
      · replace h := jt hc9 h
        refine j_iconst (v := (1 : Int32)) E dX6_settles_89 (by decide) ?_
        refine j_goto (tgt := 94) E dX6_settles_90 (by decide) ?_
        refine j_istore_n (lv' := [(2, .int (1 : Int32)), (1, .int (v1 + v4)), (0, .ref v0), (3, .int v3), (4, .int v4), (5, .int v5), (6, .int v6)]) E dX6_settles_94 rfl (by decide) rfl ?_
        refine j_goto (tgt := 4) E dX6_settles_95 (by decide) ?_
        exact j_sub [2, 1, 0] rfl (hk4 _ _ _ h)
      replace h := jf hc9 h
      refine j_iload E 3 dX6_settles_75 rfl ?_
      refine j_if_gt (tgt := 89) E dX6_settles_77 (by decide) (fun hc10 => ?_) (fun hc10 => ?_)
      · replace h := jt hc10 h
        refine j_iconst (v := (1 : Int32)) E dX6_settles_89 (by decide) ?_
        refine j_goto (tgt := 94) E dX6_settles_90 (by decide) ?_
        refine j_istore_n (lv' := [(2, .int (1 : Int32)), (1, .int (v1 + v4)), (0, .ref v0), (3, .int v3), (4, .int v4), (5, .int v5), (6, .int v6)]) E dX6_settles_94 rfl (by decide) rfl ?_
        refine j_goto (tgt := 4) E dX6_settles_95 (by decide) ?_
        exact j_sub [2, 1, 0] rfl (hk4 _ _ _ h)
      replace h := jf hc10 h
      refine j_aload_n E 1 dX6_settles_80 rfl rfl ?_
      obtain ⟨x11, h11, h⟩ := jb h
      refine j_getI E gX6_110 h11 dX6_settles_81 ?_
      refine j_iload E 4 dX6_settles_84 rfl ?_
      refine j_icmp_le (tgt := 93) E dX6_settles_86 (by decide) (fun hc12 => ?_) (fun hc12 => ?_)
      · replace h := jt hc12 h
        refine j_iconst (v := (0 : Int32)) E dX6_settles_93 (by decide) ?_
        refine j_istore_n (lv' := [(2, .int (0 : Int32)), (1, .int (v1 + v4)), (0, .ref v0), (3, .int v3), (4, .int v4), (5, .int v5), (6, .int v6)]) E dX6_settles_94 rfl (by decide) rfl ?_
        refine j_goto (tgt := 4) E dX6_settles_95 (by decide) ?_
        exact j_sub [2, 1, 0] rfl (hk4 _ _ _ h)
      replace h := jf hc12 h
      refine j_iconst (v := (1 : Int32)) E dX6_settles_89 (by decide) ?_
      refine j_goto (tgt := 94) E dX6_settles_90 (by decide) ?_
      refine j_istore_n (lv' := [(2, .int (1 : Int32)), (1, .int (v1 + v4)), (0, .ref v0), (3, .int v3), (4, .int v4), (5, .int v5), (6, .int v6)]) E dX6_settles_94 rfl (by decide) rfl ?_
      refine j_goto (tgt := 4) E dX6_settles_95 (by decide) ?_
      exact j_sub [2, 1, 0] rfl (hk4 _ _ _ h)
    replace h := jf hc8 h
    refine j_aload_n E 0 dX6_settles_37 rfl rfl ?_
    refine j_iload E 5 dX6_settles_38 rfl ?_
    obtain ⟨u13, h13, h⟩ := jb h
    obtain ⟨fs13, h13⟩ := chk_spec h13
    obtain ⟨r14, h14, h⟩ := jb h
    refine j_callV (As := [.int v6]) (b := v0) (rest := []) (rc := 0) (rs := 0) E (sX6_collects h14) lwX6_collects lkX6_151 imX6_collects seX6_collects rfl h13 (by decide) rfl (Nat.le_of_ble_eq_true rfl) dX6_settles_40 ?_
    refine j_istore (lv' := [(7, .int r14.1), (0, .ref v0), (1, .int v1), (3, .int v3), (4, .int v4), (5, .int v5), (6, .int v6)]) E dX6_settles_43 (by decide) rfl ?_
    refine j_iload E 0 dX6_settles_45 rfl ?_
    refine j_if_ge (tgt := 53) E dX6_settles_47 (by decide) (fun hc15 => ?_) (fun hc15 => ?_)
    · replace h := jt hc15 h
      refine j_iload E 4 dX6_settles_53 rfl ?_
      refine j_iload E 0 dX6_settles_55 rfl ?_
      refine j_iadd E dX6_settles_57 ?_
      refine j_istore (lv' := [(4, .int (v4 + r14.1)), (7, .int r14.1), (0, .ref v0), (1, .int v1), (3, .int v3), (5, .int v5), (6, .int v6)]) E dX6_settles_58 (by decide) rfl ?_
      refine j_iinc (v := (v6 + (1 : Int32))) (lv' := [(6, .int (v6 + (1 : Int32))), (4, .int (v4 + r14.1)), (7, .int r14.1), (0, .ref v0), (1, .int v1), (3, .int v3), (5, .int v5)]) E 6 dX6_settles_60 rfl rfl (by decide) rfl ?_
      refine j_goto (tgt := 28) E dX6_settles_63 (by decide) ?_
      exact j_sub [3, 4, 5, 1, 6, 0] rfl (ih _ _ _ h)
    replace h := jf hc15 h
    refine j_bipush (v := (-2 : Int32)) E dX6_settles_50 (by decide) ?_
    cases h
    exact j_iret E dX6_settles_52
def mX6_settles_L4 (fu : Nat)  (v0 : Nat) : Nat → Int32 → Int32 → jM → Option (Int32 × jM)
  | 0, _, _, _ => none
  | n + 1, v1, v2, f =>
    if v2 = 0 then (
    (rdI 6 f v0 13).bind fun x2 =>
    if x2 ≤ 0 then (
    some (v1, f)) else (
    some ((-2 : Int32), f))) else (
    (chk 6 f v0).bind fun _ =>
    (mX6_drains fu f v0 (1000 : Int32)).bind fun r5 =>
    (rdI 6 r5.2 v0 13).bind fun x6 =>
    mX6_settles_L28 fu (mX6_settles_L4 fu v0 n) v0 v1 r5.1 x6 fu (0 : Int32) (0 : Int32) r5.2)
set_option maxRecDepth 100000 in
set_option maxHeartbeats 4000000 in
theorem wX6_settles_L4 {c : jS} {sz : Nat} {fu : Nat}  {v0 : Nat} {res : (Int32 × jM)} (E : jOk c cX6_settles 8 RX6 (some .int) 3 79)  : ∀ (n : Nat) (v1 : Int32) (v2 : Int32) (f : jM), mX6_settles_L4 fu  v0 n v1 v2 f = some res → J c (jZ c (some (.int res.1)) res.2 sz) f sz 0 0 4 [(0, .ref v0), (1, .int v1), (2, .int v2)] [] := by
  intro n
  induction n with
  | zero => intro v1 v2 f h; exact jn0 h
  | succ n ih =>
    intro v1 v2 f h
    rw [mX6_settles_L4] at h
    refine j_iload_n E 2 dX6_settles_4 rfl rfl ?_
    refine j_if_eq (tgt := 98) E dX6_settles_5 (by decide) (fun hc1 => ?_) (fun hc1 => ?_)
    · replace h := jt hc1 h
      refine j_aload_n E 0 dX6_settles_98 rfl rfl ?_
      obtain ⟨x2, h2, h⟩ := jb h
      refine j_getI E gX6_110 h2 dX6_settles_99 ?_
      refine j_if_le (tgt := 110) E dX6_settles_102 (by decide) (fun hc3 => ?_) (fun hc3 => ?_)
      · replace h := jt hc3 h
        refine j_iload_n E 1 dX6_settles_110 rfl rfl ?_
        cases h
        exact j_iret E dX6_settles_111
      replace h := jf hc3 h
      refine j_bipush (v := (-2 : Int32)) E dX6_settles_105 (by decide) ?_
      refine j_goto (tgt := 111) E dX6_settles_107 (by decide) ?_
      cases h
      exact j_iret E dX6_settles_111
    replace h := jf hc1 h
    refine j_aload_n E 0 dX6_settles_8 rfl rfl ?_
    refine j_sipush (v := (1000 : Int32)) E dX6_settles_9 (by decide) ?_
    obtain ⟨u4, h4, h⟩ := jb h
    obtain ⟨fs4, h4⟩ := chk_spec h4
    obtain ⟨r5, h5, h⟩ := jb h
    refine j_callV (As := [.int (1000 : Int32)]) (b := v0) (rest := []) (rc := 0) (rs := 0) E (sX6_drains h5) lwX6_drains lkX6_134 imX6_drains seX6_drains rfl h4 (by decide) rfl (Nat.le_of_ble_eq_true rfl) dX6_settles_12 ?_
    refine j_istore_n (lv' := [(3, .int r5.1), (0, .ref v0), (1, .int v1), (2, .int v2)]) E dX6_settles_15 rfl (by decide) rfl ?_
    refine j_iconst (v := (0 : Int32)) E dX6_settles_16 (by decide) ?_
    refine j_istore (lv' := [(4, .int (0 : Int32)), (3, .int r5.1), (0, .ref v0), (1, .int v1), (2, .int v2)]) E dX6_settles_17 (by decide) rfl ?_
    refine j_aload_n E 2 dX6_settles_19 rfl rfl ?_
    obtain ⟨x6, h6, h⟩ := jb h
    refine j_getI E gX6_110 h6 dX6_settles_20 ?_
    refine j_istore (lv' := [(5, .int x6), (4, .int (0 : Int32)), (3, .int r5.1), (0, .ref v0), (1, .int v1), (2, .int v2)]) E dX6_settles_23 (by decide) rfl ?_
    refine j_iconst (v := (0 : Int32)) E dX6_settles_25 (by decide) ?_
    refine j_istore (lv' := [(6, .int (0 : Int32)), (5, .int x6), (4, .int (0 : Int32)), (3, .int r5.1), (0, .ref v0), (1, .int v1), (2, .int v2)]) E dX6_settles_26 (by decide) rfl ?_
    exact j_sub [4, 5, 3, 2, 1, 0] rfl (wX6_settles_L28 E ih _ _ _ _ h)
def mX6_settles (fu : Nat) (f : jM) (v0 : Nat) : Option (Int32 × jM) :=
    mX6_settles_L4 fu v0 fu (0 : Int32) (1 : Int32) f
set_option maxRecDepth 100000 in
set_option maxHeartbeats 4000000 in
theorem sX6_settles {l : Launch} {D : jD} {sz : Nat} {fu : Nat} {f : jM} {v0 : Nat} {res : (Int32 × jM)} (h : mX6_settles fu f v0 = some res) : jCt l D yX6_settles cX6_settles 8 (some .int) 3 79 [.ref v0] f sz 0 0 (some (.int res.1)) res.2 sz := by
  refine j_start (by decide +kernel) (Nat.le_of_ble_eq_true rfl) (fun c hcl hcD hcn E => ?_)
  subst hcl
  subst hcD
  replace E : jOk c cX6_settles 8 RX6 (some .int) 3 79 := E
  show J c (jZ c (some (.int res.1)) res.2 sz) f sz 0 0 0 [(0, .ref v0)] []
  unfold mX6_settles at h
  refine j_iconst (v := (0 : Int32)) E dX6_settles_0 (by decide) ?_
  refine j_istore_n (lv' := [(1, .int (0 : Int32)), (0, .ref v0)]) E dX6_settles_1 rfl (by decide) rfl ?_
  refine j_iconst (v := (1 : Int32)) E dX6_settles_2 (by decide) ?_
  refine j_istore_n (lv' := [(2, .int (1 : Int32)), (1, .int (0 : Int32)), (0, .ref v0)]) E dX6_settles_3 rfl (by decide) rfl ?_
  exact j_sub [2, 1, 0] rfl (wX6_settles_L4 E _ _ _ _ h)
def mX6_settle (fu : Nat) (f : jM) (v0 : Nat) : Option (Int32 × jM) :=
    (chk 6 f v0).bind fun _ =>
    (mX6_settles fu f v0).bind fun r2 =>
    some (r2.1, r2.2)
set_option maxRecDepth 100000 in
set_option maxHeartbeats 4000000 in
theorem sX6_settle {l : Launch} {D : jD} {sz : Nat} {fu : Nat} {f : jM} {v0 : Nat} {res : (Int32 × jM)} (h : mX6_settle fu f v0 = some res) : jCt l D yX6_settle cX6_settle 1 (some .int) 4 106 [.ref v0] f sz 0 0 (some (.int res.1)) res.2 sz := by
  refine j_start (by decide +kernel) (Nat.le_of_ble_eq_true rfl) (fun c hcl hcD hcn E => ?_)
  subst hcl
  subst hcD
  replace E : jOk c cX6_settle 1 RX6 (some .int) 4 106 := E
  show J c (jZ c (some (.int res.1)) res.2 sz) f sz 0 0 0 [(0, .ref v0)] []
  unfold mX6_settle at h
  refine j_aload_n E 0 dX6_settle_0 rfl rfl ?_
  obtain ⟨u1, h1, h⟩ := jb h
  obtain ⟨fs1, h1⟩ := chk_spec h1
  obtain ⟨r2, h2, h⟩ := jb h
  refine j_callV (As := []) (b := v0) (rest := []) (rc := 0) (rs := 0) E (sX6_settles h2) lwX6_settles lkX6_173 imX6_settles seX6_settles rfl h1 (by decide) rfl (Nat.le_of_ble_eq_true rfl) dX6_settle_1 ?_
  cases h
  exact j_iret E dX6_settle_4
def mX6_pass_B56 (fu : Nat) (k14 : Int32 → Int32 → jM → Option (Int32 × jM)) (v0 : Nat) (v1 : Int32) (v2 : Int32) (s0 : Int32) (f : jM) : Option (Int32 × jM) :=
    if s0 = 0 then (
    k14 v1 (v2 + (1 : Int32)) f) else (
    (chk 6 f v0).bind fun _ =>
    (mX6_settles fu f v0).bind fun r14 =>
    if 0 ≤ r14.1 then (
    k14 (v1 + r14.1) (0 : Int32) r14.2) else (
    some ((-2 : Int32), r14.2)))
set_option maxRecDepth 100000 in
set_option maxHeartbeats 4000000 in
theorem wX6_pass_B56 {c : jS} {sz : Nat} {fu : Nat} {k14 : Int32 → Int32 → jM → Option (Int32 × jM)} {v0 : Nat} {v1 : Int32} {v2 : Int32} {s0 : Int32} {f : jM} {res : (Int32 × jM)} (E : jOk c cX6_pass 5 RX6 (some .int) 4 106) (hk14 : ∀ (v1 : Int32) (v2 : Int32) (f : jM), k14 v1 v2 f = some res → J c (jZ c (some (.int res.1)) res.2 sz) f sz 0 0 14 [(0, .ref v0), (1, .int v1), (2, .int v2)] []) (h : mX6_pass_B56 fu k14 v0 v1 v2 s0 f = some res) : J c (jZ c (some (.int res.1)) res.2 sz) f sz 0 0 56 [(0, .ref v0), (1, .int v1), (2, .int v2)] [.int s0] := by
  unfold mX6_pass_B56 at h
  refine j_istore_n (lv' := [(3, .int s0), (0, .ref v0), (1, .int v1), (2, .int v2)]) E dX6_pass_56 rfl (by decide) rfl ?_
  refine j_iinc (v := (v2 + (1 : Int32))) (lv' := [(2, .int (v2 + (1 : Int32))), (3, .int s0), (0, .ref v0), (1, .int v1)]) E 3 dX6_pass_57 rfl rfl (by decide) rfl ?_
  refine j_iload_n E 1 dX6_pass_60 rfl rfl ?_
  refine j_if_ne (tgt := 67) E dX6_pass_61 (by decide) (fun hc12 => ?_) (fun hc12 => ?_)
  · replace h := jf hc12 h
    refine j_aload_n E 2 dX6_pass_67 rfl rfl ?_
    obtain ⟨u13, h13, h⟩ := jb h
    obtain ⟨fs13, h13⟩ := chk_spec h13
    obtain ⟨r14, h14, h⟩ := jb h
    refine j_callV (As := []) (b := v0) (rest := []) (rc := 0) (rs := 0) E (sX6_settles h14) lwX6_settles lkX6_173 imX6_settles seX6_settles rfl h13 (by decide) rfl (Nat.le_of_ble_eq_true rfl) dX6_pass_68 ?_
    refine j_istore (lv' := [(4, .int r14.1), (2, .int (v2 + (1 : Int32))), (3, .int s0), (0, .ref v0), (1, .int v1)]) E dX6_pass_71 (by decide) rfl ?_
    refine j_iload E 0 dX6_pass_73 rfl ?_
    refine j_if_ge (tgt := 81) E dX6_pass_75 (by decide) (fun hc15 => ?_) (fun hc15 => ?_)
    · replace h := jt hc15 h
      refine j_iload_n E 4 dX6_pass_81 rfl rfl ?_
      refine j_iload E 0 dX6_pass_82 rfl ?_
      refine j_iadd E dX6_pass_84 ?_
      refine j_istore_n (lv' := [(1, .int (v1 + r14.1)), (4, .int r14.1), (2, .int (v2 + (1 : Int32))), (3, .int s0), (0, .ref v0)]) E dX6_pass_85 rfl (by decide) rfl ?_
      refine j_iconst (v := (0 : Int32)) E dX6_pass_86 (by decide) ?_
      refine j_istore_n (lv' := [(2, .int (0 : Int32)), (1, .int (v1 + r14.1)), (4, .int r14.1), (3, .int s0), (0, .ref v0)]) E dX6_pass_87 rfl (by decide) rfl ?_
      refine j_goto (tgt := 14) E dX6_pass_88 (by decide) ?_
      exact j_sub [4, 1, 0] rfl (hk14 _ _ _ h)
    replace h := jf hc15 h
    refine j_bipush (v := (-2 : Int32)) E dX6_pass_78 (by decide) ?_
    cases h
    exact j_iret E dX6_pass_80
  replace h := jt hc12 h
  refine j_goto (tgt := 14) E dX6_pass_64 (by decide) ?_
  exact j_sub [2, 3, 0] rfl (hk14 _ _ _ h)
def mX6_pass_B55 (fu : Nat) (k14 : Int32 → Int32 → jM → Option (Int32 × jM)) (v0 : Nat) (v1 : Int32) (v2 : Int32)  (f : jM) : Option (Int32 × jM) :=
    mX6_pass_B56 fu k14 v0 v1 v2 (0 : Int32) f
set_option maxRecDepth 100000 in
set_option maxHeartbeats 4000000 in
theorem wX6_pass_B55 {c : jS} {sz : Nat} {fu : Nat} {k14 : Int32 → Int32 → jM → Option (Int32 × jM)} {v0 : Nat} {v1 : Int32} {v2 : Int32}  {f : jM} {res : (Int32 × jM)} (E : jOk c cX6_pass 5 RX6 (some .int) 4 106) (hk14 : ∀ (v1 : Int32) (v2 : Int32) (f : jM), k14 v1 v2 f = some res → J c (jZ c (some (.int res.1)) res.2 sz) f sz 0 0 14 [(0, .ref v0), (1, .int v1), (2, .int v2)] []) (h : mX6_pass_B55 fu k14 v0 v1 v2  f = some res) : J c (jZ c (some (.int res.1)) res.2 sz) f sz 0 0 55 [(0, .ref v0), (1, .int v1), (2, .int v2)] [] := by
  unfold mX6_pass_B55 at h
  refine j_iconst (v := (0 : Int32)) E dX6_pass_55 (by decide) ?_
  exact j_sub [0, 1, 2] rfl (wX6_pass_B56 E hk14 h)
def mX6_pass_L14 (fu : Nat)  (v0 : Nat) : Nat → Int32 → Int32 → jM → Option (Int32 × jM)
  | 0, _, _, _ => none
  | n + 1, v1, v2, f =>
    (rdI 6 f v0 1).bind fun x1 =>
    if ((24 : Int32) * x1) ≤ v2 then (
    some (v1, f)) else (
    (rdR 6 f v0 5).bind fun x3 =>
    (ldI 1 f x3 v2).bind fun x4 =>
    if x4 = 0 then (
    mX6_pass_B55 fu (mX6_pass_L14 fu v0 n) v0 v1 v2 f) else (
    (rdR 6 f v0 4).bind fun x6 =>
    (ldI 0 f x6 v2).bind fun x7 =>
    if x7 ≤ 0 then (
    mX6_pass_B55 fu (mX6_pass_L14 fu v0 n) v0 v1 v2 f) else (
    (chk 6 f v0).bind fun _ =>
    (mX6_tries fu f v0 v2).bind fun r10 =>
    if r10.1 ≤ 0 then (
    mX6_pass_B55 fu (mX6_pass_L14 fu v0 n) v0 v1 v2 r10.2) else (
    mX6_pass_B56 fu (mX6_pass_L14 fu v0 n) v0 v1 v2 (1 : Int32) r10.2))))
set_option maxRecDepth 100000 in
set_option maxHeartbeats 4000000 in
theorem wX6_pass_L14 {c : jS} {sz : Nat} {fu : Nat}  {v0 : Nat} {res : (Int32 × jM)} (E : jOk c cX6_pass 5 RX6 (some .int) 4 106)  : ∀ (n : Nat) (v1 : Int32) (v2 : Int32) (f : jM), mX6_pass_L14 fu  v0 n v1 v2 f = some res → J c (jZ c (some (.int res.1)) res.2 sz) f sz 0 0 14 [(0, .ref v0), (1, .int v1), (2, .int v2)] [] := by
  intro n
  induction n with
  | zero => intro v1 v2 f h; exact jn0 h
  | succ n ih =>
    intro v1 v2 f h
    rw [mX6_pass_L14] at h
    refine j_iload_n E 2 dX6_pass_14 rfl rfl ?_
    refine j_bipush (v := (24 : Int32)) E dX6_pass_15 (by decide) ?_
    refine j_aload_n E 0 dX6_pass_17 rfl rfl ?_
    obtain ⟨x1, h1, h⟩ := jb h
    refine j_getI E gX6_87 h1 dX6_pass_18 ?_
    refine j_imul E dX6_pass_21 ?_
    refine j_icmp_ge (tgt := 91) E dX6_pass_22 (by decide) (fun hc2 => ?_) (fun hc2 => ?_)
    · replace h := jt hc2 h
      refine j_iload_n E 1 dX6_pass_91 rfl rfl ?_
      cases h
      exact j_iret E dX6_pass_92
    replace h := jf hc2 h
    refine j_aload_n E 0 dX6_pass_25 rfl rfl ?_
    obtain ⟨x3, h3, h⟩ := jb h
    refine j_getR E gX6_23 h3 dX6_pass_26 ?_
    refine j_iload_n E 2 dX6_pass_29 rfl rfl ?_
    obtain ⟨x4, h4, h⟩ := jb h
    refine j_zald E h4 dX6_pass_30 ?_
    refine j_if_eq (tgt := 55) E dX6_pass_31 (by decide) (fun hc5 => ?_) (fun hc5 => ?_)
    · replace h := jt hc5 h
      exact j_sub [0, 1, 2] rfl (wX6_pass_B55 E ih h)
    replace h := jf hc5 h
    refine j_aload_n E 0 dX6_pass_34 rfl rfl ?_
    obtain ⟨x6, h6, h⟩ := jb h
    refine j_getR E gX6_20 h6 dX6_pass_35 ?_
    refine j_iload_n E 2 dX6_pass_38 rfl rfl ?_
    obtain ⟨x7, h7, h⟩ := jb h
    refine j_iald E h7 dX6_pass_39 ?_
    refine j_if_le (tgt := 55) E dX6_pass_40 (by decide) (fun hc8 => ?_) (fun hc8 => ?_)
    · replace h := jt hc8 h
      exact j_sub [0, 1, 2] rfl (wX6_pass_B55 E ih h)
    replace h := jf hc8 h
    refine j_aload_n E 0 dX6_pass_43 rfl rfl ?_
    refine j_iload_n E 2 dX6_pass_44 rfl rfl ?_
    obtain ⟨u9, h9, h⟩ := jb h
    obtain ⟨fs9, h9⟩ := chk_spec h9
    obtain ⟨r10, h10, h⟩ := jb h
    refine j_callV (As := [.int v2]) (b := v0) (rest := []) (rc := 0) (rs := 0) E (sX6_tries h10) lwX6_tries lkX6_157 imX6_tries seX6_tries rfl h9 (by decide) rfl (Nat.le_of_ble_eq_true rfl) dX6_pass_45 ?_
    refine j_if_le (tgt := 55) E dX6_pass_48 (by decide) (fun hc11 => ?_) (fun hc11 => ?_)
    · replace h := jt hc11 h
      exact j_sub [0, 1, 2] rfl (wX6_pass_B55 E ih h)
    replace h := jf hc11 h
    refine j_iconst (v := (1 : Int32)) E dX6_pass_51 (by decide) ?_
    refine j_goto (tgt := 56) E dX6_pass_52 (by decide) ?_
    exact j_sub [0, 1, 2] rfl (wX6_pass_B56 E ih h)
def mX6_pass (fu : Nat) (f : jM) (v0 : Nat) : Option (Int32 × jM) :=
    (chk 6 f v0).bind fun _ =>
    (mX6_settles fu f v0).bind fun r17 =>
    if 0 ≤ r17.1 then (
    mX6_pass_L14 fu v0 fu r17.1 (0 : Int32) r17.2) else (
    some ((-2 : Int32), r17.2))
set_option maxRecDepth 100000 in
set_option maxHeartbeats 4000000 in
theorem sX6_pass {l : Launch} {D : jD} {sz : Nat} {fu : Nat} {f : jM} {v0 : Nat} {res : (Int32 × jM)} (h : mX6_pass fu f v0 = some res) : jCt l D yX6_pass cX6_pass 5 (some .int) 4 106 [.ref v0] f sz 0 0 (some (.int res.1)) res.2 sz := by
  refine j_start (by decide +kernel) (Nat.le_of_ble_eq_true rfl) (fun c hcl hcD hcn E => ?_)
  subst hcl
  subst hcD
  replace E : jOk c cX6_pass 5 RX6 (some .int) 4 106 := E
  show J c (jZ c (some (.int res.1)) res.2 sz) f sz 0 0 0 [(0, .ref v0)] []
  unfold mX6_pass at h
  refine j_aload_n E 0 dX6_pass_0 rfl rfl ?_
  obtain ⟨u16, h16, h⟩ := jb h
  obtain ⟨fs16, h16⟩ := chk_spec h16
  obtain ⟨r17, h17, h⟩ := jb h
  refine j_callV (As := []) (b := v0) (rest := []) (rc := 0) (rs := 0) E (sX6_settles h17) lwX6_settles lkX6_173 imX6_settles seX6_settles rfl h16 (by decide) rfl (Nat.le_of_ble_eq_true rfl) dX6_pass_1 ?_
  refine j_istore_n (lv' := [(1, .int r17.1), (0, .ref v0)]) E dX6_pass_4 rfl (by decide) rfl ?_
  refine j_iload_n E 0 dX6_pass_5 rfl rfl ?_
  refine j_if_ge (tgt := 12) E dX6_pass_6 (by decide) (fun hc18 => ?_) (fun hc18 => ?_)
  · replace h := jt hc18 h
    refine j_iconst (v := (0 : Int32)) E dX6_pass_12 (by decide) ?_
    refine j_istore_n (lv' := [(2, .int (0 : Int32)), (1, .int r17.1), (0, .ref v0)]) E dX6_pass_13 rfl (by decide) rfl ?_
    exact j_sub [2, 1, 0] rfl (wX6_pass_L14 E _ _ _ _ h)
  replace h := jf hc18 h
  refine j_bipush (v := (-2 : Int32)) E dX6_pass_9 (by decide) ?_
  cases h
  exact j_iret E dX6_pass_11
def mX6_told (f : jM) (v0 : Int32) (v1 : Int32) (v2 : Int32) (v3 : Int32) : Option (Int32 × jM) :=
    if v3 = 0 then (
    if v1 = (2 : Int32) then (
    if (v2 / (24 : Int32)) = v0 then (
    some (v1, f)) else (
    some ((3 : Int32), f))) else (
    some (v1, f))) else (
    if v1 = (2 : Int32) then (
    some ((((100 : Int32) * (v2 / (24 : Int32))) + (v2 - v2 / (24 : Int32) * (24 : Int32))), f)) else (
    some (v2, f)))
set_option maxRecDepth 100000 in
set_option maxHeartbeats 4000000 in
theorem sX6_told {l : Launch} {D : jD} {sz : Nat} {f : jM} {v0 : Int32} {v1 : Int32} {v2 : Int32} {v3 : Int32} {res : (Int32 × jM)} (h : mX6_told f v0 v1 v2 v3 = some res) : jCt l D yX6_told cX6_told 4 (some .int) 0 0 [.int v0, .int v1, .int v2, .int v3] f sz 0 0 (some (.int res.1)) res.2 sz := by
  refine j_start (by decide +kernel) (Nat.le_of_ble_eq_true rfl) (fun c hcl hcD hcn E => ?_)
  subst hcl
  subst hcD
  replace E : jOk c cX6_told 4 RX6 (some .int) 0 0 := E
  show J c (jZ c (some (.int res.1)) res.2 sz) f sz 0 0 0 [(0, .int v0), (1, .int v1), (2, .int v2), (3, .int v3)] []
  unfold mX6_told at h
  refine j_iload_n E 3 dX6_told_0 rfl rfl ?_
  refine j_if_ne (tgt := 23) E dX6_told_1 (by decide) (fun hc1 => ?_) (fun hc1 => ?_)
  · replace h := jf hc1 h
    refine j_iload_n E 1 dX6_told_23 rfl rfl ?_
    refine j_iconst (v := (2 : Int32)) E dX6_told_24 (by decide) ?_
    refine j_icmp_ne (tgt := 43) E dX6_told_25 (by decide) (fun hc2 => ?_) (fun hc2 => ?_)
    · replace h := jf hc2 h
      refine j_iload_n E 2 dX6_told_43 rfl rfl ?_
      cases h
      exact j_iret E dX6_told_44
    replace h := jt hc2 h
    refine j_bipush (v := (100 : Int32)) E dX6_told_28 (by decide) ?_
    refine j_iload_n E 2 dX6_told_30 rfl rfl ?_
    refine j_bipush (v := (24 : Int32)) E dX6_told_31 (by decide) ?_
    refine j_idiv E dX6_told_33 (by decide) ?_
    refine j_imul E dX6_told_34 ?_
    refine j_iload_n E 2 dX6_told_35 rfl rfl ?_
    refine j_bipush (v := (24 : Int32)) E dX6_told_36 (by decide) ?_
    refine j_irem E dX6_told_38 (by decide) ?_
    refine j_iadd E dX6_told_39 ?_
    refine j_goto (tgt := 44) E dX6_told_40 (by decide) ?_
    cases h
    exact j_iret E dX6_told_44
  replace h := jt hc1 h
  refine j_iload_n E 1 dX6_told_4 rfl rfl ?_
  refine j_iconst (v := (2 : Int32)) E dX6_told_5 (by decide) ?_
  refine j_icmp_ne (tgt := 21) E dX6_told_6 (by decide) (fun hc3 => ?_) (fun hc3 => ?_)
  · replace h := jf hc3 h
    refine j_iload_n E 1 dX6_told_21 rfl rfl ?_
    cases h
    exact j_iret E dX6_told_22
  replace h := jt hc3 h
  refine j_iload_n E 2 dX6_told_9 rfl rfl ?_
  refine j_bipush (v := (24 : Int32)) E dX6_told_10 (by decide) ?_
  refine j_idiv E dX6_told_12 (by decide) ?_
  refine j_iload_n E 0 dX6_told_13 rfl rfl ?_
  refine j_icmp_eq (tgt := 21) E dX6_told_14 (by decide) (fun hc4 => ?_) (fun hc4 => ?_)
  · replace h := jt hc4 h
    refine j_iload_n E 1 dX6_told_21 rfl rfl ?_
    cases h
    exact j_iret E dX6_told_22
  replace h := jf hc4 h
  refine j_iconst (v := (3 : Int32)) E dX6_told_17 (by decide) ?_
  refine j_goto (tgt := 22) E dX6_told_18 (by decide) ?_
  cases h
  exact j_iret E dX6_told_22
def mX6_register (f : jM) (v0 : Nat) (v1 : Int32) (v2 : Int32) (v3 : Int32) : Option (Int32 × jM) :=
    (chk 6 f v0).bind fun _ =>
    (mX6_isRegister f v0 v1 v2).bind fun r2 =>
    if r2.1 = 0 then (
    some ((-1 : Int32), r2.2)) else (
    if v3 < 0 then (
    some ((-1 : Int32), r2.2)) else (
    if v3 ≤ (1 : Int32) then (
    (rdR 6 r2.2 v0 8).bind fun x6 =>
    (ldI 0 r2.2 x6 (((6 : Int32) * v1) + v2)).bind fun x7 =>
    (rdR 6 r2.2 v0 9).bind fun x8 =>
    (ldI 0 r2.2 x8 (((6 : Int32) * v1) + v2)).bind fun x9 =>
    (mX6_told r2.2 v1 x7 x9 v3).bind fun r10 =>
    some (r10.1, r10.2)) else (
    some ((-1 : Int32), r2.2))))
set_option maxRecDepth 100000 in
set_option maxHeartbeats 4000000 in
theorem sX6_register {l : Launch} {D : jD} {sz : Nat} {f : jM} {v0 : Nat} {v1 : Int32} {v2 : Int32} {v3 : Int32} {res : (Int32 × jM)} (h : mX6_register f v0 v1 v2 v3 = some res) : jCt l D yX6_register cX6_register 4 (some .int) 2 43 [.ref v0, .int v1, .int v2, .int v3] f sz 0 0 (some (.int res.1)) res.2 sz := by
  refine j_start (by decide +kernel) (Nat.le_of_ble_eq_true rfl) (fun c hcl hcD hcn E => ?_)
  subst hcl
  subst hcD
  replace E : jOk c cX6_register 4 RX6 (some .int) 2 43 := E
  show J c (jZ c (some (.int res.1)) res.2 sz) f sz 0 0 0 [(0, .ref v0), (1, .int v1), (2, .int v2), (3, .int v3)] []
  unfold mX6_register at h
  refine j_aload_n E 0 dX6_register_0 rfl rfl ?_
  refine j_iload_n E 1 dX6_register_1 rfl rfl ?_
  refine j_iload_n E 2 dX6_register_2 rfl rfl ?_
  obtain ⟨u1, h1, h⟩ := jb h
  obtain ⟨fs1, h1⟩ := chk_spec h1
  obtain ⟨r2, h2, h⟩ := jb h
  refine j_callV (As := [.int v1, .int v2]) (b := v0) (rest := []) (rc := 0) (rs := 0) E (sX6_isRegister h2) lwX6_isRegister lkX6_94 imX6_isRegister seX6_isRegister rfl h1 (by decide) rfl (Nat.le_of_ble_eq_true rfl) dX6_register_3 ?_
  refine j_if_eq (tgt := 18) E dX6_register_6 (by decide) (fun hc3 => ?_) (fun hc3 => ?_)
  · replace h := jt hc3 h
    refine j_iconst (v := (-1 : Int32)) E dX6_register_18 (by decide) ?_
    cases h
    exact j_iret E dX6_register_19
  replace h := jf hc3 h
  refine j_iload_n E 3 dX6_register_9 rfl rfl ?_
  refine j_if_lt (tgt := 18) E dX6_register_10 (by decide) (fun hc4 => ?_) (fun hc4 => ?_)
  · replace h := jt hc4 h
    refine j_iconst (v := (-1 : Int32)) E dX6_register_18 (by decide) ?_
    cases h
    exact j_iret E dX6_register_19
  replace h := jf hc4 h
  refine j_iload_n E 3 dX6_register_13 rfl rfl ?_
  refine j_iconst (v := (1 : Int32)) E dX6_register_14 (by decide) ?_
  refine j_icmp_le (tgt := 20) E dX6_register_15 (by decide) (fun hc5 => ?_) (fun hc5 => ?_)
  · replace h := jt hc5 h
    refine j_iload_n E 1 dX6_register_20 rfl rfl ?_
    refine j_aload_n E 0 dX6_register_21 rfl rfl ?_
    obtain ⟨x6, h6, h⟩ := jb h
    refine j_getR E gX6_33 h6 dX6_register_22 ?_
    refine j_bipush (v := (6 : Int32)) E dX6_register_25 (by decide) ?_
    refine j_iload_n E 1 dX6_register_27 rfl rfl ?_
    refine j_imul E dX6_register_28 ?_
    refine j_iload_n E 2 dX6_register_29 rfl rfl ?_
    refine j_iadd E dX6_register_30 ?_
    obtain ⟨x7, h7, h⟩ := jb h
    refine j_iald E h7 dX6_register_31 ?_
    refine j_aload_n E 0 dX6_register_32 rfl rfl ?_
    obtain ⟨x8, h8, h⟩ := jb h
    refine j_getR E gX6_36 h8 dX6_register_33 ?_
    refine j_bipush (v := (6 : Int32)) E dX6_register_36 (by decide) ?_
    refine j_iload_n E 1 dX6_register_38 rfl rfl ?_
    refine j_imul E dX6_register_39 ?_
    refine j_iload_n E 2 dX6_register_40 rfl rfl ?_
    refine j_iadd E dX6_register_41 ?_
    obtain ⟨x9, h9, h⟩ := jb h
    refine j_iald E h9 dX6_register_42 ?_
    refine j_iload_n E 3 dX6_register_43 rfl rfl ?_
    obtain ⟨r10, h10, h⟩ := jb h
    refine j_callS (As := [.int v1, .int x7, .int x9, .int v3]) (rest := []) (rc := 0) (rs := 0) E (sX6_told h10) lwX6_told lkX6_177 stX6_told (by decide) rfl (Nat.le_of_ble_eq_true rfl) dX6_register_44 ?_
    cases h
    exact j_iret E dX6_register_47
  replace h := jf hc5 h
  refine j_iconst (v := (-1 : Int32)) E dX6_register_18 (by decide) ?_
  cases h
  exact j_iret E dX6_register_19
def mX6_field (f : jM) (v0 : Nat) (v1 : Int32) (v2 : Int32) (v3 : Int32) (v4 : Int32) : Option (Int32 × jM) :=
    (chk 6 f v0).bind fun _ =>
    (mX6_isObject f v0 v1 v2).bind fun r2 =>
    if r2.1 = 0 then (
    some ((-1 : Int32), r2.2)) else (
    if v3 < 0 then (
    some ((-1 : Int32), r2.2)) else (
    (rdR 6 r2.2 v0 2).bind fun x5 =>
    (ldI 0 r2.2 x5 (((24 : Int32) * v1) + v2)).bind fun x6 =>
    if x6 ≤ v3 then (
    some ((-1 : Int32), r2.2)) else (
    if v4 < 0 then (
    some ((-1 : Int32), r2.2)) else (
    if v4 ≤ (1 : Int32) then (
    (rdR 6 r2.2 v0 6).bind fun x10 =>
    (ldI 0 r2.2 x10 (((12 : Int32) * (((24 : Int32) * v1) + v2)) + v3)).bind fun x11 =>
    (rdR 6 r2.2 v0 7).bind fun x12 =>
    (ldI 0 r2.2 x12 (((12 : Int32) * (((24 : Int32) * v1) + v2)) + v3)).bind fun x13 =>
    (mX6_told r2.2 v1 x11 x13 v4).bind fun r14 =>
    some (r14.1, r14.2)) else (
    some ((-1 : Int32), r2.2))))))
set_option maxRecDepth 100000 in
set_option maxHeartbeats 4000000 in
theorem sX6_field {l : Launch} {D : jD} {sz : Nat} {f : jM} {v0 : Nat} {v1 : Int32} {v2 : Int32} {v3 : Int32} {v4 : Int32} {res : (Int32 × jM)} (h : mX6_field f v0 v1 v2 v3 v4 = some res) : jCt l D yX6_field cX6_field 6 (some .int) 2 43 [.ref v0, .int v1, .int v2, .int v3, .int v4] f sz 0 0 (some (.int res.1)) res.2 sz := by
  refine j_start (by decide +kernel) (Nat.le_of_ble_eq_true rfl) (fun c hcl hcD hcn E => ?_)
  subst hcl
  subst hcD
  replace E : jOk c cX6_field 6 RX6 (some .int) 2 43 := E
  show J c (jZ c (some (.int res.1)) res.2 sz) f sz 0 0 0 [(0, .ref v0), (1, .int v1), (2, .int v2), (3, .int v3), (4, .int v4)] []
  unfold mX6_field at h
  refine j_aload_n E 0 dX6_field_0 rfl rfl ?_
  refine j_iload_n E 1 dX6_field_1 rfl rfl ?_
  refine j_iload_n E 2 dX6_field_2 rfl rfl ?_
  obtain ⟨u1, h1, h⟩ := jb h
  obtain ⟨fs1, h1⟩ := chk_spec h1
  obtain ⟨r2, h2, h⟩ := jb h
  refine j_callV (As := [.int v1, .int v2]) (b := v0) (rest := []) (rc := 0) (rs := 0) E (sX6_isObject h2) lwX6_isObject lkX6_154 imX6_isObject seX6_isObject rfl h1 (by decide) rfl (Nat.le_of_ble_eq_true rfl) dX6_field_3 ?_
  refine j_if_eq (tgt := 39) E dX6_field_6 (by decide) (fun hc3 => ?_) (fun hc3 => ?_)
  · replace h := jt hc3 h
    refine j_iconst (v := (-1 : Int32)) E dX6_field_39 (by decide) ?_
    cases h
    exact j_iret E dX6_field_40
  replace h := jf hc3 h
  refine j_iload_n E 3 dX6_field_9 rfl rfl ?_
  refine j_if_lt (tgt := 39) E dX6_field_10 (by decide) (fun hc4 => ?_) (fun hc4 => ?_)
  · replace h := jt hc4 h
    refine j_iconst (v := (-1 : Int32)) E dX6_field_39 (by decide) ?_
    cases h
    exact j_iret E dX6_field_40
  replace h := jf hc4 h
  refine j_iload_n E 3 dX6_field_13 rfl rfl ?_
  refine j_aload_n E 0 dX6_field_14 rfl rfl ?_
  obtain ⟨x5, h5, h⟩ := jb h
  refine j_getR E gX6_13 h5 dX6_field_15 ?_
  refine j_bipush (v := (24 : Int32)) E dX6_field_18 (by decide) ?_
  refine j_iload_n E 1 dX6_field_20 rfl rfl ?_
  refine j_imul E dX6_field_21 ?_
  refine j_iload_n E 2 dX6_field_22 rfl rfl ?_
  refine j_iadd E dX6_field_23 ?_
  obtain ⟨x6, h6, h⟩ := jb h
  refine j_iald E h6 dX6_field_24 ?_
  refine j_icmp_ge (tgt := 39) E dX6_field_25 (by decide) (fun hc7 => ?_) (fun hc7 => ?_)
  · replace h := jt hc7 h
    refine j_iconst (v := (-1 : Int32)) E dX6_field_39 (by decide) ?_
    cases h
    exact j_iret E dX6_field_40
  replace h := jf hc7 h
  refine j_iload E 4 dX6_field_28 rfl ?_
  refine j_if_lt (tgt := 39) E dX6_field_30 (by decide) (fun hc8 => ?_) (fun hc8 => ?_)
  · replace h := jt hc8 h
    refine j_iconst (v := (-1 : Int32)) E dX6_field_39 (by decide) ?_
    cases h
    exact j_iret E dX6_field_40
  replace h := jf hc8 h
  refine j_iload E 4 dX6_field_33 rfl ?_
  refine j_iconst (v := (1 : Int32)) E dX6_field_35 (by decide) ?_
  refine j_icmp_le (tgt := 41) E dX6_field_36 (by decide) (fun hc9 => ?_) (fun hc9 => ?_)
  · replace h := jt hc9 h
    refine j_bipush (v := (12 : Int32)) E dX6_field_41 (by decide) ?_
    refine j_bipush (v := (24 : Int32)) E dX6_field_43 (by decide) ?_
    refine j_iload_n E 1 dX6_field_45 rfl rfl ?_
    refine j_imul E dX6_field_46 ?_
    refine j_iload_n E 2 dX6_field_47 rfl rfl ?_
    refine j_iadd E dX6_field_48 ?_
    refine j_imul E dX6_field_49 ?_
    refine j_iload_n E 3 dX6_field_50 rfl rfl ?_
    refine j_iadd E dX6_field_51 ?_
    refine j_istore (lv' := [(5, .int (((12 : Int32) * (((24 : Int32) * v1) + v2)) + v3)), (0, .ref v0), (1, .int v1), (2, .int v2), (3, .int v3), (4, .int v4)]) E dX6_field_52 (by decide) rfl ?_
    refine j_iload_n E 2 dX6_field_54 rfl rfl ?_
    refine j_aload_n E 1 dX6_field_55 rfl rfl ?_
    obtain ⟨x10, h10, h⟩ := jb h
    refine j_getR E gX6_27 h10 dX6_field_56 ?_
    refine j_iload E 0 dX6_field_59 rfl ?_
    obtain ⟨x11, h11, h⟩ := jb h
    refine j_iald E h11 dX6_field_61 ?_
    refine j_aload_n E 1 dX6_field_62 rfl rfl ?_
    obtain ⟨x12, h12, h⟩ := jb h
    refine j_getR E gX6_30 h12 dX6_field_63 ?_
    refine j_iload E 0 dX6_field_66 rfl ?_
    obtain ⟨x13, h13, h⟩ := jb h
    refine j_iald E h13 dX6_field_68 ?_
    refine j_iload E 5 dX6_field_69 rfl ?_
    obtain ⟨r14, h14, h⟩ := jb h
    refine j_callS (As := [.int v1, .int x11, .int x13, .int v4]) (rest := []) (rc := 0) (rs := 0) E (sX6_told h14) lwX6_told lkX6_177 stX6_told (by decide) rfl (Nat.le_of_ble_eq_true rfl) dX6_field_71 ?_
    cases h
    exact j_iret E dX6_field_74
  replace h := jf hc9 h
  refine j_iconst (v := (-1 : Int32)) E dX6_field_39 (by decide) ?_
  cases h
  exact j_iret E dX6_field_40
def mX6_cell_L36 (fu : Nat)  (v0 : Nat) (v1 : Int32) (v2 : Int32) (v3 : Int32) : Nat → Int32 → jM → Option (Int32 × jM)
  | 0, _, _ => none
  | n + 1, v4, f =>
    if (24 : Int32) ≤ v4 then (
    some ((-1 : Int32), f)) else (
    (rdR 6 f v0 5).bind fun x2 =>
    (ldI 1 f x2 (((24 : Int32) * v1) + v4)).bind fun x3 =>
    if x3 = 0 then (
    mX6_cell_L36 fu v0 v1 v2 v3 n (v4 + (1 : Int32)) f) else (
    (rdR 6 f v0 3).bind fun x5 =>
    (ldI 0 f x5 (((24 : Int32) * v1) + v4)).bind fun x6 =>
    if v2 < x6 then (
    mX6_cell_L36 fu v0 v1 v2 v3 n (v4 + (1 : Int32)) f) else (
    (rdR 6 f v0 3).bind fun x8 =>
    (ldI 0 f x8 (((24 : Int32) * v1) + v4)).bind fun x9 =>
    (rdR 6 f v0 2).bind fun x10 =>
    (ldI 0 f x10 (((24 : Int32) * v1) + v4)).bind fun x11 =>
    if (x9 + x11) < v2 then (
    mX6_cell_L36 fu v0 v1 v2 v3 n (v4 + (1 : Int32)) f) else (
    if v3 = 0 then (
    some (v4, f)) else (
    (rdR 6 f v0 3).bind fun x14 =>
    (ldI 0 f x14 (((24 : Int32) * v1) + v4)).bind fun x15 =>
    some ((v2 - x15), f))))))
set_option maxRecDepth 100000 in
set_option maxHeartbeats 4000000 in
theorem wX6_cell_L36 {c : jS} {sz : Nat} {fu : Nat}  {v0 : Nat} {v1 : Int32} {v2 : Int32} {v3 : Int32} {res : (Int32 × jM)} (E : jOk c cX6_cell 6 RX6 (some .int) 1 21)  : ∀ (n : Nat) (v4 : Int32) (f : jM), mX6_cell_L36 fu  v0 v1 v2 v3 n v4 f = some res → J c (jZ c (some (.int res.1)) res.2 sz) f sz 0 0 36 [(0, .ref v0), (1, .int v1), (2, .int v2), (3, .int v3), (4, .int v4)] [] := by
  intro n
  induction n with
  | zero => intro v4 f h; exact jn0 h
  | succ n ih =>
    intro v4 f h
    rw [mX6_cell_L36] at h
    refine j_iload E 4 dX6_cell_36 rfl ?_
    refine j_bipush (v := (24 : Int32)) E dX6_cell_38 (by decide) ?_
    refine j_icmp_ge (tgt := 117) E dX6_cell_40 (by decide) (fun hc1 => ?_) (fun hc1 => ?_)
    · replace h := jt hc1 h
      refine j_iconst (v := (-1 : Int32)) E dX6_cell_117 (by decide) ?_
      cases h
      exact j_iret E dX6_cell_118
    replace h := jf hc1 h
    refine j_bipush (v := (24 : Int32)) E dX6_cell_43 (by decide) ?_
    refine j_iload_n E 1 dX6_cell_45 rfl rfl ?_
    refine j_imul E dX6_cell_46 ?_
    refine j_iload E 4 dX6_cell_47 rfl ?_
    refine j_iadd E dX6_cell_49 ?_
    refine j_istore (lv' := [(5, .int (((24 : Int32) * v1) + v4)), (0, .ref v0), (1, .int v1), (2, .int v2), (3, .int v3), (4, .int v4)]) E dX6_cell_50 (by decide) rfl ?_
    refine j_aload_n E 1 dX6_cell_52 rfl rfl ?_
    obtain ⟨x2, h2, h⟩ := jb h
    refine j_getR E gX6_23 h2 dX6_cell_53 ?_
    refine j_iload E 0 dX6_cell_56 rfl ?_
    obtain ⟨x3, h3, h⟩ := jb h
    refine j_zald E h3 dX6_cell_58 ?_
    refine j_if_eq (tgt := 111) E dX6_cell_59 (by decide) (fun hc4 => ?_) (fun hc4 => ?_)
    · replace h := jt hc4 h
      refine j_iinc (v := (v4 + (1 : Int32))) (lv' := [(4, .int (v4 + (1 : Int32))), (5, .int (((24 : Int32) * v1) + v4)), (0, .ref v0), (1, .int v1), (2, .int v2), (3, .int v3)]) E 5 dX6_cell_111 rfl rfl (by decide) rfl ?_
      refine j_goto (tgt := 36) E dX6_cell_114 (by decide) ?_
      exact j_sub [2, 3, 4, 5, 0] rfl (ih _ _ h)
    replace h := jf hc4 h
    refine j_iload_n E 3 dX6_cell_62 rfl rfl ?_
    refine j_aload_n E 1 dX6_cell_63 rfl rfl ?_
    obtain ⟨x5, h5, h⟩ := jb h
    refine j_getR E gX6_17 h5 dX6_cell_64 ?_
    refine j_iload E 0 dX6_cell_67 rfl ?_
    obtain ⟨x6, h6, h⟩ := jb h
    refine j_iald E h6 dX6_cell_69 ?_
    refine j_icmp_lt (tgt := 111) E dX6_cell_70 (by decide) (fun hc7 => ?_) (fun hc7 => ?_)
    · replace h := jt hc7 h
      refine j_iinc (v := (v4 + (1 : Int32))) (lv' := [(4, .int (v4 + (1 : Int32))), (5, .int (((24 : Int32) * v1) + v4)), (0, .ref v0), (1, .int v1), (2, .int v2), (3, .int v3)]) E 5 dX6_cell_111 rfl rfl (by decide) rfl ?_
      refine j_goto (tgt := 36) E dX6_cell_114 (by decide) ?_
      exact j_sub [2, 3, 4, 5, 0] rfl (ih _ _ h)
    replace h := jf hc7 h
    refine j_iload_n E 3 dX6_cell_73 rfl rfl ?_
    refine j_aload_n E 1 dX6_cell_74 rfl rfl ?_
    obtain ⟨x8, h8, h⟩ := jb h
    refine j_getR E gX6_17 h8 dX6_cell_75 ?_
    refine j_iload E 0 dX6_cell_78 rfl ?_
    obtain ⟨x9, h9, h⟩ := jb h
    refine j_iald E h9 dX6_cell_80 ?_
    refine j_aload_n E 1 dX6_cell_81 rfl rfl ?_
    obtain ⟨x10, h10, h⟩ := jb h
    refine j_getR E gX6_13 h10 dX6_cell_82 ?_
    refine j_iload E 0 dX6_cell_85 rfl ?_
    obtain ⟨x11, h11, h⟩ := jb h
    refine j_iald E h11 dX6_cell_87 ?_
    refine j_iadd E dX6_cell_88 ?_
    refine j_icmp_gt (tgt := 111) E dX6_cell_89 (by decide) (fun hc12 => ?_) (fun hc12 => ?_)
    · replace h := jt hc12 h
      refine j_iinc (v := (v4 + (1 : Int32))) (lv' := [(4, .int (v4 + (1 : Int32))), (5, .int (((24 : Int32) * v1) + v4)), (0, .ref v0), (1, .int v1), (2, .int v2), (3, .int v3)]) E 5 dX6_cell_111 rfl rfl (by decide) rfl ?_
      refine j_goto (tgt := 36) E dX6_cell_114 (by decide) ?_
      exact j_sub [2, 3, 4, 5, 0] rfl (ih _ _ h)
    replace h := jf hc12 h
    refine j_iload_n E 4 dX6_cell_92 rfl rfl ?_
    refine j_if_ne (tgt := 101) E dX6_cell_93 (by decide) (fun hc13 => ?_) (fun hc13 => ?_)
    · replace h := jf hc13 h
      refine j_iload_n E 3 dX6_cell_101 rfl rfl ?_
      refine j_aload_n E 1 dX6_cell_102 rfl rfl ?_
      obtain ⟨x14, h14, h⟩ := jb h
      refine j_getR E gX6_17 h14 dX6_cell_103 ?_
      refine j_iload E 0 dX6_cell_106 rfl ?_
      obtain ⟨x15, h15, h⟩ := jb h
      refine j_iald E h15 dX6_cell_108 ?_
      refine j_isub E dX6_cell_109 ?_
      cases h
      exact j_iret E dX6_cell_110
    replace h := jt hc13 h
    refine j_iload E 5 dX6_cell_96 rfl ?_
    refine j_goto (tgt := 110) E dX6_cell_98 (by decide) ?_
    cases h
    exact j_iret E dX6_cell_110
def mX6_cell (fu : Nat) (f : jM) (v0 : Nat) (v1 : Int32) (v2 : Int32) (v3 : Int32) : Option (Int32 × jM) :=
    (chk 6 f v0).bind fun _ =>
    (mX6_isNode f v0 v1).bind fun r17 =>
    if r17.1 = 0 then (
    some ((-1 : Int32), r17.2)) else (
    if v2 < 0 then (
    some ((-1 : Int32), r17.2)) else (
    (rdR 6 r17.2 v0 11).bind fun x20 =>
    (ldI 0 r17.2 x20 v1).bind fun x21 =>
    if x21 ≤ v2 then (
    some ((-1 : Int32), r17.2)) else (
    if v3 < 0 then (
    some ((-1 : Int32), r17.2)) else (
    if v3 ≤ (1 : Int32) then (
    mX6_cell_L36 fu v0 v1 v2 v3 fu (0 : Int32) r17.2) else (
    some ((-1 : Int32), r17.2))))))
set_option maxRecDepth 100000 in
set_option maxHeartbeats 4000000 in
theorem sX6_cell {l : Launch} {D : jD} {sz : Nat} {fu : Nat} {f : jM} {v0 : Nat} {v1 : Int32} {v2 : Int32} {v3 : Int32} {res : (Int32 × jM)} (h : mX6_cell fu f v0 v1 v2 v3 = some res) : jCt l D yX6_cell cX6_cell 6 (some .int) 1 21 [.ref v0, .int v1, .int v2, .int v3] f sz 0 0 (some (.int res.1)) res.2 sz := by
  refine j_start (by decide +kernel) (Nat.le_of_ble_eq_true rfl) (fun c hcl hcD hcn E => ?_)
  subst hcl
  subst hcD
  replace E : jOk c cX6_cell 6 RX6 (some .int) 1 21 := E
  show J c (jZ c (some (.int res.1)) res.2 sz) f sz 0 0 0 [(0, .ref v0), (1, .int v1), (2, .int v2), (3, .int v3)] []
  unfold mX6_cell at h
  refine j_aload_n E 0 dX6_cell_0 rfl rfl ?_
  refine j_iload_n E 1 dX6_cell_1 rfl rfl ?_
  obtain ⟨u16, h16, h⟩ := jb h
  obtain ⟨fs16, h16⟩ := chk_spec h16
  obtain ⟨r17, h17, h⟩ := jb h
  refine j_callV (As := [.int v1]) (b := v0) (rest := []) (rc := 0) (rs := 0) E (sX6_isNode h17) lwX6_isNode lkX6_90 imX6_isNode seX6_isNode rfl h16 (by decide) rfl (Nat.le_of_ble_eq_true rfl) dX6_cell_2 ?_
  refine j_if_eq (tgt := 31) E dX6_cell_5 (by decide) (fun hc18 => ?_) (fun hc18 => ?_)
  · replace h := jt hc18 h
    refine j_iconst (v := (-1 : Int32)) E dX6_cell_31 (by decide) ?_
    cases h
    exact j_iret E dX6_cell_32
  replace h := jf hc18 h
  refine j_iload_n E 2 dX6_cell_8 rfl rfl ?_
  refine j_if_lt (tgt := 31) E dX6_cell_9 (by decide) (fun hc19 => ?_) (fun hc19 => ?_)
  · replace h := jt hc19 h
    refine j_iconst (v := (-1 : Int32)) E dX6_cell_31 (by decide) ?_
    cases h
    exact j_iret E dX6_cell_32
  replace h := jf hc19 h
  refine j_iload_n E 2 dX6_cell_12 rfl rfl ?_
  refine j_aload_n E 0 dX6_cell_13 rfl rfl ?_
  obtain ⟨x20, h20, h⟩ := jb h
  refine j_getR E gX6_42 h20 dX6_cell_14 ?_
  refine j_iload_n E 1 dX6_cell_17 rfl rfl ?_
  obtain ⟨x21, h21, h⟩ := jb h
  refine j_iald E h21 dX6_cell_18 ?_
  refine j_icmp_ge (tgt := 31) E dX6_cell_19 (by decide) (fun hc22 => ?_) (fun hc22 => ?_)
  · replace h := jt hc22 h
    refine j_iconst (v := (-1 : Int32)) E dX6_cell_31 (by decide) ?_
    cases h
    exact j_iret E dX6_cell_32
  replace h := jf hc22 h
  refine j_iload_n E 3 dX6_cell_22 rfl rfl ?_
  refine j_if_lt (tgt := 31) E dX6_cell_23 (by decide) (fun hc23 => ?_) (fun hc23 => ?_)
  · replace h := jt hc23 h
    refine j_iconst (v := (-1 : Int32)) E dX6_cell_31 (by decide) ?_
    cases h
    exact j_iret E dX6_cell_32
  replace h := jf hc23 h
  refine j_iload_n E 3 dX6_cell_26 rfl rfl ?_
  refine j_iconst (v := (1 : Int32)) E dX6_cell_27 (by decide) ?_
  refine j_icmp_le (tgt := 33) E dX6_cell_28 (by decide) (fun hc24 => ?_) (fun hc24 => ?_)
  · replace h := jt hc24 h
    refine j_iconst (v := (0 : Int32)) E dX6_cell_33 (by decide) ?_
    refine j_istore (lv' := [(4, .int (0 : Int32)), (0, .ref v0), (1, .int v1), (2, .int v2), (3, .int v3)]) E dX6_cell_34 (by decide) rfl ?_
    exact j_sub [1, 2, 3, 4, 0] rfl (wX6_cell_L36 E _ _ _ h)
  replace h := jf hc24 h
  refine j_iconst (v := (-1 : Int32)) E dX6_cell_31 (by decide) ?_
  cases h
  exact j_iret E dX6_cell_32
def mX6_reaches (f : jM) (v0 : Nat) (v1 : Int32) : Option jM :=
    (rdR 6 f v0 27).bind fun x1 =>
    (ldI 1 f x1 v1).bind fun x2 =>
    if x2 = 0 then (
    (rdR 6 f v0 27).bind fun x4 =>
    (stI 1 f x4 v1 (vp_nar .boolean (1 : Int32))).bind fun f5 =>
    (rdR 6 f5 v0 23).bind fun x6 =>
    (rdI 6 f5 v0 22).bind fun x7 =>
    (stI 0 f5 x6 x7 v1).bind fun f8 =>
    (rdI 6 f8 v0 22).bind fun x9 =>
    (wrV 6 f8 v0 22 (.int (x9 + (1 : Int32)))).bind fun f10 =>
    some f10) else (
    some f)
set_option maxRecDepth 100000 in
set_option maxHeartbeats 4000000 in
theorem sX6_reaches {l : Launch} {D : jD} {sz : Nat} {f : jM} {v0 : Nat} {v1 : Int32} {res : jM} (h : mX6_reaches f v0 v1 = some res) : jCt l D yX6_reaches cX6_reaches 2 none 0 0 [.ref v0, .int v1] f sz 0 0 none res sz := by
  refine j_start (by decide +kernel) (Nat.le_of_ble_eq_true rfl) (fun c hcl hcD hcn E => ?_)
  subst hcl
  subst hcD
  replace E : jOk c cX6_reaches 2 RX6 none 0 0 := E
  show J c (jZ c none res sz) f sz 0 0 0 [(0, .ref v0), (1, .int v1)] []
  unfold mX6_reaches at h
  refine j_aload_n E 0 dX6_reaches_0 rfl rfl ?_
  obtain ⟨x1, h1, h⟩ := jb h
  refine j_getR E gX6_84 h1 dX6_reaches_1 ?_
  refine j_iload_n E 1 dX6_reaches_4 rfl rfl ?_
  obtain ⟨x2, h2, h⟩ := jb h
  refine j_zald E h2 dX6_reaches_5 ?_
  refine j_if_eq (tgt := 10) E dX6_reaches_6 (by decide) (fun hc3 => ?_) (fun hc3 => ?_)
  · replace h := jt hc3 h
    refine j_aload_n E 0 dX6_reaches_10 rfl rfl ?_
    obtain ⟨x4, h4, h⟩ := jb h
    refine j_getR E gX6_84 h4 dX6_reaches_11 ?_
    refine j_iload_n E 1 dX6_reaches_14 rfl rfl ?_
    refine j_iconst (v := (1 : Int32)) E dX6_reaches_15 (by decide) ?_
    obtain ⟨f5, h5, h⟩ := jb h
    refine j_zast E h5 dX6_reaches_16 ?_
    refine j_aload_n E 0 dX6_reaches_17 rfl rfl ?_
    obtain ⟨x6, h6, h⟩ := jb h
    refine j_getR E gX6_72 h6 dX6_reaches_18 ?_
    refine j_aload_n E 0 dX6_reaches_21 rfl rfl ?_
    obtain ⟨x7, h7, h⟩ := jb h
    refine j_getI E gX6_137 h7 dX6_reaches_22 ?_
    refine j_iload_n E 1 dX6_reaches_25 rfl rfl ?_
    obtain ⟨f8, h8, h⟩ := jb h
    refine j_iast E h8 dX6_reaches_26 ?_
    refine j_aload_n E 0 dX6_reaches_27 rfl rfl ?_
    refine j_dup E dX6_reaches_28 rfl ?_
    obtain ⟨x9, h9, h⟩ := jb h
    refine j_getI E gX6_137 h9 dX6_reaches_29 ?_
    refine j_iconst (v := (1 : Int32)) E dX6_reaches_32 (by decide) ?_
    refine j_iadd E dX6_reaches_33 ?_
    obtain ⟨f10, h10, h⟩ := jb h
    refine j_putV E gpX6_137 h10 rfl rfl dX6_reaches_34 ?_
    cases h
    exact j_vret E dX6_reaches_37
  replace h := jf hc3 h
  cases h
  exact j_vret E dX6_reaches_9
def mX6_hold_L130 (fu : Nat) (k101 : jM → Option jM) (v0 : Nat) (v1 : Int32) : Nat → Int32 → jM → Option jM
  | 0, _, _ => none
  | n + 1, v2, f =>
    (rdR 6 f v0 2).bind fun x30 =>
    (ldI 0 f x30 v1).bind fun x31 =>
    if x31 ≤ v2 then (
    k101 f) else (
    (rdR 6 f v0 6).bind fun x33 =>
    (ldI 0 f x33 (((12 : Int32) * v1) + v2)).bind fun x34 =>
    if x34 = (2 : Int32) then (
    (rdR 6 f v0 7).bind fun x36 =>
    (ldI 0 f x36 (((12 : Int32) * v1) + v2)).bind fun x37 =>
    (chk 6 f v0).bind fun _ =>
    (mX6_reaches f v0 x37).bind fun f39 =>
    mX6_hold_L130 fu k101 v0 v1 n (v2 + (1 : Int32)) f39) else (
    mX6_hold_L130 fu k101 v0 v1 n (v2 + (1 : Int32)) f))
set_option maxRecDepth 100000 in
set_option maxHeartbeats 4000000 in
theorem wX6_hold_L130 {c : jS} {sz : Nat} {fu : Nat} {k101 : jM → Option jM} {v0 : Nat} {v1 : Int32} {res : jM} (E : jOk c cX6_hold 3 RX6 none 1 21) (hk101 : ∀  (f : jM), k101  f = some res → J c (jZ c none res sz) f sz 0 0 101 [(0, .ref v0)] []) : ∀ (n : Nat) (v2 : Int32) (f : jM), mX6_hold_L130 fu k101 v0 v1 n v2 f = some res → J c (jZ c none res sz) f sz 0 0 130 [(0, .ref v0), (1, .int v1), (2, .int v2)] [] := by
  intro n
  induction n with
  | zero => intro v2 f h; exact jn0 h
  | succ n ih =>
    intro v2 f h
    rw [mX6_hold_L130] at h
    refine j_iload_n E 2 dX6_hold_130 rfl rfl ?_
    refine j_aload_n E 0 dX6_hold_131 rfl rfl ?_
    obtain ⟨x30, h30, h⟩ := jb h
    refine j_getR E gX6_13 h30 dX6_hold_132 ?_
    refine j_iload_n E 1 dX6_hold_135 rfl rfl ?_
    obtain ⟨x31, h31, h⟩ := jb h
    refine j_iald E h31 dX6_hold_136 ?_
    refine j_icmp_ge (tgt := 176) E dX6_hold_137 (by decide) (fun hc32 => ?_) (fun hc32 => ?_)
    · replace h := jt hc32 h
      refine j_goto (tgt := 101) E dX6_hold_176 (by decide) ?_
      exact j_sub [0] rfl (hk101 _ h)
    replace h := jf hc32 h
    refine j_aload_n E 0 dX6_hold_140 rfl rfl ?_
    obtain ⟨x33, h33, h⟩ := jb h
    refine j_getR E gX6_27 h33 dX6_hold_141 ?_
    refine j_bipush (v := (12 : Int32)) E dX6_hold_144 (by decide) ?_
    refine j_iload_n E 1 dX6_hold_146 rfl rfl ?_
    refine j_imul E dX6_hold_147 ?_
    refine j_iload_n E 2 dX6_hold_148 rfl rfl ?_
    refine j_iadd E dX6_hold_149 ?_
    obtain ⟨x34, h34, h⟩ := jb h
    refine j_iald E h34 dX6_hold_150 ?_
    refine j_iconst (v := (2 : Int32)) E dX6_hold_151 (by decide) ?_
    refine j_icmp_ne (tgt := 170) E dX6_hold_152 (by decide) (fun hc35 => ?_) (fun hc35 => ?_)
    · replace h := jf hc35 h
      refine j_iinc (v := (v2 + (1 : Int32))) (lv' := [(2, .int (v2 + (1 : Int32))), (0, .ref v0), (1, .int v1)]) E 2 dX6_hold_170 rfl rfl (by decide) rfl ?_
      refine j_goto (tgt := 130) E dX6_hold_173 (by decide) ?_
      exact j_sub [1, 2, 0] rfl (ih _ _ h)
    replace h := jt hc35 h
    refine j_aload_n E 0 dX6_hold_155 rfl rfl ?_
    refine j_aload_n E 0 dX6_hold_156 rfl rfl ?_
    obtain ⟨x36, h36, h⟩ := jb h
    refine j_getR E gX6_30 h36 dX6_hold_157 ?_
    refine j_bipush (v := (12 : Int32)) E dX6_hold_160 (by decide) ?_
    refine j_iload_n E 1 dX6_hold_162 rfl rfl ?_
    refine j_imul E dX6_hold_163 ?_
    refine j_iload_n E 2 dX6_hold_164 rfl rfl ?_
    refine j_iadd E dX6_hold_165 ?_
    obtain ⟨x37, h37, h⟩ := jb h
    refine j_iald E h37 dX6_hold_166 ?_
    obtain ⟨u38, h38, h⟩ := jb h
    obtain ⟨fs38, h38⟩ := chk_spec h38
    obtain ⟨f39, h39, h⟩ := jb h
    refine j_callV (As := [.int x37]) (b := v0) (rest := []) (rc := 0) (rs := 0) E (sX6_reaches h39) lwX6_reaches lkX6_181 imX6_reaches seX6_reaches rfl h38 (by decide) rfl (Nat.le_of_ble_eq_true rfl) dX6_hold_167 ?_
    refine j_iinc (v := (v2 + (1 : Int32))) (lv' := [(2, .int (v2 + (1 : Int32))), (0, .ref v0), (1, .int v1)]) E 2 dX6_hold_170 rfl rfl (by decide) rfl ?_
    refine j_goto (tgt := 130) E dX6_hold_173 (by decide) ?_
    exact j_sub [1, 2, 0] rfl (ih _ _ h)
def mX6_hold_L101 (fu : Nat)  (v0 : Nat) : Nat → jM → Option jM
  | 0, _ => none
  | n + 1, f =>
    (rdI 6 f v0 22).bind fun x23 =>
    if x23 ≤ 0 then (
    some f) else (
    (rdI 6 f v0 22).bind fun x25 =>
    (wrV 6 f v0 22 (.int (x25 - (1 : Int32)))).bind fun f26 =>
    (rdR 6 f26 v0 23).bind fun x27 =>
    (rdI 6 f26 v0 22).bind fun x28 =>
    (ldI 0 f26 x27 x28).bind fun x29 =>
    mX6_hold_L130 fu (mX6_hold_L101 fu v0 n) v0 x29 fu (0 : Int32) f26)
set_option maxRecDepth 100000 in
set_option maxHeartbeats 4000000 in
theorem wX6_hold_L101 {c : jS} {sz : Nat} {fu : Nat}  {v0 : Nat} {res : jM} (E : jOk c cX6_hold 3 RX6 none 1 21)  : ∀ (n : Nat)  (f : jM), mX6_hold_L101 fu  v0 n  f = some res → J c (jZ c none res sz) f sz 0 0 101 [(0, .ref v0)] [] := by
  intro n
  induction n with
  | zero => intro  f h; exact jn0 h
  | succ n ih =>
    intro  f h
    rw [mX6_hold_L101] at h
    refine j_aload_n E 0 dX6_hold_101 rfl rfl ?_
    obtain ⟨x23, h23, h⟩ := jb h
    refine j_getI E gX6_137 h23 dX6_hold_102 ?_
    refine j_if_le (tgt := 179) E dX6_hold_105 (by decide) (fun hc24 => ?_) (fun hc24 => ?_)
    · replace h := jt hc24 h
      cases h
      exact j_vret E dX6_hold_179
    replace h := jf hc24 h
    refine j_aload_n E 0 dX6_hold_108 rfl rfl ?_
    refine j_dup E dX6_hold_109 rfl ?_
    obtain ⟨x25, h25, h⟩ := jb h
    refine j_getI E gX6_137 h25 dX6_hold_110 ?_
    refine j_iconst (v := (1 : Int32)) E dX6_hold_113 (by decide) ?_
    refine j_isub E dX6_hold_114 ?_
    obtain ⟨f26, h26, h⟩ := jb h
    refine j_putV E gpX6_137 h26 rfl rfl dX6_hold_115 ?_
    refine j_aload_n E 0 dX6_hold_118 rfl rfl ?_
    obtain ⟨x27, h27, h⟩ := jb h
    refine j_getR E gX6_72 h27 dX6_hold_119 ?_
    refine j_aload_n E 0 dX6_hold_122 rfl rfl ?_
    obtain ⟨x28, h28, h⟩ := jb h
    refine j_getI E gX6_137 h28 dX6_hold_123 ?_
    obtain ⟨x29, h29, h⟩ := jb h
    refine j_iald E h29 dX6_hold_126 ?_
    refine j_istore_n (lv' := [(1, .int x29), (0, .ref v0)]) E dX6_hold_127 rfl (by decide) rfl ?_
    refine j_iconst (v := (0 : Int32)) E dX6_hold_128 (by decide) ?_
    refine j_istore_n (lv' := [(2, .int (0 : Int32)), (1, .int x29), (0, .ref v0)]) E dX6_hold_129 rfl (by decide) rfl ?_
    exact j_sub [2, 1, 0] rfl (wX6_hold_L130 E ih _ _ _ h)
def mX6_hold_L67 (fu : Nat)  (v0 : Nat) : Nat → Int32 → jM → Option jM
  | 0, _, _ => none
  | n + 1, v1, f =>
    (rdI 6 f v0 13).bind fun x14 =>
    if x14 ≤ v1 then (
    mX6_hold_L101 fu v0 fu f) else (
    (rdR 6 f v0 16).bind fun x16 =>
    (ldI 0 f x16 v1).bind fun x17 =>
    if x17 = (1 : Int32) then (
    (rdR 6 f v0 17).bind fun x19 =>
    (ldI 0 f x19 v1).bind fun x20 =>
    (chk 6 f v0).bind fun _ =>
    (mX6_reaches f v0 x20).bind fun f22 =>
    mX6_hold_L67 fu v0 n (v1 + (1 : Int32)) f22) else (
    mX6_hold_L67 fu v0 n (v1 + (1 : Int32)) f))
set_option maxRecDepth 100000 in
set_option maxHeartbeats 4000000 in
theorem wX6_hold_L67 {c : jS} {sz : Nat} {fu : Nat}  {v0 : Nat} {res : jM} (E : jOk c cX6_hold 3 RX6 none 1 21)  : ∀ (n : Nat) (v1 : Int32) (f : jM), mX6_hold_L67 fu  v0 n v1 f = some res → J c (jZ c none res sz) f sz 0 0 67 [(0, .ref v0), (1, .int v1)] [] := by
  intro n
  induction n with
  | zero => intro v1 f h; exact jn0 h
  | succ n ih =>
    intro v1 f h
    rw [mX6_hold_L67] at h
    refine j_iload_n E 1 dX6_hold_67 rfl rfl ?_
    refine j_aload_n E 0 dX6_hold_68 rfl rfl ?_
    obtain ⟨x14, h14, h⟩ := jb h
    refine j_getI E gX6_110 h14 dX6_hold_69 ?_
    refine j_icmp_ge (tgt := 101) E dX6_hold_72 (by decide) (fun hc15 => ?_) (fun hc15 => ?_)
    · replace h := jt hc15 h
      exact j_sub [0] rfl (wX6_hold_L101 E _ _ h)
    replace h := jf hc15 h
    refine j_aload_n E 0 dX6_hold_75 rfl rfl ?_
    obtain ⟨x16, h16, h⟩ := jb h
    refine j_getR E gX6_54 h16 dX6_hold_76 ?_
    refine j_iload_n E 1 dX6_hold_79 rfl rfl ?_
    obtain ⟨x17, h17, h⟩ := jb h
    refine j_iald E h17 dX6_hold_80 ?_
    refine j_iconst (v := (1 : Int32)) E dX6_hold_81 (by decide) ?_
    refine j_icmp_ne (tgt := 95) E dX6_hold_82 (by decide) (fun hc18 => ?_) (fun hc18 => ?_)
    · replace h := jf hc18 h
      refine j_iinc (v := (v1 + (1 : Int32))) (lv' := [(1, .int (v1 + (1 : Int32))), (0, .ref v0)]) E 1 dX6_hold_95 rfl rfl (by decide) rfl ?_
      refine j_goto (tgt := 67) E dX6_hold_98 (by decide) ?_
      exact j_sub [1, 0] rfl (ih _ _ h)
    replace h := jt hc18 h
    refine j_aload_n E 0 dX6_hold_85 rfl rfl ?_
    refine j_aload_n E 0 dX6_hold_86 rfl rfl ?_
    obtain ⟨x19, h19, h⟩ := jb h
    refine j_getR E gX6_57 h19 dX6_hold_87 ?_
    refine j_iload_n E 1 dX6_hold_90 rfl rfl ?_
    obtain ⟨x20, h20, h⟩ := jb h
    refine j_iald E h20 dX6_hold_91 ?_
    obtain ⟨u21, h21, h⟩ := jb h
    obtain ⟨fs21, h21⟩ := chk_spec h21
    obtain ⟨f22, h22, h⟩ := jb h
    refine j_callV (As := [.int x20]) (b := v0) (rest := []) (rc := 0) (rs := 0) E (sX6_reaches h22) lwX6_reaches lkX6_181 imX6_reaches seX6_reaches rfl h21 (by decide) rfl (Nat.le_of_ble_eq_true rfl) dX6_hold_92 ?_
    refine j_iinc (v := (v1 + (1 : Int32))) (lv' := [(1, .int (v1 + (1 : Int32))), (0, .ref v0)]) E 1 dX6_hold_95 rfl rfl (by decide) rfl ?_
    refine j_goto (tgt := 67) E dX6_hold_98 (by decide) ?_
    exact j_sub [1, 0] rfl (ih _ _ h)
def mX6_hold_L28 (fu : Nat)  (v0 : Nat) : Nat → Int32 → jM → Option jM
  | 0, _, _ => none
  | n + 1, v1, f =>
    (rdI 6 f v0 1).bind fun x5 =>
    if ((6 : Int32) * x5) ≤ v1 then (
    mX6_hold_L67 fu v0 fu (0 : Int32) f) else (
    (rdR 6 f v0 8).bind fun x7 =>
    (ldI 0 f x7 v1).bind fun x8 =>
    if x8 = (2 : Int32) then (
    (rdR 6 f v0 9).bind fun x10 =>
    (ldI 0 f x10 v1).bind fun x11 =>
    (chk 6 f v0).bind fun _ =>
    (mX6_reaches f v0 x11).bind fun f13 =>
    mX6_hold_L28 fu v0 n (v1 + (1 : Int32)) f13) else (
    mX6_hold_L28 fu v0 n (v1 + (1 : Int32)) f))
set_option maxRecDepth 100000 in
set_option maxHeartbeats 4000000 in
theorem wX6_hold_L28 {c : jS} {sz : Nat} {fu : Nat}  {v0 : Nat} {res : jM} (E : jOk c cX6_hold 3 RX6 none 1 21)  : ∀ (n : Nat) (v1 : Int32) (f : jM), mX6_hold_L28 fu  v0 n v1 f = some res → J c (jZ c none res sz) f sz 0 0 28 [(0, .ref v0), (1, .int v1)] [] := by
  intro n
  induction n with
  | zero => intro v1 f h; exact jn0 h
  | succ n ih =>
    intro v1 f h
    rw [mX6_hold_L28] at h
    refine j_iload_n E 1 dX6_hold_28 rfl rfl ?_
    refine j_bipush (v := (6 : Int32)) E dX6_hold_29 (by decide) ?_
    refine j_aload_n E 0 dX6_hold_31 rfl rfl ?_
    obtain ⟨x5, h5, h⟩ := jb h
    refine j_getI E gX6_87 h5 dX6_hold_32 ?_
    refine j_imul E dX6_hold_35 ?_
    refine j_icmp_ge (tgt := 65) E dX6_hold_36 (by decide) (fun hc6 => ?_) (fun hc6 => ?_)
    · replace h := jt hc6 h
      refine j_iconst (v := (0 : Int32)) E dX6_hold_65 (by decide) ?_
      refine j_istore_n (lv' := [(1, .int (0 : Int32)), (0, .ref v0)]) E dX6_hold_66 rfl (by decide) rfl ?_
      exact j_sub [1, 0] rfl (wX6_hold_L67 E _ _ _ h)
    replace h := jf hc6 h
    refine j_aload_n E 0 dX6_hold_39 rfl rfl ?_
    obtain ⟨x7, h7, h⟩ := jb h
    refine j_getR E gX6_33 h7 dX6_hold_40 ?_
    refine j_iload_n E 1 dX6_hold_43 rfl rfl ?_
    obtain ⟨x8, h8, h⟩ := jb h
    refine j_iald E h8 dX6_hold_44 ?_
    refine j_iconst (v := (2 : Int32)) E dX6_hold_45 (by decide) ?_
    refine j_icmp_ne (tgt := 59) E dX6_hold_46 (by decide) (fun hc9 => ?_) (fun hc9 => ?_)
    · replace h := jf hc9 h
      refine j_iinc (v := (v1 + (1 : Int32))) (lv' := [(1, .int (v1 + (1 : Int32))), (0, .ref v0)]) E 1 dX6_hold_59 rfl rfl (by decide) rfl ?_
      refine j_goto (tgt := 28) E dX6_hold_62 (by decide) ?_
      exact j_sub [1, 0] rfl (ih _ _ h)
    replace h := jt hc9 h
    refine j_aload_n E 0 dX6_hold_49 rfl rfl ?_
    refine j_aload_n E 0 dX6_hold_50 rfl rfl ?_
    obtain ⟨x10, h10, h⟩ := jb h
    refine j_getR E gX6_36 h10 dX6_hold_51 ?_
    refine j_iload_n E 1 dX6_hold_54 rfl rfl ?_
    obtain ⟨x11, h11, h⟩ := jb h
    refine j_iald E h11 dX6_hold_55 ?_
    obtain ⟨u12, h12, h⟩ := jb h
    obtain ⟨fs12, h12⟩ := chk_spec h12
    obtain ⟨f13, h13, h⟩ := jb h
    refine j_callV (As := [.int x11]) (b := v0) (rest := []) (rc := 0) (rs := 0) E (sX6_reaches h13) lwX6_reaches lkX6_181 imX6_reaches seX6_reaches rfl h12 (by decide) rfl (Nat.le_of_ble_eq_true rfl) dX6_hold_56 ?_
    refine j_iinc (v := (v1 + (1 : Int32))) (lv' := [(1, .int (v1 + (1 : Int32))), (0, .ref v0)]) E 1 dX6_hold_59 rfl rfl (by decide) rfl ?_
    refine j_goto (tgt := 28) E dX6_hold_62 (by decide) ?_
    exact j_sub [1, 0] rfl (ih _ _ h)
def mX6_hold_L2 (fu : Nat)  (v0 : Nat) : Nat → Int32 → jM → Option jM
  | 0, _, _ => none
  | n + 1, v1, f =>
    if (120 : Int32) ≤ v1 then (
    (wrV 6 f v0 22 (.int (0 : Int32))).bind fun f2 =>
    mX6_hold_L28 fu v0 fu (0 : Int32) f2) else (
    (rdR 6 f v0 27).bind fun x3 =>
    (stI 1 f x3 v1 (vp_nar .boolean (0 : Int32))).bind fun f4 =>
    mX6_hold_L2 fu v0 n (v1 + (1 : Int32)) f4)
set_option maxRecDepth 100000 in
set_option maxHeartbeats 4000000 in
theorem wX6_hold_L2 {c : jS} {sz : Nat} {fu : Nat}  {v0 : Nat} {res : jM} (E : jOk c cX6_hold 3 RX6 none 1 21)  : ∀ (n : Nat) (v1 : Int32) (f : jM), mX6_hold_L2 fu  v0 n v1 f = some res → J c (jZ c none res sz) f sz 0 0 2 [(0, .ref v0), (1, .int v1)] [] := by
  intro n
  induction n with
  | zero => intro v1 f h; exact jn0 h
  | succ n ih =>
    intro v1 f h
    rw [mX6_hold_L2] at h
    refine j_iload_n E 1 dX6_hold_2 rfl rfl ?_
    refine j_bipush (v := (120 : Int32)) E dX6_hold_3 (by decide) ?_
    refine j_icmp_ge (tgt := 21) E dX6_hold_5 (by decide) (fun hc1 => ?_) (fun hc1 => ?_)
    · replace h := jt hc1 h
      refine j_aload_n E 0 dX6_hold_21 rfl rfl ?_
      refine j_iconst (v := (0 : Int32)) E dX6_hold_22 (by decide) ?_
      obtain ⟨f2, h2, h⟩ := jb h
      refine j_putV E gpX6_137 h2 rfl rfl dX6_hold_23 ?_
      refine j_iconst (v := (0 : Int32)) E dX6_hold_26 (by decide) ?_
      refine j_istore_n (lv' := [(1, .int (0 : Int32)), (0, .ref v0)]) E dX6_hold_27 rfl (by decide) rfl ?_
      exact j_sub [1, 0] rfl (wX6_hold_L28 E _ _ _ h)
    replace h := jf hc1 h
    refine j_aload_n E 0 dX6_hold_8 rfl rfl ?_
    obtain ⟨x3, h3, h⟩ := jb h
    refine j_getR E gX6_84 h3 dX6_hold_9 ?_
    refine j_iload_n E 1 dX6_hold_12 rfl rfl ?_
    refine j_iconst (v := (0 : Int32)) E dX6_hold_13 (by decide) ?_
    obtain ⟨f4, h4, h⟩ := jb h
    refine j_zast E h4 dX6_hold_14 ?_
    refine j_iinc (v := (v1 + (1 : Int32))) (lv' := [(1, .int (v1 + (1 : Int32))), (0, .ref v0)]) E 1 dX6_hold_15 rfl rfl (by decide) rfl ?_
    refine j_goto (tgt := 2) E dX6_hold_18 (by decide) ?_
    exact j_sub [1, 0] rfl (ih _ _ h)
def mX6_hold (fu : Nat) (f : jM) (v0 : Nat) : Option jM :=
    mX6_hold_L2 fu v0 fu (0 : Int32) f
set_option maxRecDepth 100000 in
set_option maxHeartbeats 4000000 in
theorem sX6_hold {l : Launch} {D : jD} {sz : Nat} {fu : Nat} {f : jM} {v0 : Nat} {res : jM} (h : mX6_hold fu f v0 = some res) : jCt l D yX6_hold cX6_hold 3 none 1 21 [.ref v0] f sz 0 0 none res sz := by
  refine j_start (by decide +kernel) (Nat.le_of_ble_eq_true rfl) (fun c hcl hcD hcn E => ?_)
  subst hcl
  subst hcD
  replace E : jOk c cX6_hold 3 RX6 none 1 21 := E
  show J c (jZ c none res sz) f sz 0 0 0 [(0, .ref v0)] []
  unfold mX6_hold at h
  refine j_iconst (v := (0 : Int32)) E dX6_hold_0 (by decide) ?_
  refine j_istore_n (lv' := [(1, .int (0 : Int32)), (0, .ref v0)]) E dX6_hold_1 rfl (by decide) rfl ?_
  exact j_sub [1, 0] rfl (wX6_hold_L2 E _ _ _ h)
