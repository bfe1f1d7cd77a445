def mX2_changeTotal (f : jM) (v0 : Nat) (v1 : Int32) (v2 : Int32) : Option jM :=
    (mX5_isId f v1).bind fun r1 =>
    if r1.1 = 0 then (
    some r1.2) else (
    (rdR 2 r1.2 v0 5).bind fun x3 =>
    (mX5_numberOf r1.2 v1).bind fun r4 =>
    (ldI 0 r4.2 x3 r4.1).bind fun x5 =>
    (stI 0 r4.2 x3 r4.1 (x5 + v2)).bind fun f6 =>
    some f6)
set_option maxRecDepth 100000 in
set_option maxHeartbeats 4000000 in
theorem sX2_changeTotal {l : Launch} {D : jD} {sz : Nat} {f : jM} {v0 : Nat} {v1 : Int32} {v2 : Int32} {res : jM} (h : mX2_changeTotal f v0 v1 v2 = some res) : jCt l D yX2_changeTotal cX2_changeTotal 3 none 1 20 [.ref v0, .int v1, .int v2] f sz 0 0 none res sz := by
  refine j_start (by decide +kernel) (Nat.le_of_ble_eq_true rfl) (fun c hcl hcD hcn E => ?_)
  subst hcl
  subst hcD
  replace E : jOk c cX2_changeTotal 3 RX2 none 1 20 := E
  show J c (jZ c none res sz) f sz 0 0 0 [(0, .ref v0), (1, .int v1), (2, .int v2)] []
  unfold mX2_changeTotal at h
  refine j_iload_n E 1 dX2_changeTotal_0 rfl rfl ?_
  obtain ⟨r1, h1, h⟩ := jb h
  refine j_callS (As := [.int v1]) (rest := []) (rc := 0) (rs := 0) E (sX5_isId h1) lwX5_isId lkX2_71 stX5_isId (by decide) rfl (Nat.le_of_ble_eq_true rfl) dX2_changeTotal_1 ?_
  refine j_if_eq (tgt := 20) E dX2_changeTotal_4 (by decide) (fun hc2 => ?_) (fun hc2 => ?_)
  · replace h := jt hc2 h
    cases h
    exact j_vret E dX2_changeTotal_20
  replace h := jf hc2 h
  refine j_aload_n E 0 dX2_changeTotal_7 rfl rfl ?_
  obtain ⟨x3, h3, h⟩ := jb h
  refine j_getR E gX2_24 h3 dX2_changeTotal_8 ?_
  refine j_iload_n E 1 dX2_changeTotal_11 rfl rfl ?_
  obtain ⟨r4, h4, h⟩ := jb h
  refine j_callS (As := [.int v1]) (rest := [.ref x3]) (rc := 0) (rs := 0) E (sX5_numberOf h4) lwX5_numberOf lkX2_74 stX5_numberOf (by decide) rfl (Nat.le_of_ble_eq_true rfl) dX2_changeTotal_12 ?_
  refine j_dup2 E dX2_changeTotal_15 rfl rfl ?_
  obtain ⟨x5, h5, h⟩ := jb h
  refine j_iald E h5 dX2_changeTotal_16 ?_
  refine j_iload_n E 2 dX2_changeTotal_17 rfl rfl ?_
  refine j_iadd E dX2_changeTotal_18 ?_
  obtain ⟨f6, h6, h⟩ := jb h
  refine j_iast E h6 dX2_changeTotal_19 ?_
  cases h
  exact j_vret E dX2_changeTotal_20
def mX2_weightOfImport (f : jM) (v0 : Nat) (v1 : Int32) : Option (Int32 × jM) :=
    (mX5_isId f v1).bind fun r1 =>
    if r1.1 = 0 then (
    some ((0 : Int32), r1.2)) else (
    (rdR 2 r1.2 v0 6).bind fun x3 =>
    (ldI 0 r1.2 x3 v1).bind fun x4 =>
    some (x4, r1.2))
set_option maxRecDepth 100000 in
set_option maxHeartbeats 4000000 in
theorem sX2_weightOfImport {l : Launch} {D : jD} {sz : Nat} {f : jM} {v0 : Nat} {v1 : Int32} {res : (Int32 × jM)} (h : mX2_weightOfImport f v0 v1 = some res) : jCt l D yX2_weightOfImport cX2_weightOfImport 2 (some .int) 1 20 [.ref v0, .int v1] f sz 0 0 (some (.int res.1)) res.2 sz := by
  refine j_start (by decide +kernel) (Nat.le_of_ble_eq_true rfl) (fun c hcl hcD hcn E => ?_)
  subst hcl
  subst hcD
  replace E : jOk c cX2_weightOfImport 2 RX2 (some .int) 1 20 := E
  show J c (jZ c (some (.int res.1)) res.2 sz) f sz 0 0 0 [(0, .ref v0), (1, .int v1)] []
  unfold mX2_weightOfImport at h
  refine j_iload_n E 1 dX2_weightOfImport_0 rfl rfl ?_
  obtain ⟨r1, h1, h⟩ := jb h
  refine j_callS (As := [.int v1]) (rest := []) (rc := 0) (rs := 0) E (sX5_isId h1) lwX5_isId lkX2_71 stX5_isId (by decide) rfl (Nat.le_of_ble_eq_true rfl) dX2_weightOfImport_1 ?_
  refine j_if_eq (tgt := 16) E dX2_weightOfImport_4 (by decide) (fun hc2 => ?_) (fun hc2 => ?_)
  · replace h := jt hc2 h
    refine j_iconst (v := (0 : Int32)) E dX2_weightOfImport_16 (by decide) ?_
    cases h
    exact j_iret E dX2_weightOfImport_17
  replace h := jf hc2 h
  refine j_aload_n E 0 dX2_weightOfImport_7 rfl rfl ?_
  obtain ⟨x3, h3, h⟩ := jb h
  refine j_getR E gX2_27 h3 dX2_weightOfImport_8 ?_
  refine j_iload_n E 1 dX2_weightOfImport_11 rfl rfl ?_
  obtain ⟨x4, h4, h⟩ := jb h
  refine j_iald E h4 dX2_weightOfImport_12 ?_
  refine j_goto (tgt := 17) E dX2_weightOfImport_13 (by decide) ?_
  cases h
  exact j_iret E dX2_weightOfImport_17
def mX2_changeWeight_B45  (v0 : Nat) (v2 : Int32) (v3 : Int32)  (f : jM) : Option jM :=
    if v3 = 0 then (
    some f) else (
    if (v3 + v2) = 0 then (
    (rdI 2 f v0 9).bind fun x3 =>
    (wrV 2 f v0 9 (.int (x3 - (1 : Int32)))).bind fun f4 =>
    some f4) else (
    some f))
set_option maxRecDepth 100000 in
set_option maxHeartbeats 4000000 in
theorem wX2_changeWeight_B45 {c : jS} {sz : Nat}  {v0 : Nat} {v2 : Int32} {v3 : Int32}  {f : jM} {res : jM} (E : jOk c cX2_changeWeight 4 RX2 none 1 20)  (h : mX2_changeWeight_B45  v0 v2 v3  f = some res) : J c (jZ c none res sz) f sz 0 0 45 [(0, .ref v0), (2, .int v2), (3, .int v3)] [] := by
  unfold mX2_changeWeight_B45 at h
  refine j_iload_n E 2 dX2_changeWeight_45 rfl rfl ?_
  refine j_if_eq (tgt := 65) E dX2_changeWeight_46 (by decide) (fun hc1 => ?_) (fun hc1 => ?_)
  · replace h := jt hc1 h
    cases h
    exact j_vret E dX2_changeWeight_65
  replace h := jf hc1 h
  refine j_iload_n E 2 dX2_changeWeight_49 rfl rfl ?_
  refine j_iload_n E 1 dX2_changeWeight_50 rfl rfl ?_
  refine j_iadd E dX2_changeWeight_51 ?_
  refine j_if_ne (tgt := 65) E dX2_changeWeight_52 (by decide) (fun hc2 => ?_) (fun hc2 => ?_)
  · replace h := jf hc2 h
    cases h
    exact j_vret E dX2_changeWeight_65
  replace h := jt hc2 h
  refine j_aload_n E 0 dX2_changeWeight_55 rfl rfl ?_
  refine j_dup E dX2_changeWeight_56 rfl ?_
  obtain ⟨x3, h3, h⟩ := jb h
  refine j_getI E gX2_77 h3 dX2_changeWeight_57 ?_
  refine j_iconst (v := (1 : Int32)) E dX2_changeWeight_60 (by decide) ?_
  refine j_isub E dX2_changeWeight_61 ?_
  obtain ⟨f4, h4, h⟩ := jb h
  refine j_putV E gpX2_77 h4 rfl rfl dX2_changeWeight_62 ?_
  cases h
  exact j_vret E dX2_changeWeight_65
def mX2_changeWeight (f : jM) (v0 : Nat) (v1 : Int32) (v2 : Int32) : Option jM :=
    (mX5_isId f v1).bind fun r5 =>
    if r5.1 = 0 then (
    some r5.2) else (
    (rdR 2 r5.2 v0 6).bind fun x7 =>
    (ldI 0 r5.2 x7 v1).bind fun x8 =>
    (rdR 2 r5.2 v0 6).bind fun x9 =>
    (stI 0 r5.2 x9 v1 (x8 + v2)).bind fun f10 =>
    if x8 = 0 then (
    if v2 = 0 then (
    mX2_changeWeight_B45 v0 v2 x8 f10) else (
    (rdI 2 f10 v0 9).bind fun x13 =>
    (wrV 2 f10 v0 9 (.int (x13 + (1 : Int32)))).bind fun f14 =>
    some f14)) else (
    mX2_changeWeight_B45 v0 v2 x8 f10))
set_option maxRecDepth 100000 in
set_option maxHeartbeats 4000000 in
theorem sX2_changeWeight {l : Launch} {D : jD} {sz : Nat} {f : jM} {v0 : Nat} {v1 : Int32} {v2 : Int32} {res : jM} (h : mX2_changeWeight f v0 v1 v2 = some res) : jCt l D yX2_changeWeight cX2_changeWeight 4 none 1 20 [.ref v0, .int v1, .int v2] f sz 0 0 none res sz := by
  refine j_start (by decide +kernel) (Nat.le_of_ble_eq_true rfl) (fun c hcl hcD hcn E => ?_)
  subst hcl
  subst hcD
  replace E : jOk c cX2_changeWeight 4 RX2 none 1 20 := E
  show J c (jZ c none res sz) f sz 0 0 0 [(0, .ref v0), (1, .int v1), (2, .int v2)] []
  unfold mX2_changeWeight at h
  refine j_iload_n E 1 dX2_changeWeight_0 rfl rfl ?_
  obtain ⟨r5, h5, h⟩ := jb h
  refine j_callS (As := [.int v1]) (rest := []) (rc := 0) (rs := 0) E (sX5_isId h5) lwX5_isId lkX2_71 stX5_isId (by decide) rfl (Nat.le_of_ble_eq_true rfl) dX2_changeWeight_1 ?_
  refine j_if_ne (tgt := 8) E dX2_changeWeight_4 (by decide) (fun hc6 => ?_) (fun hc6 => ?_)
  · replace h := jf hc6 h
    refine j_aload_n E 0 dX2_changeWeight_8 rfl rfl ?_
    obtain ⟨x7, h7, h⟩ := jb h
    refine j_getR E gX2_27 h7 dX2_changeWeight_9 ?_
    refine j_iload_n E 1 dX2_changeWeight_12 rfl rfl ?_
    obtain ⟨x8, h8, h⟩ := jb h
    refine j_iald E h8 dX2_changeWeight_13 ?_
    refine j_istore_n (lv' := [(3, .int x8), (0, .ref v0), (1, .int v1), (2, .int v2)]) E dX2_changeWeight_14 rfl (by decide) rfl ?_
    refine j_aload_n E 1 dX2_changeWeight_15 rfl rfl ?_
    obtain ⟨x9, h9, h⟩ := jb h
    refine j_getR E gX2_27 h9 dX2_changeWeight_16 ?_
    refine j_iload_n E 2 dX2_changeWeight_19 rfl rfl ?_
    refine j_iload_n E 0 dX2_changeWeight_20 rfl rfl ?_
    refine j_iload_n E 3 dX2_changeWeight_21 rfl rfl ?_
    refine j_iadd E dX2_changeWeight_22 ?_
    obtain ⟨f10, h10, h⟩ := jb h
    refine j_iast E h10 dX2_changeWeight_23 ?_
    refine j_iload_n E 0 dX2_changeWeight_24 rfl rfl ?_
    refine j_if_ne (tgt := 45) E dX2_changeWeight_25 (by decide) (fun hc11 => ?_) (fun hc11 => ?_)
    · replace h := jf hc11 h
      exact j_sub [1, 3, 0] rfl (wX2_changeWeight_B45 E  h)
    replace h := jt hc11 h
    refine j_iload_n E 3 dX2_changeWeight_28 rfl rfl ?_
    refine j_if_eq (tgt := 45) E dX2_changeWeight_29 (by decide) (fun hc12 => ?_) (fun hc12 => ?_)
    · replace h := jt hc12 h
      exact j_sub [1, 3, 0] rfl (wX2_changeWeight_B45 E  h)
    replace h := jf hc12 h
    refine j_aload_n E 1 dX2_changeWeight_32 rfl rfl ?_
    refine j_dup E dX2_changeWeight_33 rfl ?_
    obtain ⟨x13, h13, h⟩ := jb h
    refine j_getI E gX2_77 h13 dX2_changeWeight_34 ?_
    refine j_iconst (v := (1 : Int32)) E dX2_changeWeight_37 (by decide) ?_
    refine j_iadd E dX2_changeWeight_38 ?_
    obtain ⟨f14, h14, h⟩ := jb h
    refine j_putV E gpX2_77 h14 rfl rfl dX2_changeWeight_39 ?_
    refine j_goto (tgt := 65) E dX2_changeWeight_42 (by decide) ?_
    cases h
    exact j_vret E dX2_changeWeight_65
  replace h := jt hc6 h
  cases h
  exact j_vret E dX2_changeWeight_7
def mX2_splitOff (f : jM) (v0 : Nat) (v1 : Int32) : Option (Int32 × jM) :=
    (mX5_nodeOf f v1).bind fun r1 =>
    (rdI 2 r1.2 v0 0).bind fun x2 =>
    if r1.1 = x2 then (
    (chk 2 r1.2 v0).bind fun _ =>
    (mX2_changeTotal r1.2 v0 v1 (64 : Int32)).bind fun f10 =>
    some ((64 : Int32), f10)) else (
    (chk 2 r1.2 v0).bind fun _ =>
    (mX2_weightOfImport r1.2 v0 v1).bind fun r5 =>
    if (r5.1 / (2 : Int32)) ≤ 0 then (
    some ((r5.1 / (2 : Int32)), r5.2)) else (
    (chk 2 r5.2 v0).bind fun _ =>
    (mX2_changeWeight r5.2 v0 v1 (-(r5.1 / (2 : Int32)))).bind fun f8 =>
    some ((r5.1 / (2 : Int32)), f8)))
set_option maxRecDepth 100000 in
set_option maxHeartbeats 4000000 in
theorem sX2_splitOff {l : Launch} {D : jD} {sz : Nat} {f : jM} {v0 : Nat} {v1 : Int32} {res : (Int32 × jM)} (h : mX2_splitOff f v0 v1 = some res) : jCt l D yX2_splitOff cX2_splitOff 3 (some .int) 2 43 [.ref v0, .int v1] f sz 0 0 (some (.int res.1)) res.2 sz := by
  refine j_start (by decide +kernel) (Nat.le_of_ble_eq_true rfl) (fun c hcl hcD hcn E => ?_)
  subst hcl
  subst hcD
  replace E : jOk c cX2_splitOff 3 RX2 (some .int) 2 43 := E
  show J c (jZ c (some (.int res.1)) res.2 sz) f sz 0 0 0 [(0, .ref v0), (1, .int v1)] []
  unfold mX2_splitOff at h
  refine j_iload_n E 1 dX2_splitOff_0 rfl rfl ?_
  obtain ⟨r1, h1, h⟩ := jb h
  refine j_callS (As := [.int v1]) (rest := []) (rc := 0) (rs := 0) E (sX5_nodeOf h1) lwX5_nodeOf lkX2_80 stX5_nodeOf (by decide) rfl (Nat.le_of_ble_eq_true rfl) dX2_splitOff_1 ?_
  refine j_aload_n E 0 dX2_splitOff_4 rfl rfl ?_
  obtain ⟨x2, h2, h⟩ := jb h
  refine j_getI E gX2_33 h2 dX2_splitOff_5 ?_
  refine j_icmp_ne (tgt := 21) E dX2_splitOff_8 (by decide) (fun hc3 => ?_) (fun hc3 => ?_)
  · replace h := jf hc3 h
    refine j_aload_n E 0 dX2_splitOff_21 rfl rfl ?_
    refine j_iload_n E 1 dX2_splitOff_22 rfl rfl ?_
    obtain ⟨u4, h4, h⟩ := jb h
    obtain ⟨fs4, h4⟩ := chk_spec h4
    obtain ⟨r5, h5, h⟩ := jb h
    refine j_callV (As := [.int v1]) (b := v0) (rest := []) (rc := 0) (rs := 0) E (sX2_weightOfImport h5) lwX2_weightOfImport lkX2_87 imX2_weightOfImport seX2_weightOfImport rfl h4 (by decide) rfl (Nat.le_of_ble_eq_true rfl) dX2_splitOff_23 ?_
    refine j_iconst (v := (2 : Int32)) E dX2_splitOff_26 (by decide) ?_
    refine j_idiv E dX2_splitOff_27 (by decide) ?_
    refine j_istore_n (lv' := [(2, .int (r5.1 / (2 : Int32))), (0, .ref v0), (1, .int v1)]) E dX2_splitOff_28 rfl (by decide) rfl ?_
    refine j_iload_n E 0 dX2_splitOff_29 rfl rfl ?_
    refine j_if_le (tgt := 40) E dX2_splitOff_30 (by decide) (fun hc6 => ?_) (fun hc6 => ?_)
    · replace h := jt hc6 h
      refine j_iload_n E 0 dX2_splitOff_40 rfl rfl ?_
      cases h
      exact j_iret E dX2_splitOff_41
    replace h := jf hc6 h
    refine j_aload_n E 1 dX2_splitOff_33 rfl rfl ?_
    refine j_iload_n E 2 dX2_splitOff_34 rfl rfl ?_
    refine j_iload_n E 0 dX2_splitOff_35 rfl rfl ?_
    refine j_ineg E dX2_splitOff_36 ?_
    obtain ⟨u7, h7, h⟩ := jb h
    obtain ⟨fs7, h7⟩ := chk_spec h7
    obtain ⟨f8, h8, h⟩ := jb h
    refine j_callV (As := [.int v1, .int (-(r5.1 / (2 : Int32)))]) (b := v0) (rest := []) (rc := 0) (rs := 0) E (sX2_changeWeight h8) lwX2_changeWeight lkX2_90 imX2_changeWeight seX2_changeWeight rfl h7 (by decide) rfl (Nat.le_of_ble_eq_true rfl) dX2_splitOff_37 ?_
    refine j_iload_n E 0 dX2_splitOff_40 rfl rfl ?_
    cases h
    exact j_iret E dX2_splitOff_41
  replace h := jt hc3 h
  refine j_aload_n E 0 dX2_splitOff_11 rfl rfl ?_
  refine j_iload_n E 1 dX2_splitOff_12 rfl rfl ?_
  refine j_bipush (v := (64 : Int32)) E dX2_splitOff_13 (by decide) ?_
  obtain ⟨u9, h9, h⟩ := jb h
  obtain ⟨fs9, h9⟩ := chk_spec h9
  obtain ⟨f10, h10, h⟩ := jb h
  refine j_callV (As := [.int v1, .int (64 : Int32)]) (b := v0) (rest := []) (rc := 0) (rs := 0) E (sX2_changeTotal h10) lwX2_changeTotal lkX2_83 imX2_changeTotal seX2_changeTotal rfl h9 (by decide) rfl (Nat.le_of_ble_eq_true rfl) dX2_splitOff_15 ?_
  refine j_bipush (v := (64 : Int32)) E dX2_splitOff_18 (by decide) ?_
  cases h
  exact j_iret E dX2_splitOff_20
def mX2_canTake (f : jM) (v0 : Nat) (v1 : Int32) : Option (Int32 × jM) :=
    (mX5_nodeOf f v1).bind fun r1 =>
    (rdI 2 r1.2 v0 0).bind fun x2 =>
    if r1.1 = x2 then (
    some ((1 : Int32), r1.2)) else (
    (chk 2 r1.2 v0).bind fun _ =>
    (mX2_weightOfImport r1.2 v0 v1).bind fun r5 =>
    if 0 < r5.1 then (
    some ((1 : Int32), r5.2)) else (
    (rdI 2 r5.2 v0 9).bind fun x7 =>
    if (30 : Int32) ≤ x7 then (
    some ((0 : Int32), r5.2)) else (
    some ((1 : Int32), r5.2))))
set_option maxRecDepth 100000 in
set_option maxHeartbeats 4000000 in
theorem sX2_canTake {l : Launch} {D : jD} {sz : Nat} {f : jM} {v0 : Nat} {v1 : Int32} {res : (Int32 × jM)} (h : mX2_canTake f v0 v1 = some res) : jCt l D yX2_canTake cX2_canTake 2 (some .boolean) 2 41 [.ref v0, .int v1] f sz 0 0 (some (.int res.1)) res.2 sz := by
  refine j_start (by decide +kernel) (Nat.le_of_ble_eq_true rfl) (fun c hcl hcD hcn E => ?_)
  subst hcl
  subst hcD
  replace E : jOk c cX2_canTake 2 RX2 (some .boolean) 2 41 := E
  show J c (jZ c (some (.int res.1)) res.2 sz) f sz 0 0 0 [(0, .ref v0), (1, .int v1)] []
  unfold mX2_canTake at h
  refine j_iload_n E 1 dX2_canTake_0 rfl rfl ?_
  obtain ⟨r1, h1, h⟩ := jb h
  refine j_callS (As := [.int v1]) (rest := []) (rc := 0) (rs := 0) E (sX5_nodeOf h1) lwX5_nodeOf lkX2_80 stX5_nodeOf (by decide) rfl (Nat.le_of_ble_eq_true rfl) dX2_canTake_1 ?_
  refine j_aload_n E 0 dX2_canTake_4 rfl rfl ?_
  obtain ⟨x2, h2, h⟩ := jb h
  refine j_getI E gX2_33 h2 dX2_canTake_5 ?_
  refine j_icmp_eq (tgt := 28) E dX2_canTake_8 (by decide) (fun hc3 => ?_) (fun hc3 => ?_)
  · replace h := jt hc3 h
    refine j_iconst (v := (1 : Int32)) E dX2_canTake_28 (by decide) ?_
    refine j_goto (tgt := 33) E dX2_canTake_29 (by decide) ?_
    cases h
    exact j_zret (v := (1 : Int32)) E (by decide +kernel) dX2_canTake_33
  replace h := jf hc3 h
  refine j_aload_n E 0 dX2_canTake_11 rfl rfl ?_
  refine j_iload_n E 1 dX2_canTake_12 rfl rfl ?_
  obtain ⟨u4, h4, h⟩ := jb h
  obtain ⟨fs4, h4⟩ := chk_spec h4
  obtain ⟨r5, h5, h⟩ := jb h
  refine j_callV (As := [.int v1]) (b := v0) (rest := []) (rc := 0) (rs := 0) E (sX2_weightOfImport h5) lwX2_weightOfImport lkX2_87 imX2_weightOfImport seX2_weightOfImport rfl h4 (by decide) rfl (Nat.le_of_ble_eq_true rfl) dX2_canTake_13 ?_
  refine j_if_gt (tgt := 28) E dX2_canTake_16 (by decide) (fun hc6 => ?_) (fun hc6 => ?_)
  · replace h := jt hc6 h
    refine j_iconst (v := (1 : Int32)) E dX2_canTake_28 (by decide) ?_
    refine j_goto (tgt := 33) E dX2_canTake_29 (by decide) ?_
    cases h
    exact j_zret (v := (1 : Int32)) E (by decide +kernel) dX2_canTake_33
  replace h := jf hc6 h
  refine j_aload_n E 0 dX2_canTake_19 rfl rfl ?_
  obtain ⟨x7, h7, h⟩ := jb h
  refine j_getI E gX2_77 h7 dX2_canTake_20 ?_
  refine j_bipush (v := (30 : Int32)) E dX2_canTake_23 (by decide) ?_
  refine j_icmp_ge (tgt := 32) E dX2_canTake_25 (by decide) (fun hc8 => ?_) (fun hc8 => ?_)
  · replace h := jt hc8 h
    refine j_iconst (v := (0 : Int32)) E dX2_canTake_32 (by decide) ?_
    cases h
    exact j_zret (v := (0 : Int32)) E (by decide +kernel) dX2_canTake_33
  replace h := jf hc8 h
  refine j_iconst (v := (1 : Int32)) E dX2_canTake_28 (by decide) ?_
  refine j_goto (tgt := 33) E dX2_canTake_29 (by decide) ?_
  cases h
  exact j_zret (v := (1 : Int32)) E (by decide +kernel) dX2_canTake_33
def mX2_takeRef (f : jM) (v0 : Nat) (v1 : Int32) (v2 : Int32) (v3 : Int32) : Option jM :=
    (mX5_nodeOf f v1).bind fun r1 =>
    (rdI 2 r1.2 v0 0).bind fun x2 =>
    if r1.1 = x2 then (
    (chk 2 r1.2 v0).bind fun _ =>
    (mX2_fill r1.2 v0 v3 (2 : Int32) v1).bind fun f9 =>
    (chk 2 f9 v0).bind fun _ =>
    (mX2_changeTotal f9 v0 v1 (-v2)).bind fun f11 =>
    some f11) else (
    (chk 2 r1.2 v0).bind fun _ =>
    (mX2_fill r1.2 v0 v3 (3 : Int32) v1).bind fun f5 =>
    (chk 2 f5 v0).bind fun _ =>
    (mX2_changeWeight f5 v0 v1 v2).bind fun f7 =>
    some f7)
set_option maxRecDepth 100000 in
set_option maxHeartbeats 4000000 in
theorem sX2_takeRef {l : Launch} {D : jD} {sz : Nat} {f : jM} {v0 : Nat} {v1 : Int32} {v2 : Int32} {v3 : Int32} {res : jM} (h : mX2_takeRef f v0 v1 v2 v3 = some res) : jCt l D yX2_takeRef cX2_takeRef 4 none 2 43 [.ref v0, .int v1, .int v2, .int v3] f sz 0 0 none res sz := by
  refine j_start (by decide +kernel) (Nat.le_of_ble_eq_true rfl) (fun c hcl hcD hcn E => ?_)
  subst hcl
  subst hcD
  replace E : jOk c cX2_takeRef 4 RX2 none 2 43 := E
  show J c (jZ c none res sz) f sz 0 0 0 [(0, .ref v0), (1, .int v1), (2, .int v2), (3, .int v3)] []
  unfold mX2_takeRef at h
  refine j_iload_n E 1 dX2_takeRef_0 rfl rfl ?_
  obtain ⟨r1, h1, h⟩ := jb h
  refine j_callS (As := [.int v1]) (rest := []) (rc := 0) (rs := 0) E (sX5_nodeOf h1) lwX5_nodeOf lkX2_80 stX5_nodeOf (by decide) rfl (Nat.le_of_ble_eq_true rfl) dX2_takeRef_1 ?_
  refine j_aload_n E 0 dX2_takeRef_4 rfl rfl ?_
  obtain ⟨x2, h2, h⟩ := jb h
  refine j_getI E gX2_33 h2 dX2_takeRef_5 ?_
  refine j_icmp_ne (tgt := 28) E dX2_takeRef_8 (by decide) (fun hc3 => ?_) (fun hc3 => ?_)
  · replace h := jf hc3 h
    refine j_aload_n E 0 dX2_takeRef_28 rfl rfl ?_
    refine j_iload_n E 3 dX2_takeRef_29 rfl rfl ?_
    refine j_iconst (v := (3 : Int32)) E dX2_takeRef_30 (by decide) ?_
    refine j_iload_n E 1 dX2_takeRef_31 rfl rfl ?_
    obtain ⟨u4, h4, h⟩ := jb h
    obtain ⟨fs4, h4⟩ := chk_spec h4
    obtain ⟨f5, h5, h⟩ := jb h
    refine j_callV (As := [.int v3, .int (3 : Int32), .int v1]) (b := v0) (rest := []) (rc := 0) (rs := 0) E (sX2_fill h5) lwX2_fill lkX2_53 imX2_fill seX2_fill rfl h4 (by decide) rfl (Nat.le_of_ble_eq_true rfl) dX2_takeRef_32 ?_
    refine j_aload_n E 0 dX2_takeRef_35 rfl rfl ?_
    refine j_iload_n E 1 dX2_takeRef_36 rfl rfl ?_
    refine j_iload_n E 2 dX2_takeRef_37 rfl rfl ?_
    obtain ⟨u6, h6, h⟩ := jb h
    obtain ⟨fs6, h6⟩ := chk_spec h6
    obtain ⟨f7, h7, h⟩ := jb h
    refine j_callV (As := [.int v1, .int v2]) (b := v0) (rest := []) (rc := 0) (rs := 0) E (sX2_changeWeight h7) lwX2_changeWeight lkX2_90 imX2_changeWeight seX2_changeWeight rfl h6 (by decide) rfl (Nat.le_of_ble_eq_true rfl) dX2_takeRef_38 ?_
    cases h
    exact j_vret E dX2_takeRef_41
  replace h := jt hc3 h
  refine j_aload_n E 0 dX2_takeRef_11 rfl rfl ?_
  refine j_iload_n E 3 dX2_takeRef_12 rfl rfl ?_
  refine j_iconst (v := (2 : Int32)) E dX2_takeRef_13 (by decide) ?_
  refine j_iload_n E 1 dX2_takeRef_14 rfl rfl ?_
  obtain ⟨u8, h8, h⟩ := jb h
  obtain ⟨fs8, h8⟩ := chk_spec h8
  obtain ⟨f9, h9, h⟩ := jb h
  refine j_callV (As := [.int v3, .int (2 : Int32), .int v1]) (b := v0) (rest := []) (rc := 0) (rs := 0) E (sX2_fill h9) lwX2_fill lkX2_53 imX2_fill seX2_fill rfl h8 (by decide) rfl (Nat.le_of_ble_eq_true rfl) dX2_takeRef_15 ?_
  refine j_aload_n E 0 dX2_takeRef_18 rfl rfl ?_
  refine j_iload_n E 1 dX2_takeRef_19 rfl rfl ?_
  refine j_iload_n E 2 dX2_takeRef_20 rfl rfl ?_
  refine j_ineg E dX2_takeRef_21 ?_
  obtain ⟨u10, h10, h⟩ := jb h
  obtain ⟨fs10, h10⟩ := chk_spec h10
  obtain ⟨f11, h11, h⟩ := jb h
  refine j_callV (As := [.int v1, .int (-v2)]) (b := v0) (rest := []) (rc := 0) (rs := 0) E (sX2_changeTotal h11) lwX2_changeTotal lkX2_83 imX2_changeTotal seX2_changeTotal rfl h10 (by decide) rfl (Nat.le_of_ble_eq_true rfl) dX2_takeRef_22 ?_
  refine j_goto (tgt := 41) E dX2_takeRef_25 (by decide) ?_
  cases h
  exact j_vret E dX2_takeRef_41
def mX3_isFull (f : jM) (v0 : Nat) : Option (Int32 × jM) :=
    (rdI 3 f v0 1).bind fun x1 =>
    if x1 < (60 : Int32) then (
    some ((0 : Int32), f)) else (
    some ((1 : Int32), f))
set_option maxRecDepth 100000 in
set_option maxHeartbeats 4000000 in
theorem sX3_isFull {l : Launch} {D : jD} {sz : Nat} {f : jM} {v0 : Nat} {res : (Int32 × jM)} (h : mX3_isFull f v0 = some res) : jCt l D yX3_isFull cX3_isFull 1 (some .boolean) 0 0 [.ref v0] f sz 0 0 (some (.int res.1)) res.2 sz := by
  refine j_start (by decide +kernel) (Nat.le_of_ble_eq_true rfl) (fun c hcl hcD hcn E => ?_)
  subst hcl
  subst hcD
  replace E : jOk c cX3_isFull 1 RX3 (some .boolean) 0 0 := E
  show J c (jZ c (some (.int res.1)) res.2 sz) f sz 0 0 0 [(0, .ref v0)] []
  unfold mX3_isFull at h
  refine j_aload_n E 0 dX3_isFull_0 rfl rfl ?_
  obtain ⟨x1, h1, h⟩ := jb h
  refine j_getI E gX3_18 h1 dX3_isFull_1 ?_
  refine j_bipush (v := (60 : Int32)) E dX3_isFull_4 (by decide) ?_
  refine j_icmp_lt (tgt := 13) E dX3_isFull_6 (by decide) (fun hc2 => ?_) (fun hc2 => ?_)
  · replace h := jt hc2 h
    refine j_iconst (v := (0 : Int32)) E dX3_isFull_13 (by decide) ?_
    cases h
    exact j_zret (v := (0 : Int32)) E (by decide +kernel) dX3_isFull_14
  replace h := jf hc2 h
  refine j_iconst (v := (1 : Int32)) E dX3_isFull_9 (by decide) ?_
  refine j_goto (tgt := 14) E dX3_isFull_10 (by decide) ?_
  cases h
  exact j_zret (v := (1 : Int32)) E (by decide +kernel) dX3_isFull_14
def mX3_put (f : jM) (v0 : Nat) (v1 : Int32) (v2 : Int32) (v3 : Int32) (v4 : Int32) (v5 : Int32) (v6 : Int32) : Option jM :=
    (chk 3 f v0).bind fun _ =>
    (mX3_isFull f v0).bind fun r2 =>
    if r2.1 = 0 then (
    (rdR 3 r2.2 v0 0).bind fun x4 =>
    (rdI 3 r2.2 v0 1).bind fun x5 =>
    (ldR 3 r2.2 x4 x5).bind fun x6 =>
    (wrV 0 r2.2 x6 0 (.int v1)).bind fun f7 =>
    (wrV 0 f7 x6 1 (.int v2)).bind fun f8 =>
    (wrV 0 f8 x6 2 (.int v3)).bind fun f9 =>
    (wrV 0 f9 x6 3 (.int v4)).bind fun f10 =>
    (wrV 0 f10 x6 4 (.int v5)).bind fun f11 =>
    (wrV 0 f11 x6 5 (.int v6)).bind fun f12 =>
    (rdI 3 f12 v0 1).bind fun x13 =>
    (wrV 3 f12 v0 1 (.int (x13 + (1 : Int32)))).bind fun f14 =>
    some f14) else (
    some r2.2)
set_option maxRecDepth 100000 in
set_option maxHeartbeats 4000000 in
theorem sX3_put {l : Launch} {D : jD} {sz : Nat} {f : jM} {v0 : Nat} {v1 : Int32} {v2 : Int32} {v3 : Int32} {v4 : Int32} {v5 : Int32} {v6 : Int32} {res : jM} (h : mX3_put f v0 v1 v2 v3 v4 v5 v6 = some res) : jCt l D yX3_put cX3_put 8 none 1 20 [.ref v0, .int v1, .int v2, .int v3, .int v4, .int v5, .int v6] f sz 0 0 none res sz := by
  refine j_start (by decide +kernel) (Nat.le_of_ble_eq_true rfl) (fun c hcl hcD hcn E => ?_)
  subst hcl
  subst hcD
  replace E : jOk c cX3_put 8 RX3 none 1 20 := E
  show J c (jZ c none res sz) f sz 0 0 0 [(0, .ref v0), (1, .int v1), (2, .int v2), (3, .int v3), (4, .int v4), (5, .int v5), (6, .int v6)] []
  unfold mX3_put at h
  refine j_aload_n E 0 dX3_put_0 rfl rfl ?_
  obtain ⟨u1, h1, h⟩ := jb h
  obtain ⟨fs1, h1⟩ := chk_spec h1
  obtain ⟨r2, h2, h⟩ := jb h
  refine j_callV (As := []) (b := v0) (rest := []) (rc := 0) (rs := 0) E (sX3_isFull h2) lwX3_isFull lkX3_22 imX3_isFull seX3_isFull rfl h1 (by decide) rfl (Nat.le_of_ble_eq_true rfl) dX3_put_1 ?_
  refine j_if_eq (tgt := 8) E dX3_put_4 (by decide) (fun hc3 => ?_) (fun hc3 => ?_)
  · replace h := jt hc3 h
    refine j_aload_n E 0 dX3_put_8 rfl rfl ?_
    obtain ⟨x4, h4, h⟩ := jb h
    refine j_getR E gX3_11 h4 dX3_put_9 ?_
    refine j_aload_n E 0 dX3_put_12 rfl rfl ?_
    obtain ⟨x5, h5, h⟩ := jb h
    refine j_getI E gX3_18 h5 dX3_put_13 ?_
    obtain ⟨x6, h6, h⟩ := jb h
    refine j_aald E rfl h6 dX3_put_16 ?_
    refine j_astore (lv' := [(7, .ref x6), (0, .ref v0), (1, .int v1), (2, .int v2), (3, .int v3), (4, .int v4), (5, .int v5), (6, .int v6)]) E dX3_put_17 (by decide) rfl ?_
    refine j_aload E 0 dX3_put_19 rfl ?_
    refine j_iload_n E 2 dX3_put_21 rfl rfl ?_
    obtain ⟨f7, h7, h⟩ := jb h
    refine j_putV E gpX3_26 h7 rfl rfl dX3_put_22 ?_
    refine j_aload E 0 dX3_put_25 rfl ?_
    refine j_iload_n E 3 dX3_put_27 rfl rfl ?_
    obtain ⟨f8, h8, h⟩ := jb h
    refine j_putV E gpX3_29 h8 rfl rfl dX3_put_28 ?_
    refine j_aload E 0 dX3_put_31 rfl ?_
    refine j_iload_n E 4 dX3_put_33 rfl rfl ?_
    obtain ⟨f9, h9, h⟩ := jb h
    refine j_putV E gpX3_32 h9 rfl rfl dX3_put_34 ?_
    refine j_aload E 0 dX3_put_37 rfl ?_
    refine j_iload E 5 dX3_put_39 rfl ?_
    obtain ⟨f10, h10, h⟩ := jb h
    refine j_putV E gpX3_35 h10 rfl rfl dX3_put_41 ?_
    refine j_aload E 0 dX3_put_44 rfl ?_
    refine j_iload E 6 dX3_put_46 rfl ?_
    obtain ⟨f11, h11, h⟩ := jb h
    refine j_putV E gpX3_38 h11 rfl rfl dX3_put_48 ?_
    refine j_aload E 0 dX3_put_51 rfl ?_
    refine j_iload E 7 dX3_put_53 rfl ?_
    obtain ⟨f12, h12, h⟩ := jb h
    refine j_putV E gpX3_41 h12 rfl rfl dX3_put_55 ?_
    refine j_aload_n E 1 dX3_put_58 rfl rfl ?_
    refine j_dup E dX3_put_59 rfl ?_
    obtain ⟨x13, h13, h⟩ := jb h
    refine j_getI E gX3_18 h13 dX3_put_60 ?_
    refine j_iconst (v := (1 : Int32)) E dX3_put_63 (by decide) ?_
    refine j_iadd E dX3_put_64 ?_
    obtain ⟨f14, h14, h⟩ := jb h
    refine j_putV E gpX3_18 h14 rfl rfl dX3_put_65 ?_
    cases h
    exact j_vret E dX3_put_68
  replace h := jf hc3 h
  cases h
  exact j_vret E dX3_put_7
def mX2_giveBack (f : jM) (v0 : Nat) (v1 : Int32) (v2 : Nat) : Option jM :=
    (chk 2 f v0).bind fun _ =>
    (mX2_weightOfImport f v0 v1).bind fun r2 =>
    (rdI 2 r2.2 v0 0).bind fun x3 =>
    (mX5_nodeOf r2.2 v1).bind fun r4 =>
    (chk 3 r4.2 v2).bind fun _ =>
    (mX3_put r4.2 v2 (2 : Int32) x3 r4.1 v1 r2.1 (-1 : Int32)).bind fun f6 =>
    (chk 2 f6 v0).bind fun _ =>
    (mX2_changeWeight f6 v0 v1 (-r2.1)).bind fun f8 =>
    some f8
set_option maxRecDepth 100000 in
set_option maxHeartbeats 4000000 in
theorem sX2_giveBack {l : Launch} {D : jD} {sz : Nat} {f : jM} {v0 : Nat} {v1 : Int32} {v2 : Nat} {res : jM} (h : mX2_giveBack f v0 v1 v2 = some res) : jCt l D yX2_giveBack cX2_giveBack 4 none 2 47 [.ref v0, .int v1, .ref v2] f sz 0 0 none res sz := by
  refine j_start (by decide +kernel) (Nat.le_of_ble_eq_true rfl) (fun c hcl hcD hcn E => ?_)
  subst hcl
  subst hcD
  replace E : jOk c cX2_giveBack 4 RX2 none 2 47 := E
  show J c (jZ c none res sz) f sz 0 0 0 [(0, .ref v0), (1, .int v1), (2, .ref v2)] []
  unfold mX2_giveBack at h
  refine j_aload_n E 0 dX2_giveBack_0 rfl rfl ?_
  refine j_iload_n E 1 dX2_giveBack_1 rfl rfl ?_
  obtain ⟨u1, h1, h⟩ := jb h
  obtain ⟨fs1, h1⟩ := chk_spec h1
  obtain ⟨r2, h2, h⟩ := jb h
  refine j_callV (As := [.int v1]) (b := v0) (rest := []) (rc := 0) (rs := 0) E (sX2_weightOfImport h2) lwX2_weightOfImport lkX2_87 imX2_weightOfImport seX2_weightOfImport rfl h1 (by decide) rfl (Nat.le_of_ble_eq_true rfl) dX2_giveBack_2 ?_
  refine j_istore_n (lv' := [(3, .int r2.1), (0, .ref v0), (1, .int v1), (2, .ref v2)]) E dX2_giveBack_5 rfl (by decide) rfl ?_
  refine j_aload_n E 3 dX2_giveBack_6 rfl rfl ?_
  refine j_iconst (v := (2 : Int32)) E dX2_giveBack_7 (by decide) ?_
  refine j_aload_n E 1 dX2_giveBack_8 rfl rfl ?_
  obtain ⟨x3, h3, h⟩ := jb h
  refine j_getI E gX2_33 h3 dX2_giveBack_9 ?_
  refine j_iload_n E 2 dX2_giveBack_12 rfl rfl ?_
  obtain ⟨r4, h4, h⟩ := jb h
  refine j_callS (As := [.int v1]) (rest := [.int x3, .int (2 : Int32), .ref v2]) (rc := 0) (rs := 0) E (sX5_nodeOf h4) lwX5_nodeOf lkX2_80 stX5_nodeOf (by decide) rfl (Nat.le_of_ble_eq_true rfl) dX2_giveBack_13 ?_
  refine j_iload_n E 2 dX2_giveBack_16 rfl rfl ?_
  refine j_iload_n E 0 dX2_giveBack_17 rfl rfl ?_
  refine j_iconst (v := (-1 : Int32)) E dX2_giveBack_18 (by decide) ?_
  obtain ⟨u5, h5, h⟩ := jb h
  obtain ⟨fs5, h5⟩ := chk_spec h5
  obtain ⟨f6, h6, h⟩ := jb h
  refine j_callV (As := [.int (2 : Int32), .int x3, .int r4.1, .int v1, .int r2.1, .int (-1 : Int32)]) (b := v2) (rest := []) (rc := 0) (rs := 0) E (sX3_put h6) lwX3_put lkX2_93 imX3_put seX3_put rfl h5 (by decide) rfl (Nat.le_of_ble_eq_true rfl) dX2_giveBack_19 ?_
  refine j_aload_n E 1 dX2_giveBack_22 rfl rfl ?_
  refine j_iload_n E 2 dX2_giveBack_23 rfl rfl ?_
  refine j_iload_n E 0 dX2_giveBack_24 rfl rfl ?_
  refine j_ineg E dX2_giveBack_25 ?_
  obtain ⟨u7, h7, h⟩ := jb h
  obtain ⟨fs7, h7⟩ := chk_spec h7
  obtain ⟨f8, h8, h⟩ := jb h
  refine j_callV (As := [.int v1, .int (-r2.1)]) (b := v0) (rest := []) (rc := 0) (rs := 0) E (sX2_changeWeight h8) lwX2_changeWeight lkX2_90 imX2_changeWeight seX2_changeWeight rfl h7 (by decide) rfl (Nat.le_of_ble_eq_true rfl) dX2_giveBack_26 ?_
  cases h
  exact j_vret E dX2_giveBack_29
def mX2_markRegisters_L2 (fu : Nat)  (v0 : Nat) (v1 : Nat) : Nat → Int32 → jM → Option jM
  | 0, _, _ => none
  | n + 1, v2, f =>
    if (6 : Int32) ≤ v2 then (
    some f) else (
    (chk 2 f v0).bind fun _ =>
    (mX2_holdsObject f v0 v2).bind fun r3 =>
    if r3.1 = 0 then (
    mX2_markRegisters_L2 fu v0 v1 n (v2 + (1 : Int32)) r3.2) else (
    (rdR 2 r3.2 v0 2).bind fun x5 =>
    (ldI 0 r3.2 x5 v2).bind fun x6 =>
    (chk 1 r3.2 v1).bind fun _ =>
    (mX1_add r3.2 v1 x6).bind fun f8 =>
    mX2_markRegisters_L2 fu v0 v1 n (v2 + (1 : Int32)) f8))
set_option maxRecDepth 100000 in
set_option maxHeartbeats 4000000 in
theorem wX2_markRegisters_L2 {c : jS} {sz : Nat} {fu : Nat}  {v0 : Nat} {v1 : Nat} {res : jM} (E : jOk c cX2_markRegisters 3 RX2 none 1 21)  : ∀ (n : Nat) (v2 : Int32) (f : jM), mX2_markRegisters_L2 fu  v0 v1 n v2 f = some res → J c (jZ c none res sz) f sz 0 0 2 [(0, .ref v0), (1, .ref v1), (2, .int v2)] [] := by
  intro n
  induction n with
  | zero => intro v2 f h; exact jn0 h
  | succ n ih =>
    intro v2 f h
    rw [mX2_markRegisters_L2] at h
    refine j_iload_n E 2 dX2_markRegisters_2 rfl rfl ?_
    refine j_bipush (v := (6 : Int32)) E dX2_markRegisters_3 (by decide) ?_
    refine j_icmp_ge (tgt := 32) E dX2_markRegisters_5 (by decide) (fun hc1 => ?_) (fun hc1 => ?_)
    · replace h := jt hc1 h
      cases h
      exact j_vret E dX2_markRegisters_32
    replace h := jf hc1 h
    refine j_aload_n E 0 dX2_markRegisters_8 rfl rfl ?_
    refine j_iload_n E 2 dX2_markRegisters_9 rfl rfl ?_
    obtain ⟨u2, h2, h⟩ := jb h
    obtain ⟨fs2, h2⟩ := chk_spec h2
    obtain ⟨r3, h3, h⟩ := jb h
    refine j_callV (As := [.int v2]) (b := v0) (rest := []) (rc := 0) (rs := 0) E (sX2_holdsObject h3) lwX2_holdsObject lkX2_56 imX2_holdsObject seX2_holdsObject rfl h2 (by decide) rfl (Nat.le_of_ble_eq_true rfl) dX2_markRegisters_10 ?_
    refine j_if_eq (tgt := 26) E dX2_markRegisters_13 (by decide) (fun hc4 => ?_) (fun hc4 => ?_)
    · replace h := jt hc4 h
      refine j_iinc (v := (v2 + (1 : Int32))) (lv' := [(2, .int (v2 + (1 : Int32))), (0, .ref v0), (1, .ref v1)]) E 2 dX2_markRegisters_26 rfl rfl (by decide) rfl ?_
      refine j_goto (tgt := 2) E dX2_markRegisters_29 (by decide) ?_
      exact j_sub [1, 2, 0] rfl (ih _ _ h)
    replace h := jf hc4 h
    refine j_aload_n E 1 dX2_markRegisters_16 rfl rfl ?_
    refine j_aload_n E 0 dX2_markRegisters_17 rfl rfl ?_
    obtain ⟨x5, h5, h⟩ := jb h
    refine j_getR E gX2_15 h5 dX2_markRegisters_18 ?_
    refine j_iload_n E 2 dX2_markRegisters_21 rfl rfl ?_
    obtain ⟨x6, h6, h⟩ := jb h
    refine j_iald E h6 dX2_markRegisters_22 ?_
    obtain ⟨u7, h7, h⟩ := jb h
    obtain ⟨fs7, h7⟩ := chk_spec h7
    obtain ⟨f8, h8, h⟩ := jb h
    refine j_callV (As := [.int x6]) (b := v1) (rest := []) (rc := 0) (rs := 0) E (sX1_add h8) lwX1_add lkX2_99 imX1_add seX1_add rfl h7 (by decide) rfl (Nat.le_of_ble_eq_true rfl) dX2_markRegisters_23 ?_
    refine j_iinc (v := (v2 + (1 : Int32))) (lv' := [(2, .int (v2 + (1 : Int32))), (0, .ref v0), (1, .ref v1)]) E 2 dX2_markRegisters_26 rfl rfl (by decide) rfl ?_
    refine j_goto (tgt := 2) E dX2_markRegisters_29 (by decide) ?_
    exact j_sub [1, 2, 0] rfl (ih _ _ h)
def mX2_markRegisters (fu : Nat) (f : jM) (v0 : Nat) (v1 : Nat) : Option jM :=
    mX2_markRegisters_L2 fu v0 v1 fu (0 : Int32) f
set_option maxRecDepth 100000 in
set_option maxHeartbeats 4000000 in
theorem sX2_markRegisters {l : Launch} {D : jD} {sz : Nat} {fu : Nat} {f : jM} {v0 : Nat} {v1 : Nat} {res : jM} (h : mX2_markRegisters fu f v0 v1 = some res) : jCt l D yX2_markRegisters cX2_markRegisters 3 none 1 21 [.ref v0, .ref v1] f sz 0 0 none res sz := by
  refine j_start (by decide +kernel) (Nat.le_of_ble_eq_true rfl) (fun c hcl hcD hcn E => ?_)
  subst hcl
  subst hcD
  replace E : jOk c cX2_markRegisters 3 RX2 none 1 21 := E
  show J c (jZ c none res sz) f sz 0 0 0 [(0, .ref v0), (1, .ref v1)] []
  unfold mX2_markRegisters at h
  refine j_iconst (v := (0 : Int32)) E dX2_markRegisters_0 (by decide) ?_
  refine j_istore_n (lv' := [(2, .int (0 : Int32)), (0, .ref v0), (1, .ref v1)]) E dX2_markRegisters_1 rfl (by decide) rfl ?_
  exact j_sub [1, 2, 0] rfl (wX2_markRegisters_L2 E _ _ _ h)
def mX5_idOf (f : jM) (v0 : Int32) (v1 : Int32) : Option (Int32 × jM) :=
    some (((v0 * (24 : Int32)) + v1), f)
set_option maxRecDepth 100000 in
set_option maxHeartbeats 4000000 in
theorem sX5_idOf {l : Launch} {D : jD} {sz : Nat} {f : jM} {v0 : Int32} {v1 : Int32} {res : (Int32 × jM)} (h : mX5_idOf f v0 v1 = some res) : jCt l D yX5_idOf cX5_idOf 2 (some .int) 0 0 [.int v0, .int v1] f sz 0 0 (some (.int res.1)) res.2 sz := by
  refine j_start (by decide +kernel) (Nat.le_of_ble_eq_true rfl) (fun c hcl hcD hcn E => ?_)
  subst hcl
  subst hcD
  replace E : jOk c cX5_idOf 2 RX5 (some .int) 0 0 := E
  show J c (jZ c (some (.int res.1)) res.2 sz) f sz 0 0 0 [(0, .int v0), (1, .int v1)] []
  unfold mX5_idOf at h
  refine j_iload_n E 0 dX5_idOf_0 rfl rfl ?_
  refine j_bipush (v := (24 : Int32)) E dX5_idOf_1 (by decide) ?_
  refine j_imul E dX5_idOf_3 ?_
  refine j_iload_n E 1 dX5_idOf_4 rfl rfl ?_
  refine j_iadd E dX5_idOf_5 ?_
  cases h
  exact j_iret E dX5_idOf_6
def mX2_markLive_L46 (fu : Nat)  (v0 : Nat) (v1 : Nat) : Nat → Int32 → jM → Option jM
  | 0, _, _ => none
  | n + 1, v2, f =>
    (rdI 1 f v1 2).bind fun x9 =>
    if x9 ≤ v2 then (
    some f) else (
    if (120 : Int32) ≤ v2 then (
    some f) else (
    (rdR 1 f v1 1).bind fun x12 =>
    (ldI 0 f x12 v2).bind fun x13 =>
    (mX5_nodeOf f x13).bind fun r14 =>
    (rdI 2 r14.2 v0 0).bind fun x15 =>
    if r14.1 = x15 then (
    (rdR 1 r14.2 v1 1).bind fun x17 =>
    (ldI 0 r14.2 x17 v2).bind fun x18 =>
    (mX5_numberOf r14.2 x18).bind fun r19 =>
    (chk 2 r19.2 v0).bind fun _ =>
    (mX2_markFields fu r19.2 v0 r19.1 v1).bind fun f21 =>
    mX2_markLive_L46 fu v0 v1 n (v2 + (1 : Int32)) f21) else (
    mX2_markLive_L46 fu v0 v1 n (v2 + (1 : Int32)) r14.2)))
set_option maxRecDepth 100000 in
set_option maxHeartbeats 4000000 in
theorem wX2_markLive_L46 {c : jS} {sz : Nat} {fu : Nat}  {v0 : Nat} {v1 : Nat} {res : jM} (E : jOk c cX2_markLive 3 RX2 none 2 45)  : ∀ (n : Nat) (v2 : Int32) (f : jM), mX2_markLive_L46 fu  v0 v1 n v2 f = some res → J c (jZ c none res sz) f sz 0 0 46 [(0, .ref v0), (1, .ref v1), (2, .int v2)] [] := by
  intro n
  induction n with
  | zero => intro v2 f h; exact jn0 h
  | succ n ih =>
    intro v2 f h
    rw [mX2_markLive_L46] at h
    refine j_iload_n E 2 dX2_markLive_46 rfl rfl ?_
    refine j_aload_n E 1 dX2_markLive_47 rfl rfl ?_
    obtain ⟨x9, h9, h⟩ := jb h
    refine j_getI E gX2_114 h9 dX2_markLive_48 ?_
    refine j_icmp_ge (tgt := 96) E dX2_markLive_51 (by decide) (fun hc10 => ?_) (fun hc10 => ?_)
    · replace h := jt hc10 h
      cases h
      exact j_vret E dX2_markLive_96
    replace h := jf hc10 h
    refine j_iload_n E 2 dX2_markLive_54 rfl rfl ?_
    refine j_bipush (v := (120 : Int32)) E dX2_markLive_55 (by decide) ?_
    refine j_icmp_ge (tgt := 96) E dX2_markLive_57 (by decide) (fun hc11 => ?_) (fun hc11 => ?_)
    · replace h := jt hc11 h
      cases h
      exact j_vret E dX2_markLive_96
    replace h := jf hc11 h
    refine j_aload_n E 1 dX2_markLive_60 rfl rfl ?_
    obtain ⟨x12, h12, h⟩ := jb h
    refine j_getR E gX2_117 h12 dX2_markLive_61 ?_
    refine j_iload_n E 2 dX2_markLive_64 rfl rfl ?_
    obtain ⟨x13, h13, h⟩ := jb h
    refine j_iald E h13 dX2_markLive_65 ?_
    obtain ⟨r14, h14, h⟩ := jb h
    refine j_callS (As := [.int x13]) (rest := []) (rc := 0) (rs := 0) E (sX5_nodeOf h14) lwX5_nodeOf lkX2_80 stX5_nodeOf (by decide) rfl (Nat.le_of_ble_eq_true rfl) dX2_markLive_66 ?_
    refine j_aload_n E 0 dX2_markLive_69 rfl rfl ?_
    obtain ⟨x15, h15, h⟩ := jb h
    refine j_getI E gX2_33 h15 dX2_markLive_70 ?_
    refine j_icmp_ne (tgt := 90) E dX2_markLive_73 (by decide) (fun hc16 => ?_) (fun hc16 => ?_)
    · replace h := jf hc16 h
      refine j_iinc (v := (v2 + (1 : Int32))) (lv' := [(2, .int (v2 + (1 : Int32))), (0, .ref v0), (1, .ref v1)]) E 2 dX2_markLive_90 rfl rfl (by decide) rfl ?_
      refine j_goto (tgt := 46) E dX2_markLive_93 (by decide) ?_
      exact j_sub [1, 2, 0] rfl (ih _ _ h)
    replace h := jt hc16 h
    refine j_aload_n E 0 dX2_markLive_76 rfl rfl ?_
    refine j_aload_n E 1 dX2_markLive_77 rfl rfl ?_
    obtain ⟨x17, h17, h⟩ := jb h
    refine j_getR E gX2_117 h17 dX2_markLive_78 ?_
    refine j_iload_n E 2 dX2_markLive_81 rfl rfl ?_
    obtain ⟨x18, h18, h⟩ := jb h
    refine j_iald E h18 dX2_markLive_82 ?_
    obtain ⟨r19, h19, h⟩ := jb h
    refine j_callS (As := [.int x18]) (rest := [.ref v0]) (rc := 0) (rs := 0) E (sX5_numberOf h19) lwX5_numberOf lkX2_74 stX5_numberOf (by decide) rfl (Nat.le_of_ble_eq_true rfl) dX2_markLive_83 ?_
    refine j_aload_n E 1 dX2_markLive_86 rfl rfl ?_
    obtain ⟨u20, h20, h⟩ := jb h
    obtain ⟨fs20, h20⟩ := chk_spec h20
    obtain ⟨f21, h21, h⟩ := jb h
    refine j_callV (As := [.int r19.1, .ref v1]) (b := v0) (rest := []) (rc := 0) (rs := 0) E (sX2_markFields h21) lwX2_markFields lkX2_120 imX2_markFields seX2_markFields rfl h20 (by decide) rfl (Nat.le_of_ble_eq_true rfl) dX2_markLive_87 ?_
    refine j_iinc (v := (v2 + (1 : Int32))) (lv' := [(2, .int (v2 + (1 : Int32))), (0, .ref v0), (1, .ref v1)]) E 2 dX2_markLive_90 rfl rfl (by decide) rfl ?_
    refine j_goto (tgt := 46) E dX2_markLive_93 (by decide) ?_
    exact j_sub [1, 2, 0] rfl (ih _ _ h)
def mX2_markLive_L11 (fu : Nat)  (v0 : Nat) (v1 : Nat) : Nat → Int32 → jM → Option jM
  | 0, _, _ => none
  | n + 1, v2, f =>
    if (24 : Int32) ≤ v2 then (
    mX2_markLive_L46 fu v0 v1 fu (0 : Int32) f) else (
    (rdR 2 f v0 5).bind fun x2 =>
    (ldI 0 f x2 v2).bind fun x3 =>
    if x3 ≤ 0 then (
    mX2_markLive_L11 fu v0 v1 n (v2 + (1 : Int32)) f) else (
    (rdI 2 f v0 0).bind fun x5 =>
    (mX5_idOf f x5 v2).bind fun r6 =>
    (chk 1 r6.2 v1).bind fun _ =>
    (mX1_add r6.2 v1 r6.1).bind fun f8 =>
    mX2_markLive_L11 fu v0 v1 n (v2 + (1 : Int32)) f8))
set_option maxRecDepth 100000 in
set_option maxHeartbeats 4000000 in
theorem wX2_markLive_L11 {c : jS} {sz : Nat} {fu : Nat}  {v0 : Nat} {v1 : Nat} {res : jM} (E : jOk c cX2_markLive 3 RX2 none 2 45)  : ∀ (n : Nat) (v2 : Int32) (f : jM), mX2_markLive_L11 fu  v0 v1 n v2 f = some res → J c (jZ c none res sz) f sz 0 0 11 [(0, .ref v0), (1, .ref v1), (2, .int v2)] [] := by
  intro n
  induction n with
  | zero => intro v2 f h; exact jn0 h
  | succ n ih =>
    intro v2 f h
    rw [mX2_markLive_L11] at h
    refine j_iload_n E 2 dX2_markLive_11 rfl rfl ?_
    refine j_bipush (v := (24 : Int32)) E dX2_markLive_12 (by decide) ?_
    refine j_icmp_ge (tgt := 44) E dX2_markLive_14 (by decide) (fun hc1 => ?_) (fun hc1 => ?_)
    · replace h := jt hc1 h
      refine j_iconst (v := (0 : Int32)) E dX2_markLive_44 (by decide) ?_
      refine j_istore_n (lv' := [(2, .int (0 : Int32)), (0, .ref v0), (1, .ref v1)]) E dX2_markLive_45 rfl (by decide) rfl ?_
      exact j_sub [1, 2, 0] rfl (wX2_markLive_L46 E _ _ _ h)
    replace h := jf hc1 h
    refine j_aload_n E 0 dX2_markLive_17 rfl rfl ?_
    obtain ⟨x2, h2, h⟩ := jb h
    refine j_getR E gX2_24 h2 dX2_markLive_18 ?_
    refine j_iload_n E 2 dX2_markLive_21 rfl rfl ?_
    obtain ⟨x3, h3, h⟩ := jb h
    refine j_iald E h3 dX2_markLive_22 ?_
    refine j_if_le (tgt := 38) E dX2_markLive_23 (by decide) (fun hc4 => ?_) (fun hc4 => ?_)
    · replace h := jt hc4 h
      refine j_iinc (v := (v2 + (1 : Int32))) (lv' := [(2, .int (v2 + (1 : Int32))), (0, .ref v0), (1, .ref v1)]) E 2 dX2_markLive_38 rfl rfl (by decide) rfl ?_
      refine j_goto (tgt := 11) E dX2_markLive_41 (by decide) ?_
      exact j_sub [1, 2, 0] rfl (ih _ _ h)
    replace h := jf hc4 h
    refine j_aload_n E 1 dX2_markLive_26 rfl rfl ?_
    refine j_aload_n E 0 dX2_markLive_27 rfl rfl ?_
    obtain ⟨x5, h5, h⟩ := jb h
    refine j_getI E gX2_33 h5 dX2_markLive_28 ?_
    refine j_iload_n E 2 dX2_markLive_31 rfl rfl ?_
    obtain ⟨r6, h6, h⟩ := jb h
    refine j_callS (As := [.int x5, .int v2]) (rest := [.ref v1]) (rc := 0) (rs := 0) E (sX5_idOf h6) lwX5_idOf lkX2_111 stX5_idOf (by decide) rfl (Nat.le_of_ble_eq_true rfl) dX2_markLive_32 ?_
    obtain ⟨u7, h7, h⟩ := jb h
    obtain ⟨fs7, h7⟩ := chk_spec h7
    obtain ⟨f8, h8, h⟩ := jb h
    refine j_callV (As := [.int r6.1]) (b := v1) (rest := []) (rc := 0) (rs := 0) E (sX1_add h8) lwX1_add lkX2_99 imX1_add seX1_add rfl h7 (by decide) rfl (Nat.le_of_ble_eq_true rfl) dX2_markLive_35 ?_
    refine j_iinc (v := (v2 + (1 : Int32))) (lv' := [(2, .int (v2 + (1 : Int32))), (0, .ref v0), (1, .ref v1)]) E 2 dX2_markLive_38 rfl rfl (by decide) rfl ?_
    refine j_goto (tgt := 11) E dX2_markLive_41 (by decide) ?_
    exact j_sub [1, 2, 0] rfl (ih _ _ h)
def mX2_markLive (fu : Nat) (f : jM) (v0 : Nat) (v1 : Nat) : Option jM :=
    (chk 1 f v1).bind fun _ =>
    (mX1_clear fu f v1).bind fun f23 =>
    (chk 2 f23 v0).bind fun _ =>
    (mX2_markRegisters fu f23 v0 v1).bind fun f25 =>
    mX2_markLive_L11 fu v0 v1 fu (0 : Int32) f25
set_option maxRecDepth 100000 in
set_option maxHeartbeats 4000000 in
theorem sX2_markLive {l : Launch} {D : jD} {sz : Nat} {fu : Nat} {f : jM} {v0 : Nat} {v1 : Nat} {res : jM} (h : mX2_markLive fu f v0 v1 = some res) : jCt l D yX2_markLive cX2_markLive 3 none 2 45 [.ref v0, .ref v1] f sz 0 0 none res sz := by
  refine j_start (by decide +kernel) (Nat.le_of_ble_eq_true rfl) (fun c hcl hcD hcn E => ?_)
  subst hcl
  subst hcD
  replace E : jOk c cX2_markLive 3 RX2 none 2 45 := E
  show J c (jZ c none res sz) f sz 0 0 0 [(0, .ref v0), (1, .ref v1)] []
  unfold mX2_markLive at h
  refine j_aload_n E 1 dX2_markLive_0 rfl rfl ?_
  obtain ⟨u22, h22, h⟩ := jb h
  obtain ⟨fs22, h22⟩ := chk_spec h22
  obtain ⟨f23, h23, h⟩ := jb h
  refine j_callV (As := []) (b := v1) (rest := []) (rc := 0) (rs := 0) E (sX1_clear h23) lwX1_clear lkX2_104 imX1_clear seX1_clear rfl h22 (by decide) rfl (Nat.le_of_ble_eq_true rfl) dX2_markLive_1 ?_
  refine j_aload_n E 0 dX2_markLive_4 rfl rfl ?_
  refine j_aload_n E 1 dX2_markLive_5 rfl rfl ?_
  obtain ⟨u24, h24, h⟩ := jb h
  obtain ⟨fs24, h24⟩ := chk_spec h24
  obtain ⟨f25, h25, h⟩ := jb h
  refine j_callV (As := [.ref v1]) (b := v0) (rest := []) (rc := 0) (rs := 0) E (sX2_markRegisters h25) lwX2_markRegisters lkX2_107 imX2_markRegisters seX2_markRegisters rfl h24 (by decide) rfl (Nat.le_of_ble_eq_true rfl) dX2_markLive_6 ?_
  refine j_iconst (v := (0 : Int32)) E dX2_markLive_9 (by decide) ?_
  refine j_istore_n (lv' := [(2, .int (0 : Int32)), (0, .ref v0), (1, .ref v1)]) E dX2_markLive_10 rfl (by decide) rfl ?_
  exact j_sub [1, 2, 0] rfl (wX2_markLive_L11 E _ _ _ h)
def mX2_countUnmarkedImports_L4 (fu : Nat)  (v0 : Nat) (v1 : Nat) : Nat → Int32 → Int32 → jM → Option (Int32 × jM)
  | 0, _, _, _ => none
  | n + 1, v2, v3, f =>
    if (120 : Int32) ≤ v3 then (
    some (v2, f)) else (
    (rdR 2 f v0 6).bind fun x2 =>
    (ldI 0 f x2 v3).bind fun x3 =>
    if x3 ≤ 0 then (
    mX2_countUnmarkedImports_L4 fu v0 v1 n v2 (v3 + (1 : Int32)) f) else (
    (chk 1 f v1).bind fun _ =>
    (mX1_has f v1 v3).bind fun r6 =>
    if r6.1 = 0 then (
    mX2_countUnmarkedImports_L4 fu v0 v1 n (v2 + (1 : Int32)) (v3 + (1 : Int32)) r6.2) else (
    mX2_countUnmarkedImports_L4 fu v0 v1 n v2 (v3 + (1 : Int32)) r6.2)))
set_option maxRecDepth 100000 in
set_option maxHeartbeats 4000000 in
theorem wX2_countUnmarkedImports_L4 {c : jS} {sz : Nat} {fu : Nat}  {v0 : Nat} {v1 : Nat} {res : (Int32 × jM)} (E : jOk c cX2_countUnmarkedImports 4 RX2 (some .int) 1 21)  : ∀ (n : Nat) (v2 : Int32) (v3 : Int32) (f : jM), mX2_countUnmarkedImports_L4 fu  v0 v1 n v2 v3 f = some res → J c (jZ c (some (.int res.1)) res.2 sz) f sz 0 0 4 [(0, .ref v0), (1, .ref v1), (2, .int v2), (3, .int v3)] [] := by
  intro n
  induction n with
  | zero => intro v2 v3 f h; exact jn0 h
  | succ n ih =>
    intro v2 v3 f h
    rw [mX2_countUnmarkedImports_L4] at h
    refine j_iload_n E 3 dX2_countUnmarkedImports_4 rfl rfl ?_
    refine j_bipush (v := (120 : Int32)) E dX2_countUnmarkedImports_5 (by decide) ?_
    refine j_icmp_ge (tgt := 36) E dX2_countUnmarkedImports_7 (by decide) (fun hc1 => ?_) (fun hc1 => ?_)
    · replace h := jt hc1 h
      refine j_iload_n E 2 dX2_countUnmarkedImports_36 rfl rfl ?_
      cases h
      exact j_iret E dX2_countUnmarkedImports_37
    replace h := jf hc1 h
    refine j_aload_n E 0 dX2_countUnmarkedImports_10 rfl rfl ?_
    obtain ⟨x2, h2, h⟩ := jb h
    refine j_getR E gX2_27 h2 dX2_countUnmarkedImports_11 ?_
    refine j_iload_n E 3 dX2_countUnmarkedImports_14 rfl rfl ?_
    obtain ⟨x3, h3, h⟩ := jb h
    refine j_iald E h3 dX2_countUnmarkedImports_15 ?_
    refine j_if_le (tgt := 30) E dX2_countUnmarkedImports_16 (by decide) (fun hc4 => ?_) (fun hc4 => ?_)
    · replace h := jt hc4 h
      refine j_iinc (v := (v3 + (1 : Int32))) (lv' := [(3, .int (v3 + (1 : Int32))), (0, .ref v0), (1, .ref v1), (2, .int v2)]) E 3 dX2_countUnmarkedImports_30 rfl rfl (by decide) rfl ?_
      refine j_goto (tgt := 4) E dX2_countUnmarkedImports_33 (by decide) ?_
      exact j_sub [1, 2, 3, 0] rfl (ih _ _ _ h)
    replace h := jf hc4 h
    refine j_aload_n E 1 dX2_countUnmarkedImports_19 rfl rfl ?_
    refine j_iload_n E 3 dX2_countUnmarkedImports_20 rfl rfl ?_
    obtain ⟨u5, h5, h⟩ := jb h
    obtain ⟨fs5, h5⟩ := chk_spec h5
    obtain ⟨r6, h6, h⟩ := jb h
    refine j_callV (As := [.int v3]) (b := v1) (rest := []) (rc := 0) (rs := 0) E (sX1_has h6) lwX1_has lkX2_124 imX1_has seX1_has rfl h5 (by decide) rfl (Nat.le_of_ble_eq_true rfl) dX2_countUnmarkedImports_21 ?_
    refine j_if_ne (tgt := 30) E dX2_countUnmarkedImports_24 (by decide) (fun hc7 => ?_) (fun hc7 => ?_)
    · replace h := jf hc7 h
      refine j_iinc (v := (v3 + (1 : Int32))) (lv' := [(3, .int (v3 + (1 : Int32))), (0, .ref v0), (1, .ref v1), (2, .int v2)]) E 3 dX2_countUnmarkedImports_30 rfl rfl (by decide) rfl ?_
      refine j_goto (tgt := 4) E dX2_countUnmarkedImports_33 (by decide) ?_
      exact j_sub [1, 2, 3, 0] rfl (ih _ _ _ h)
    replace h := jt hc7 h
    refine j_iinc (v := (v2 + (1 : Int32))) (lv' := [(2, .int (v2 + (1 : Int32))), (0, .ref v0), (1, .ref v1), (3, .int v3)]) E 2 dX2_countUnmarkedImports_27 rfl rfl (by decide) rfl ?_
    refine j_iinc (v := (v3 + (1 : Int32))) (lv' := [(3, .int (v3 + (1 : Int32))), (2, .int (v2 + (1 : Int32))), (0, .ref v0), (1, .ref v1)]) E 3 dX2_countUnmarkedImports_30 rfl rfl (by decide) rfl ?_
    refine j_goto (tgt := 4) E dX2_countUnmarkedImports_33 (by decide) ?_
    exact j_sub [2, 3, 1, 0] rfl (ih _ _ _ h)
def mX2_countUnmarkedImports (fu : Nat) (f : jM) (v0 : Nat) (v1 : Nat) : Option (Int32 × jM) :=
    mX2_countUnmarkedImports_L4 fu v0 v1 fu (0 : Int32) (0 : Int32) f
set_option maxRecDepth 100000 in
set_option maxHeartbeats 4000000 in
theorem sX2_countUnmarkedImports {l : Launch} {D : jD} {sz : Nat} {fu : Nat} {f : jM} {v0 : Nat} {v1 : Nat} {res : (Int32 × jM)} (h : mX2_countUnmarkedImports fu f v0 v1 = some res) : jCt l D yX2_countUnmarkedImports cX2_countUnmarkedImports 4 (some .int) 1 21 [.ref v0, .ref v1] f sz 0 0 (some (.int res.1)) res.2 sz := by
  refine j_start (by decide +kernel) (Nat.le_of_ble_eq_true rfl) (fun c hcl hcD hcn E => ?_)
  subst hcl
  subst hcD
  replace E : jOk c cX2_countUnmarkedImports 4 RX2 (some .int) 1 21 := E
  show J c (jZ c (some (.int res.1)) res.2 sz) f sz 0 0 0 [(0, .ref v0), (1, .ref v1)] []
  unfold mX2_countUnmarkedImports at h
  refine j_iconst (v := (0 : Int32)) E dX2_countUnmarkedImports_0 (by decide) ?_
  refine j_istore_n (lv' := [(2, .int (0 : Int32)), (0, .ref v0), (1, .ref v1)]) E dX2_countUnmarkedImports_1 rfl (by decide) rfl ?_
  refine j_iconst (v := (0 : Int32)) E dX2_countUnmarkedImports_2 (by decide) ?_
  refine j_istore_n (lv' := [(3, .int (0 : Int32)), (2, .int (0 : Int32)), (0, .ref v0), (1, .ref v1)]) E dX2_countUnmarkedImports_3 rfl (by decide) rfl ?_
  exact j_sub [2, 3, 1, 0] rfl (wX2_countUnmarkedImports_L4 E _ _ _ _ h)
def mX2_giveBackUnmarked_L2 (fu : Nat)  (v0 : Nat) (v1 : Nat) (v2 : Nat) : Nat → Int32 → jM → Option jM
  | 0, _, _ => none
  | n + 1, v3, f =>
    if (120 : Int32) ≤ v3 then (
    some f) else (
    (rdR 2 f v0 6).bind fun x2 =>
    (ldI 0 f x2 v3).bind fun x3 =>
    if x3 ≤ 0 then (
    mX2_giveBackUnmarked_L2 fu v0 v1 v2 n (v3 + (1 : Int32)) f) else (
    (chk 1 f v1).bind fun _ =>
    (mX1_has f v1 v3).bind fun r6 =>
    if r6.1 = 0 then (
    (chk 2 r6.2 v0).bind fun _ =>
    (mX2_giveBack r6.2 v0 v3 v2).bind fun f9 =>
    mX2_giveBackUnmarked_L2 fu v0 v1 v2 n (v3 + (1 : Int32)) f9) else (
    mX2_giveBackUnmarked_L2 fu v0 v1 v2 n (v3 + (1 : Int32)) r6.2)))
set_option maxRecDepth 100000 in
set_option maxHeartbeats 4000000 in
theorem wX2_giveBackUnmarked_L2 {c : jS} {sz : Nat} {fu : Nat}  {v0 : Nat} {v1 : Nat} {v2 : Nat} {res : jM} (E : jOk c cX2_giveBackUnmarked 4 RX2 none 3 70)  : ∀ (n : Nat) (v3 : Int32) (f : jM), mX2_giveBackUnmarked_L2 fu  v0 v1 v2 n v3 f = some res → J c (jZ c none res sz) f sz 0 0 2 [(0, .ref v0), (1, .ref v1), (2, .ref v2), (3, .int v3)] [] := by
  intro n
  induction n with
  | zero => intro v3 f h; exact jn0 h
  | succ n ih =>
    intro v3 f h
    rw [mX2_giveBackUnmarked_L2] at h
    refine j_iload_n E 3 dX2_giveBackUnmarked_2 rfl rfl ?_
    refine j_bipush (v := (120 : Int32)) E dX2_giveBackUnmarked_3 (by decide) ?_
    refine j_icmp_ge (tgt := 37) E dX2_giveBackUnmarked_5 (by decide) (fun hc1 => ?_) (fun hc1 => ?_)
    · replace h := jt hc1 h
      cases h
      exact j_vret E dX2_giveBackUnmarked_37
    replace h := jf hc1 h
    refine j_aload_n E 0 dX2_giveBackUnmarked_8 rfl rfl ?_
    obtain ⟨x2, h2, h⟩ := jb h
    refine j_getR E gX2_27 h2 dX2_giveBackUnmarked_9 ?_
    refine j_iload_n E 3 dX2_giveBackUnmarked_12 rfl rfl ?_
    obtain ⟨x3, h3, h⟩ := jb h
    refine j_iald E h3 dX2_giveBackUnmarked_13 ?_
    refine j_if_le (tgt := 31) E dX2_giveBackUnmarked_14 (by decide) (fun hc4 => ?_) (fun hc4 => ?_)
    · replace h := jt hc4 h
      refine j_iinc (v := (v3 + (1 : Int32))) (lv' := [(3, .int (v3 + (1 : Int32))), (0, .ref v0), (1, .ref v1), (2, .ref v2)]) E 3 dX2_giveBackUnmarked_31 rfl rfl (by decide) rfl ?_
      refine j_goto (tgt := 2) E dX2_giveBackUnmarked_34 (by decide) ?_
      exact j_sub [1, 2, 3, 0] rfl (ih _ _ h)
    replace h := jf hc4 h
    refine j_aload_n E 1 dX2_giveBackUnmarked_17 rfl rfl ?_
    refine j_iload_n E 3 dX2_giveBackUnmarked_18 rfl rfl ?_
    obtain ⟨u5, h5, h⟩ := jb h
    obtain ⟨fs5, h5⟩ := chk_spec h5
    obtain ⟨r6, h6, h⟩ := jb h
    refine j_callV (As := [.int v3]) (b := v1) (rest := []) (rc := 0) (rs := 0) E (sX1_has h6) lwX1_has lkX2_124 imX1_has seX1_has rfl h5 (by decide) rfl (Nat.le_of_ble_eq_true rfl) dX2_giveBackUnmarked_19 ?_
    refine j_if_ne (tgt := 31) E dX2_giveBackUnmarked_22 (by decide) (fun hc7 => ?_) (fun hc7 => ?_)
    · replace h := jf hc7 h
      refine j_iinc (v := (v3 + (1 : Int32))) (lv' := [(3, .int (v3 + (1 : Int32))), (0, .ref v0), (1, .ref v1), (2, .ref v2)]) E 3 dX2_giveBackUnmarked_31 rfl rfl (by decide) rfl ?_
      refine j_goto (tgt := 2) E dX2_giveBackUnmarked_34 (by decide) ?_
      exact j_sub [1, 2, 3, 0] rfl (ih _ _ h)
    replace h := jt hc7 h
    refine j_aload_n E 0 dX2_giveBackUnmarked_25 rfl rfl ?_
    refine j_iload_n E 3 dX2_giveBackUnmarked_26 rfl rfl ?_
    refine j_aload_n E 2 dX2_giveBackUnmarked_27 rfl rfl ?_
    obtain ⟨u8, h8, h⟩ := jb h
    obtain ⟨fs8, h8⟩ := chk_spec h8
    obtain ⟨f9, h9, h⟩ := jb h
    refine j_callV (As := [.int v3, .ref v2]) (b := v0) (rest := []) (rc := 0) (rs := 0) E (sX2_giveBack h9) lwX2_giveBack lkX2_127 imX2_giveBack seX2_giveBack rfl h8 (by decide) rfl (Nat.le_of_ble_eq_true rfl) dX2_giveBackUnmarked_28 ?_
    refine j_iinc (v := (v3 + (1 : Int32))) (lv' := [(3, .int (v3 + (1 : Int32))), (0, .ref v0), (1, .ref v1), (2, .ref v2)]) E 3 dX2_giveBackUnmarked_31 rfl rfl (by decide) rfl ?_
    refine j_goto (tgt := 2) E dX2_giveBackUnmarked_34 (by decide) ?_
    exact j_sub [1, 2, 3, 0] rfl (ih _ _ h)
def mX2_giveBackUnmarked (fu : Nat) (f : jM) (v0 : Nat) (v1 : Nat) (v2 : Nat) : Option jM :=
    mX2_giveBackUnmarked_L2 fu v0 v1 v2 fu (0 : Int32) f
set_option maxRecDepth 100000 in
set_option maxHeartbeats 4000000 in
theorem sX2_giveBackUnmarked {l : Launch} {D : jD} {sz : Nat} {fu : Nat} {f : jM} {v0 : Nat} {v1 : Nat} {v2 : Nat} {res : jM} (h : mX2_giveBackUnmarked fu f v0 v1 v2 = some res) : jCt l D yX2_giveBackUnmarked cX2_giveBackUnmarked 4 none 3 70 [.ref v0, .ref v1, .ref v2] f sz 0 0 none res sz := by
  refine j_start (by decide +kernel) (Nat.le_of_ble_eq_true rfl) (fun c hcl hcD hcn E => ?_)
  subst hcl
  subst hcD
  replace E : jOk c cX2_giveBackUnmarked 4 RX2 none 3 70 := E
  show J c (jZ c none res sz) f sz 0 0 0 [(0, .ref v0), (1, .ref v1), (2, .ref v2)] []
  unfold mX2_giveBackUnmarked at h
  refine j_iconst (v := (0 : Int32)) E dX2_giveBackUnmarked_0 (by decide) ?_
  refine j_istore_n (lv' := [(3, .int (0 : Int32)), (0, .ref v0), (1, .ref v1), (2, .ref v2)]) E dX2_giveBackUnmarked_1 rfl (by decide) rfl ?_
  exact j_sub [1, 2, 3, 0] rfl (wX2_giveBackUnmarked_L2 E _ _ _ h)
def mX2_moveTo (f : jM) (v0 : Nat) (v1 : Int32) (v2 : Int32) : Option jM :=
    (rdR 2 f v0 4).bind fun x1 =>
    (ldI 0 f x1 v1).bind fun x2 =>
    if x2 = v2 then (
    some f) else (
    (rdR 2 f v0 4).bind fun x4 =>
    (stI 0 f x4 v1 v2).bind fun f5 =>
    (rdI 2 f5 v0 11).bind fun x6 =>
    (rdR 2 f5 v0 3).bind fun x7 =>
    (ldI 0 f5 x7 v1).bind fun x8 =>
    (wrV 2 f5 v0 11 (.int (x6 + (x8 + (1 : Int32))))).bind fun f9 =>
    some f9)
set_option maxRecDepth 100000 in
set_option maxHeartbeats 4000000 in
theorem sX2_moveTo {l : Launch} {D : jD} {sz : Nat} {f : jM} {v0 : Nat} {v1 : Int32} {v2 : Int32} {res : jM} (h : mX2_moveTo f v0 v1 v2 = some res) : jCt l D yX2_moveTo cX2_moveTo 3 none 0 0 [.ref v0, .int v1, .int v2] f sz 0 0 none res sz := by
  refine j_start (by decide +kernel) (Nat.le_of_ble_eq_true rfl) (fun c hcl hcD hcn E => ?_)
  subst hcl
  subst hcD
  replace E : jOk c cX2_moveTo 3 RX2 none 0 0 := E
  show J c (jZ c none res sz) f sz 0 0 0 [(0, .ref v0), (1, .int v1), (2, .int v2)] []
  unfold mX2_moveTo at h
  refine j_aload_n E 0 dX2_moveTo_0 rfl rfl ?_
  obtain ⟨x1, h1, h⟩ := jb h
  refine j_getR E gX2_21 h1 dX2_moveTo_1 ?_
  refine j_iload_n E 1 dX2_moveTo_4 rfl rfl ?_
  obtain ⟨x2, h2, h⟩ := jb h
  refine j_iald E h2 dX2_moveTo_5 ?_
  refine j_iload_n E 2 dX2_moveTo_6 rfl rfl ?_
  refine j_icmp_eq (tgt := 34) E dX2_moveTo_7 (by decide) (fun hc3 => ?_) (fun hc3 => ?_)
  · replace h := jt hc3 h
    cases h
    exact j_vret E dX2_moveTo_34
  replace h := jf hc3 h
  refine j_aload_n E 0 dX2_moveTo_10 rfl rfl ?_
  obtain ⟨x4, h4, h⟩ := jb h
  refine j_getR E gX2_21 h4 dX2_moveTo_11 ?_
  refine j_iload_n E 1 dX2_moveTo_14 rfl rfl ?_
  refine j_iload_n E 2 dX2_moveTo_15 rfl rfl ?_
  obtain ⟨f5, h5, h⟩ := jb h
  refine j_iast E h5 dX2_moveTo_16 ?_
  refine j_aload_n E 0 dX2_moveTo_17 rfl rfl ?_
  refine j_dup E dX2_moveTo_18 rfl ?_
  obtain ⟨x6, h6, h⟩ := jb h
  refine j_getI E gX2_137 h6 dX2_moveTo_19 ?_
  refine j_aload_n E 0 dX2_moveTo_22 rfl rfl ?_
  obtain ⟨x7, h7, h⟩ := jb h
  refine j_getR E gX2_18 h7 dX2_moveTo_23 ?_
  refine j_iload_n E 1 dX2_moveTo_26 rfl rfl ?_
  obtain ⟨x8, h8, h⟩ := jb h
  refine j_iald E h8 dX2_moveTo_27 ?_
  refine j_iconst (v := (1 : Int32)) E dX2_moveTo_28 (by decide) ?_
  refine j_iadd E dX2_moveTo_29 ?_
  refine j_iadd E dX2_moveTo_30 ?_
  obtain ⟨f9, h9, h⟩ := jb h
  refine j_putV E gpX2_137 h9 rfl rfl dX2_moveTo_31 ?_
  cases h
  exact j_vret E dX2_moveTo_34
def mX2_sweep_L13 (fu : Nat)  (v0 : Nat) (v1 : Nat) (v2 : Int32) : Nat → Int32 → Int32 → Int32 → jM → Option (Int32 × jM)
  | 0, _, _, _, _ => none
  | n + 1, v3, v4, v5, f =>
    if v2 ≤ v5 then (
    (wrV 2 f v0 8 (.int v3)).bind fun f2 =>
    (wrV 2 f2 v0 10 (.int v4)).bind fun f3 =>
    some ((v2 - v3), f3)) else (
    (rdR 2 f v0 7).bind fun x4 =>
    (ldI 0 f x4 v5).bind fun x5 =>
    (rdI 2 f v0 0).bind fun x6 =>
    (mX5_idOf f x6 x5).bind fun r7 =>
    (chk 1 r7.2 v1).bind fun _ =>
    (mX1_has r7.2 v1 r7.1).bind fun r9 =>
    if r9.1 = 0 then (
    (chk 2 r9.2 v0).bind fun _ =>
    (mX2_emptyFields fu r9.2 v0 x5).bind fun f12 =>
    (rdR 2 f12 v0 3).bind fun x13 =>
    (stI 0 f12 x13 x5 (-1 : Int32)).bind fun f14 =>
    mX2_sweep_L13 fu v0 v1 v2 n v3 v4 (v5 + (1 : Int32)) f14) else (
    (chk 2 r9.2 v0).bind fun _ =>
    (mX2_moveTo r9.2 v0 x5 v4).bind fun f16 =>
    (rdR 2 f16 v0 3).bind fun x17 =>
    (ldI 0 f16 x17 x5).bind fun x18 =>
    (rdR 2 f16 v0 7).bind fun x19 =>
    (stI 0 f16 x19 v3 x5).bind fun f20 =>
    mX2_sweep_L13 fu v0 v1 v2 n (v3 + (1 : Int32)) (v4 + (x18 + (1 : Int32))) (v5 + (1 : Int32)) f20))
set_option maxRecDepth 100000 in
set_option maxHeartbeats 4000000 in
theorem wX2_sweep_L13 {c : jS} {sz : Nat} {fu : Nat}  {v0 : Nat} {v1 : Nat} {v2 : Int32} {res : (Int32 × jM)} (E : jOk c cX2_sweep 7 RX2 (some .int) 3 66)  : ∀ (n : Nat) (v3 : Int32) (v4 : Int32) (v5 : Int32) (f : jM), mX2_sweep_L13 fu  v0 v1 v2 n v3 v4 v5 f = some res → J c (jZ c (some (.int res.1)) res.2 sz) f sz 0 0 13 [(0, .ref v0), (1, .ref v1), (2, .int v2), (3, .int v3), (4, .int v4), (5, .int v5)] [] := by
  intro n
  induction n with
  | zero => intro v3 v4 v5 f h; exact jn0 h
  | succ n ih =>
    intro v3 v4 v5 f h
    rw [mX2_sweep_L13] at h
    refine j_iload E 5 dX2_sweep_13 rfl ?_
    refine j_iload_n E 2 dX2_sweep_15 rfl rfl ?_
    refine j_icmp_ge (tgt := 100) E dX2_sweep_16 (by decide) (fun hc1 => ?_) (fun hc1 => ?_)
    · replace h := jt hc1 h
      refine j_aload_n E 0 dX2_sweep_100 rfl rfl ?_
      refine j_iload_n E 3 dX2_sweep_101 rfl rfl ?_
      obtain ⟨f2, h2, h⟩ := jb h
      refine j_putV E gpX2_47 h2 rfl rfl dX2_sweep_102 ?_
      refine j_aload_n E 0 dX2_sweep_105 rfl rfl ?_
      refine j_iload E 4 dX2_sweep_106 rfl ?_
      obtain ⟨f3, h3, h⟩ := jb h
      refine j_putV E gpX2_50 h3 rfl rfl dX2_sweep_108 ?_
      refine j_iload_n E 2 dX2_sweep_111 rfl rfl ?_
      refine j_iload_n E 3 dX2_sweep_112 rfl rfl ?_
      refine j_isub E dX2_sweep_113 ?_
      cases h
      exact j_iret E dX2_sweep_114
    replace h := jf hc1 h
    refine j_aload_n E 0 dX2_sweep_19 rfl rfl ?_
    obtain ⟨x4, h4, h⟩ := jb h
    refine j_getR E gX2_30 h4 dX2_sweep_20 ?_
    refine j_iload E 5 dX2_sweep_23 rfl ?_
    obtain ⟨x5, h5, h⟩ := jb h
    refine j_iald E h5 dX2_sweep_25 ?_
    refine j_istore (lv' := [(6, .int x5), (0, .ref v0), (1, .ref v1), (2, .int v2), (3, .int v3), (4, .int v4), (5, .int v5)]) E dX2_sweep_26 (by decide) rfl ?_
    refine j_aload_n E 2 dX2_sweep_28 rfl rfl ?_
    refine j_aload_n E 1 dX2_sweep_29 rfl rfl ?_
    obtain ⟨x6, h6, h⟩ := jb h
    refine j_getI E gX2_33 h6 dX2_sweep_30 ?_
    refine j_iload E 0 dX2_sweep_33 rfl ?_
    obtain ⟨r7, h7, h⟩ := jb h
    refine j_callS (As := [.int x6, .int x5]) (rest := [.ref v1]) (rc := 0) (rs := 0) E (sX5_idOf h7) lwX5_idOf lkX2_111 stX5_idOf (by decide) rfl (Nat.le_of_ble_eq_true rfl) dX2_sweep_35 ?_
    obtain ⟨u8, h8, h⟩ := jb h
    obtain ⟨fs8, h8⟩ := chk_spec h8
    obtain ⟨r9, h9, h⟩ := jb h
    refine j_callV (As := [.int r7.1]) (b := v1) (rest := []) (rc := 0) (rs := 0) E (sX1_has h9) lwX1_has lkX2_124 imX1_has seX1_has rfl h8 (by decide) rfl (Nat.le_of_ble_eq_true rfl) dX2_sweep_38 ?_
    refine j_if_eq (tgt := 80) E dX2_sweep_41 (by decide) (fun hc10 => ?_) (fun hc10 => ?_)
    · replace h := jt hc10 h
      refine j_aload_n E 1 dX2_sweep_80 rfl rfl ?_
      refine j_iload E 0 dX2_sweep_81 rfl ?_
      obtain ⟨u11, h11, h⟩ := jb h
      obtain ⟨fs11, h11⟩ := chk_spec h11
      obtain ⟨f12, h12, h⟩ := jb h
      refine j_callV (As := [.int x5]) (b := v0) (rest := []) (rc := 0) (rs := 0) E (sX2_emptyFields h12) lwX2_emptyFields lkX2_134 imX2_emptyFields seX2_emptyFields rfl h11 (by decide) rfl (Nat.le_of_ble_eq_true rfl) dX2_sweep_83 ?_
      refine j_aload_n E 1 dX2_sweep_86 rfl rfl ?_
      obtain ⟨x13, h13, h⟩ := jb h
      refine j_getR E gX2_18 h13 dX2_sweep_87 ?_
      refine j_iload E 0 dX2_sweep_90 rfl ?_
      refine j_iconst (v := (-1 : Int32)) E dX2_sweep_92 (by decide) ?_
      obtain ⟨f14, h14, h⟩ := jb h
      refine j_iast E h14 dX2_sweep_93 ?_
      refine j_iinc (v := (v5 + (1 : Int32))) (lv' := [(5, .int (v5 + (1 : Int32))), (6, .int x5), (0, .ref v0), (1, .ref v1), (2, .int v2), (3, .int v3), (4, .int v4)]) E 6 dX2_sweep_94 rfl rfl (by decide) rfl ?_
      refine j_goto (tgt := 13) E dX2_sweep_97 (by decide) ?_
      exact j_sub [2, 3, 4, 5, 6, 0] rfl (ih _ _ _ _ h)
    replace h := jf hc10 h
    refine j_aload_n E 1 dX2_sweep_44 rfl rfl ?_
    refine j_iload E 0 dX2_sweep_45 rfl ?_
    refine j_iload E 5 dX2_sweep_47 rfl ?_
    obtain ⟨u15, h15, h⟩ := jb h
    obtain ⟨fs15, h15⟩ := chk_spec h15
    obtain ⟨f16, h16, h⟩ := jb h
    refine j_callV (As := [.int x5, .int v4]) (b := v0) (rest := []) (rc := 0) (rs := 0) E (sX2_moveTo h16) lwX2_moveTo lkX2_131 imX2_moveTo seX2_moveTo rfl h15 (by decide) rfl (Nat.le_of_ble_eq_true rfl) dX2_sweep_49 ?_
    refine j_iload E 5 dX2_sweep_52 rfl ?_
    refine j_aload_n E 1 dX2_sweep_54 rfl rfl ?_
    obtain ⟨x17, h17, h⟩ := jb h
    refine j_getR E gX2_18 h17 dX2_sweep_55 ?_
    refine j_iload E 0 dX2_sweep_58 rfl ?_
    obtain ⟨x18, h18, h⟩ := jb h
    refine j_iald E h18 dX2_sweep_60 ?_
    refine j_iconst (v := (1 : Int32)) E dX2_sweep_61 (by decide) ?_
    refine j_iadd E dX2_sweep_62 ?_
    refine j_iadd E dX2_sweep_63 ?_
    refine j_istore (lv' := [(4, .int (v4 + (x18 + (1 : Int32)))), (6, .int x5), (0, .ref v0), (1, .ref v1), (2, .int v2), (3, .int v3), (5, .int v5)]) E dX2_sweep_64 (by decide) rfl ?_
    refine j_aload_n E 2 dX2_sweep_66 rfl rfl ?_
    obtain ⟨x19, h19, h⟩ := jb h
    refine j_getR E gX2_30 h19 dX2_sweep_67 ?_
    refine j_iload_n E 5 dX2_sweep_70 rfl rfl ?_
    refine j_iload E 1 dX2_sweep_71 rfl ?_
    obtain ⟨f20, h20, h⟩ := jb h
    refine j_iast E h20 dX2_sweep_73 ?_
    refine j_iinc (v := (v3 + (1 : Int32))) (lv' := [(3, .int (v3 + (1 : Int32))), (4, .int (v4 + (x18 + (1 : Int32)))), (6, .int x5), (0, .ref v0), (1, .ref v1), (2, .int v2), (5, .int v5)]) E 5 dX2_sweep_74 rfl rfl (by decide) rfl ?_
    refine j_goto (tgt := 94) E dX2_sweep_77 (by decide) ?_
    refine j_iinc (v := (v5 + (1 : Int32))) (lv' := [(5, .int (v5 + (1 : Int32))), (3, .int (v3 + (1 : Int32))), (4, .int (v4 + (x18 + (1 : Int32)))), (6, .int x5), (0, .ref v0), (1, .ref v1), (2, .int v2)]) E 6 dX2_sweep_94 rfl rfl (by decide) rfl ?_
    refine j_goto (tgt := 13) E dX2_sweep_97 (by decide) ?_
    exact j_sub [4, 5, 6, 1, 2, 0] rfl (ih _ _ _ _ h)
def mX2_sweep (fu : Nat) (f : jM) (v0 : Nat) (v1 : Nat) : Option (Int32 × jM) :=
    (rdI 2 f v0 8).bind fun x21 =>
    mX2_sweep_L13 fu v0 v1 x21 fu (0 : Int32) (0 : Int32) (0 : Int32) f
set_option maxRecDepth 100000 in
set_option maxHeartbeats 4000000 in
theorem sX2_sweep {l : Launch} {D : jD} {sz : Nat} {fu : Nat} {f : jM} {v0 : Nat} {v1 : Nat} {res : (Int32 × jM)} (h : mX2_sweep fu f v0 v1 = some res) : jCt l D yX2_sweep cX2_sweep 7 (some .int) 3 66 [.ref v0, .ref v1] f sz 0 0 (some (.int res.1)) res.2 sz := by
  refine j_start (by decide +kernel) (Nat.le_of_ble_eq_true rfl) (fun c hcl hcD hcn E => ?_)
  subst hcl
  subst hcD
  replace E : jOk c cX2_sweep 7 RX2 (some .int) 3 66 := E
  show J c (jZ c (some (.int res.1)) res.2 sz) f sz 0 0 0 [(0, .ref v0), (1, .ref v1)] []
  unfold mX2_sweep at h
  refine j_aload_n E 0 dX2_sweep_0 rfl rfl ?_
  obtain ⟨x21, h21, h⟩ := jb h
  refine j_getI E gX2_47 h21 dX2_sweep_1 ?_
  refine j_istore_n (lv' := [(2, .int x21), (0, .ref v0), (1, .ref v1)]) E dX2_sweep_4 rfl (by decide) rfl ?_
  refine j_iconst (v := (0 : Int32)) E dX2_sweep_5 (by decide) ?_
  refine j_istore_n (lv' := [(3, .int (0 : Int32)), (2, .int x21), (0, .ref v0), (1, .ref v1)]) E dX2_sweep_6 rfl (by decide) rfl ?_
  refine j_iconst (v := (0 : Int32)) E dX2_sweep_7 (by decide) ?_
  refine j_istore (lv' := [(4, .int (0 : Int32)), (3, .int (0 : Int32)), (2, .int x21), (0, .ref v0), (1, .ref v1)]) E dX2_sweep_8 (by decide) rfl ?_
  refine j_iconst (v := (0 : Int32)) E dX2_sweep_10 (by decide) ?_
  refine j_istore (lv' := [(5, .int (0 : Int32)), (4, .int (0 : Int32)), (3, .int (0 : Int32)), (2, .int x21), (0, .ref v0), (1, .ref v1)]) E dX2_sweep_11 (by decide) rfl ?_
  exact j_sub [4, 5, 3, 2, 1, 0] rfl (wX2_sweep_L13 E _ _ _ _ _ h)
def mX2_countExports_L4 (fu : Nat)  (v0 : Nat) : Nat → Int32 → Int32 → jM → Option (Int32 × jM)
  | 0, _, _, _ => none
  | n + 1, v1, v2, f =>
    if (24 : Int32) ≤ v2 then (
    some (v1, f)) else (
    (rdR 2 f v0 5).bind fun x2 =>
    (ldI 0 f x2 v2).bind fun x3 =>
    if x3 ≤ 0 then (
    mX2_countExports_L4 fu v0 n v1 (v2 + (1 : Int32)) f) else (
    mX2_countExports_L4 fu v0 n (v1 + (1 : Int32)) (v2 + (1 : Int32)) f))
set_option maxRecDepth 100000 in
set_option maxHeartbeats 4000000 in
theorem wX2_countExports_L4 {c : jS} {sz : Nat} {fu : Nat}  {v0 : Nat} {res : (Int32 × jM)} (E : jOk c cX2_countExports 3 RX2 (some .int) 0 0)  : ∀ (n : Nat) (v1 : Int32) (v2 : Int32) (f : jM), mX2_countExports_L4 fu  v0 n v1 v2 f = some res → J c (jZ c (some (.int res.1)) res.2 sz) f sz 0 0 4 [(0, .ref v0), (1, .int v1), (2, .int v2)] [] := by
  intro n
  induction n with
  | zero => intro v1 v2 f h; exact jn0 h
  | succ n ih =>
    intro v1 v2 f h
    rw [mX2_countExports_L4] at h
    refine j_iload_n E 2 dX2_countExports_4 rfl rfl ?_
    refine j_bipush (v := (24 : Int32)) E dX2_countExports_5 (by decide) ?_
    refine j_icmp_ge (tgt := 28) E dX2_countExports_7 (by decide) (fun hc1 => ?_) (fun hc1 => ?_)
    · replace h := jt hc1 h
      refine j_iload_n E 1 dX2_countExports_28 rfl rfl ?_
      cases h
      exact j_iret E dX2_countExports_29
    replace h := jf hc1 h
    refine j_aload_n E 0 dX2_countExports_10 rfl rfl ?_
    obtain ⟨x2, h2, h⟩ := jb h
    refine j_getR E gX2_24 h2 dX2_countExports_11 ?_
    refine j_iload_n E 2 dX2_countExports_14 rfl rfl ?_
    obtain ⟨x3, h3, h⟩ := jb h
    refine j_iald E h3 dX2_countExports_15 ?_
    refine j_if_le (tgt := 22) E dX2_countExports_16 (by decide) (fun hc4 => ?_) (fun hc4 => ?_)
    · replace h := jt hc4 h
      refine j_iinc (v := (v2 + (1 : Int32))) (lv' := [(2, .int (v2 + (1 : Int32))), (0, .ref v0), (1, .int v1)]) E 2 dX2_countExports_22 rfl rfl (by decide) rfl ?_
      refine j_goto (tgt := 4) E dX2_countExports_25 (by decide) ?_
      exact j_sub [1, 2, 0] rfl (ih _ _ _ h)
    replace h := jf hc4 h
    refine j_iinc (v := (v1 + (1 : Int32))) (lv' := [(1, .int (v1 + (1 : Int32))), (0, .ref v0), (2, .int v2)]) E 1 dX2_countExports_19 rfl rfl (by decide) rfl ?_
    refine j_iinc (v := (v2 + (1 : Int32))) (lv' := [(2, .int (v2 + (1 : Int32))), (1, .int (v1 + (1 : Int32))), (0, .ref v0)]) E 2 dX2_countExports_22 rfl rfl (by decide) rfl ?_
    refine j_goto (tgt := 4) E dX2_countExports_25 (by decide) ?_
    exact j_sub [2, 1, 0] rfl (ih _ _ _ h)
def mX2_countExports (fu : Nat) (f : jM) (v0 : Nat) : Option (Int32 × jM) :=
    mX2_countExports_L4 fu v0 fu (0 : Int32) (0 : Int32) f
set_option maxRecDepth 100000 in
set_option maxHeartbeats 4000000 in
theorem sX2_countExports {l : Launch} {D : jD} {sz : Nat} {fu : Nat} {f : jM} {v0 : Nat} {res : (Int32 × jM)} (h : mX2_countExports fu f v0 = some res) : jCt l D yX2_countExports cX2_countExports 3 (some .int) 0 0 [.ref v0] f sz 0 0 (some (.int res.1)) res.2 sz := by
  refine j_start (by decide +kernel) (Nat.le_of_ble_eq_true rfl) (fun c hcl hcD hcn E => ?_)
  subst hcl
  subst hcD
  replace E : jOk c cX2_countExports 3 RX2 (some .int) 0 0 := E
  show J c (jZ c (some (.int res.1)) res.2 sz) f sz 0 0 0 [(0, .ref v0)] []
  unfold mX2_countExports at h
  refine j_iconst (v := (0 : Int32)) E dX2_countExports_0 (by decide) ?_
  refine j_istore_n (lv' := [(1, .int (0 : Int32)), (0, .ref v0)]) E dX2_countExports_1 rfl (by decide) rfl ?_
  refine j_iconst (v := (0 : Int32)) E dX2_countExports_2 (by decide) ?_
  refine j_istore_n (lv' := [(2, .int (0 : Int32)), (1, .int (0 : Int32)), (0, .ref v0)]) E dX2_countExports_3 rfl (by decide) rfl ?_
  exact j_sub [2, 1, 0] rfl (wX2_countExports_L4 E _ _ _ _ h)
def mX2_countUnmarkedObjects_L4 (fu : Nat)  (v0 : Nat) (v1 : Nat) : Nat → Int32 → Int32 → jM → Option (Int32 × jM)
  | 0, _, _, _ => none
  | n + 1, v2, v3, f =>
    if (24 : Int32) ≤ v3 then (
    some (v2, f)) else (
    (chk 2 f v0).bind fun _ =>
    (mX2_hasObject f v0 v3).bind fun r3 =>
    if r3.1 = 0 then (
    mX2_countUnmarkedObjects_L4 fu v0 v1 n v2 (v3 + (1 : Int32)) r3.2) else (
    (rdI 2 r3.2 v0 0).bind fun x5 =>
    (mX5_idOf r3.2 x5 v3).bind fun r6 =>
    (chk 1 r6.2 v1).bind fun _ =>
    (mX1_has r6.2 v1 r6.1).bind fun r8 =>
    if r8.1 = 0 then (
    mX2_countUnmarkedObjects_L4 fu v0 v1 n (v2 + (1 : Int32)) (v3 + (1 : Int32)) r8.2) else (
    mX2_countUnmarkedObjects_L4 fu v0 v1 n v2 (v3 + (1 : Int32)) r8.2)))
set_option maxRecDepth 100000 in
set_option maxHeartbeats 4000000 in
theorem wX2_countUnmarkedObjects_L4 {c : jS} {sz : Nat} {fu : Nat}  {v0 : Nat} {v1 : Nat} {res : (Int32 × jM)} (E : jOk c cX2_countUnmarkedObjects 4 RX2 (some .int) 1 21)  : ∀ (n : Nat) (v2 : Int32) (v3 : Int32) (f : jM), mX2_countUnmarkedObjects_L4 fu  v0 v1 n v2 v3 f = some res → J c (jZ c (some (.int res.1)) res.2 sz) f sz 0 0 4 [(0, .ref v0), (1, .ref v1), (2, .int v2), (3, .int v3)] [] := by
  intro n
  induction n with
  | zero => intro v2 v3 f h; exact jn0 h
  | succ n ih =>
    intro v2 v3 f h
    rw [mX2_countUnmarkedObjects_L4] at h
    refine j_iload_n E 3 dX2_countUnmarkedObjects_4 rfl rfl ?_
    refine j_bipush (v := (24 : Int32)) E dX2_countUnmarkedObjects_5 (by decide) ?_
    refine j_icmp_ge (tgt := 42) E dX2_countUnmarkedObjects_7 (by decide) (fun hc1 => ?_) (fun hc1 => ?_)
    · replace h := jt hc1 h
      refine j_iload_n E 2 dX2_countUnmarkedObjects_42 rfl rfl ?_
      cases h
      exact j_iret E dX2_countUnmarkedObjects_43
    replace h := jf hc1 h
    refine j_aload_n E 0 dX2_countUnmarkedObjects_10 rfl rfl ?_
    refine j_iload_n E 3 dX2_countUnmarkedObjects_11 rfl rfl ?_
    obtain ⟨u2, h2, h⟩ := jb h
    obtain ⟨fs2, h2⟩ := chk_spec h2
    obtain ⟨r3, h3, h⟩ := jb h
    refine j_callV (As := [.int v3]) (b := v0) (rest := []) (rc := 0) (rs := 0) E (sX2_hasObject h3) lwX2_hasObject lkX2_43 imX2_hasObject seX2_hasObject rfl h2 (by decide) rfl (Nat.le_of_ble_eq_true rfl) dX2_countUnmarkedObjects_12 ?_
    refine j_if_eq (tgt := 36) E dX2_countUnmarkedObjects_15 (by decide) (fun hc4 => ?_) (fun hc4 => ?_)
    · replace h := jt hc4 h
      refine j_iinc (v := (v3 + (1 : Int32))) (lv' := [(3, .int (v3 + (1 : Int32))), (0, .ref v0), (1, .ref v1), (2, .int v2)]) E 3 dX2_countUnmarkedObjects_36 rfl rfl (by decide) rfl ?_
      refine j_goto (tgt := 4) E dX2_countUnmarkedObjects_39 (by decide) ?_
      exact j_sub [1, 2, 3, 0] rfl (ih _ _ _ h)
    replace h := jf hc4 h
    refine j_aload_n E 1 dX2_countUnmarkedObjects_18 rfl rfl ?_
    refine j_aload_n E 0 dX2_countUnmarkedObjects_19 rfl rfl ?_
    obtain ⟨x5, h5, h⟩ := jb h
    refine j_getI E gX2_33 h5 dX2_countUnmarkedObjects_20 ?_
    refine j_iload_n E 3 dX2_countUnmarkedObjects_23 rfl rfl ?_
    obtain ⟨r6, h6, h⟩ := jb h
    refine j_callS (As := [.int x5, .int v3]) (rest := [.ref v1]) (rc := 0) (rs := 0) E (sX5_idOf h6) lwX5_idOf lkX2_111 stX5_idOf (by decide) rfl (Nat.le_of_ble_eq_true rfl) dX2_countUnmarkedObjects_24 ?_
    obtain ⟨u7, h7, h⟩ := jb h
    obtain ⟨fs7, h7⟩ := chk_spec h7
    obtain ⟨r8, h8, h⟩ := jb h
    refine j_callV (As := [.int r6.1]) (b := v1) (rest := []) (rc := 0) (rs := 0) E (sX1_has h8) lwX1_has lkX2_124 imX1_has seX1_has rfl h7 (by decide) rfl (Nat.le_of_ble_eq_true rfl) dX2_countUnmarkedObjects_27 ?_
    refine j_if_ne (tgt := 36) E dX2_countUnmarkedObjects_30 (by decide) (fun hc9 => ?_) (fun hc9 => ?_)
    · replace h := jf hc9 h
      refine j_iinc (v := (v3 + (1 : Int32))) (lv' := [(3, .int (v3 + (1 : Int32))), (0, .ref v0), (1, .ref v1), (2, .int v2)]) E 3 dX2_countUnmarkedObjects_36 rfl rfl (by decide) rfl ?_
      refine j_goto (tgt := 4) E dX2_countUnmarkedObjects_39 (by decide) ?_
      exact j_sub [1, 2, 3, 0] rfl (ih _ _ _ h)
    replace h := jt hc9 h
    refine j_iinc (v := (v2 + (1 : Int32))) (lv' := [(2, .int (v2 + (1 : Int32))), (0, .ref v0), (1, .ref v1), (3, .int v3)]) E 2 dX2_countUnmarkedObjects_33 rfl rfl (by decide) rfl ?_
    refine j_iinc (v := (v3 + (1 : Int32))) (lv' := [(3, .int (v3 + (1 : Int32))), (2, .int (v2 + (1 : Int32))), (0, .ref v0), (1, .ref v1)]) E 3 dX2_countUnmarkedObjects_36 rfl rfl (by decide) rfl ?_
    refine j_goto (tgt := 4) E dX2_countUnmarkedObjects_39 (by decide) ?_
    exact j_sub [2, 3, 1, 0] rfl (ih _ _ _ h)
def mX2_countUnmarkedObjects (fu : Nat) (f : jM) (v0 : Nat) (v1 : Nat) : Option (Int32 × jM) :=
    mX2_countUnmarkedObjects_L4 fu v0 v1 fu (0 : Int32) (0 : Int32) f
set_option maxRecDepth 100000 in
set_option maxHeartbeats 4000000 in
theorem sX2_countUnmarkedObjects {l : Launch} {D : jD} {sz : Nat} {fu : Nat} {f : jM} {v0 : Nat} {v1 : Nat} {res : (Int32 × jM)} (h : mX2_countUnmarkedObjects fu f v0 v1 = some res) : jCt l D yX2_countUnmarkedObjects cX2_countUnmarkedObjects 4 (some .int) 1 21 [.ref v0, .ref v1] f sz 0 0 (some (.int res.1)) res.2 sz := by
  refine j_start (by decide +kernel) (Nat.le_of_ble_eq_true rfl) (fun c hcl hcD hcn E => ?_)
  subst hcl
  subst hcD
  replace E : jOk c cX2_countUnmarkedObjects 4 RX2 (some .int) 1 21 := E
  show J c (jZ c (some (.int res.1)) res.2 sz) f sz 0 0 0 [(0, .ref v0), (1, .ref v1)] []
  unfold mX2_countUnmarkedObjects at h
  refine j_iconst (v := (0 : Int32)) E dX2_countUnmarkedObjects_0 (by decide) ?_
  refine j_istore_n (lv' := [(2, .int (0 : Int32)), (0, .ref v0), (1, .ref v1)]) E dX2_countUnmarkedObjects_1 rfl (by decide) rfl ?_
  refine j_iconst (v := (0 : Int32)) E dX2_countUnmarkedObjects_2 (by decide) ?_
  refine j_istore_n (lv' := [(3, .int (0 : Int32)), (2, .int (0 : Int32)), (0, .ref v0), (1, .ref v1)]) E dX2_countUnmarkedObjects_3 rfl (by decide) rfl ?_
  exact j_sub [2, 3, 1, 0] rfl (wX2_countUnmarkedObjects_L4 E _ _ _ _ h)
