def mX5_send (f : jM) (v0 : Nat) (v1 : Int32) (v2 : Int32) (v3 : Int32) (v4 : Int32) : Option (Int32 × jM) :=
    (chk 5 f v0).bind fun _ =>
    (mX5_isNode f v0 v1).bind fun r2 =>
    if r2.1 = 0 then (
    some ((-1 : Int32), r2.2)) else (
    (mX5_isRegister r2.2 v2).bind fun r4 =>
    if r4.1 = 0 then (
    some ((-1 : Int32), r4.2)) else (
    (chk 5 r4.2 v0).bind fun _ =>
    (mX5_isNode r4.2 v0 v3).bind fun r7 =>
    if r7.1 = 0 then (
    some ((-1 : Int32), r7.2)) else (
    (mX5_isRegister r7.2 v4).bind fun r9 =>
    if r9.1 = 0 then (
    some ((-1 : Int32), r9.2)) else (
    if v3 = v1 then (
    some ((-1 : Int32), r9.2)) else (
    (rdR 5 r9.2 v0 0).bind fun x12 =>
    (ldR 2 r9.2 x12 v1).bind fun x13 =>
    (chk 2 r9.2 x13).bind fun _ =>
    (mX2_holdsObject r9.2 x13 v2).bind fun r15 =>
    if r15.1 = 0 then (
    some ((-1 : Int32), r15.2)) else (
    (rdR 5 r15.2 v0 1).bind fun x17 =>
    (chk 3 r15.2 x17).bind fun _ =>
    (mX3_isFull r15.2 x17).bind fun r19 =>
    if r19.1 = 0 then (
    (rdR 2 r19.2 x13 2).bind fun x21 =>
    (ldI 0 r19.2 x21 v2).bind fun x22 =>
    (chk 2 r19.2 x13).bind fun _ =>
    (mX2_splitOff r19.2 x13 x22).bind fun r24 =>
    if r24.1 = 0 then (
    some ((-2 : Int32), r24.2)) else (
    (rdR 5 r24.2 v0 1).bind fun x26 =>
    (chk 3 r24.2 x26).bind fun _ =>
    (mX3_put r24.2 x26 (1 : Int32) v1 v3 x22 r24.1 v4).bind fun f28 =>
    some (r24.1, f28))) else (
    some ((-1 : Int32), r19.2))))))))
set_option maxRecDepth 100000 in
set_option maxHeartbeats 4000000 in
theorem sX5_send {l : Launch} {D : jD} {sz : Nat} {f : jM} {v0 : Nat} {v1 : Int32} {v2 : Int32} {v3 : Int32} {v4 : Int32} {res : (Int32 × jM)} (h : mX5_send f v0 v1 v2 v3 v4 = some res) : jCt l D yX5_send cX5_send 8 (some .int) 3 65 [.ref v0, .int v1, .int v2, .int v3, .int v4] f sz 0 0 (some (.int res.1)) res.2 sz := by
  refine j_start (by decide +kernel) (Nat.le_of_ble_eq_true rfl) (fun c hcl hcD hcn E => ?_)
  subst hcl
  subst hcD
  replace E : jOk c cX5_send 8 RX5 (some .int) 3 65 := E
  show J c (jZ c (some (.int res.1)) res.2 sz) f sz 0 0 0 [(0, .ref v0), (1, .int v1), (2, .int v2), (3, .int v3), (4, .int v4)] []
  unfold mX5_send at h
  refine j_aload_n E 0 dX5_send_0 rfl rfl ?_
  refine j_iload_n E 1 dX5_send_1 rfl rfl ?_
  obtain ⟨u1, h1, h⟩ := jb h
  obtain ⟨fs1, h1⟩ := chk_spec h1
  obtain ⟨r2, h2, h⟩ := jb h
  refine j_callV (As := [.int v1]) (b := v0) (rest := []) (rc := 0) (rs := 0) E (sX5_isNode h2) lwX5_isNode lkX5_48 imX5_isNode seX5_isNode rfl h1 (by decide) rfl (Nat.le_of_ble_eq_true rfl) dX5_send_2 ?_
  refine j_if_eq (tgt := 36) E dX5_send_5 (by decide) (fun hc3 => ?_) (fun hc3 => ?_)
  · replace h := jt hc3 h
    refine j_iconst (v := (-1 : Int32)) E dX5_send_36 (by decide) ?_
    cases h
    exact j_iret E dX5_send_37
  replace h := jf hc3 h
  refine j_iload_n E 2 dX5_send_8 rfl rfl ?_
  obtain ⟨r4, h4, h⟩ := jb h
  refine j_callS (As := [.int v2]) (rest := []) (rc := 0) (rs := 0) E (sX5_isRegister h4) lwX5_isRegister lkX5_52 stX5_isRegister (by decide) rfl (Nat.le_of_ble_eq_true rfl) dX5_send_9 ?_
  refine j_if_eq (tgt := 36) E dX5_send_12 (by decide) (fun hc5 => ?_) (fun hc5 => ?_)
  · replace h := jt hc5 h
    refine j_iconst (v := (-1 : Int32)) E dX5_send_36 (by decide) ?_
    cases h
    exact j_iret E dX5_send_37
  replace h := jf hc5 h
  refine j_aload_n E 0 dX5_send_15 rfl rfl ?_
  refine j_iload_n E 3 dX5_send_16 rfl rfl ?_
  obtain ⟨u6, h6, h⟩ := jb h
  obtain ⟨fs6, h6⟩ := chk_spec h6
  obtain ⟨r7, h7, h⟩ := jb h
  refine j_callV (As := [.int v3]) (b := v0) (rest := []) (rc := 0) (rs := 0) E (sX5_isNode h7) lwX5_isNode lkX5_48 imX5_isNode seX5_isNode rfl h6 (by decide) rfl (Nat.le_of_ble_eq_true rfl) dX5_send_17 ?_
  refine j_if_eq (tgt := 36) E dX5_send_20 (by decide) (fun hc8 => ?_) (fun hc8 => ?_)
  · replace h := jt hc8 h
    refine j_iconst (v := (-1 : Int32)) E dX5_send_36 (by decide) ?_
    cases h
    exact j_iret E dX5_send_37
  replace h := jf hc8 h
  refine j_iload E 4 dX5_send_23 rfl ?_
  obtain ⟨r9, h9, h⟩ := jb h
  refine j_callS (As := [.int v4]) (rest := []) (rc := 0) (rs := 0) E (sX5_isRegister h9) lwX5_isRegister lkX5_52 stX5_isRegister (by decide) rfl (Nat.le_of_ble_eq_true rfl) dX5_send_25 ?_
  refine j_if_eq (tgt := 36) E dX5_send_28 (by decide) (fun hc10 => ?_) (fun hc10 => ?_)
  · replace h := jt hc10 h
    refine j_iconst (v := (-1 : Int32)) E dX5_send_36 (by decide) ?_
    cases h
    exact j_iret E dX5_send_37
  replace h := jf hc10 h
  refine j_iload_n E 3 dX5_send_31 rfl rfl ?_
  refine j_iload_n E 1 dX5_send_32 rfl rfl ?_
  refine j_icmp_ne (tgt := 38) E dX5_send_33 (by decide) (fun hc11 => ?_) (fun hc11 => ?_)
  · replace h := jf hc11 h
    refine j_aload_n E 0 dX5_send_38 rfl rfl ?_
    obtain ⟨x12, h12, h⟩ := jb h
    refine j_getR E gX5_20 h12 dX5_send_39 ?_
    refine j_iload_n E 1 dX5_send_42 rfl rfl ?_
    obtain ⟨x13, h13, h⟩ := jb h
    refine j_aald E rfl h13 dX5_send_43 ?_
    refine j_astore (lv' := [(5, .ref x13), (0, .ref v0), (1, .int v1), (2, .int v2), (3, .int v3), (4, .int v4)]) E dX5_send_44 (by decide) rfl ?_
    refine j_aload E 0 dX5_send_46 rfl ?_
    refine j_iload_n E 3 dX5_send_48 rfl rfl ?_
    obtain ⟨u14, h14, h⟩ := jb h
    obtain ⟨fs14, h14⟩ := chk_spec h14
    obtain ⟨r15, h15, h⟩ := jb h
    refine j_callV (As := [.int v2]) (b := x13) (rest := []) (rc := 0) (rs := 0) E (sX2_holdsObject h15) lwX2_holdsObject lkX5_83 imX2_holdsObject seX2_holdsObject rfl h14 (by decide) rfl (Nat.le_of_ble_eq_true rfl) dX5_send_49 ?_
    refine j_if_eq (tgt := 65) E dX5_send_52 (by decide) (fun hc16 => ?_) (fun hc16 => ?_)
    · replace h := jt hc16 h
      refine j_iconst (v := (-1 : Int32)) E dX5_send_65 (by decide) ?_
      cases h
      exact j_iret E dX5_send_66
    replace h := jf hc16 h
    refine j_aload_n E 1 dX5_send_55 rfl rfl ?_
    obtain ⟨x17, h17, h⟩ := jb h
    refine j_getR E gX5_30 h17 dX5_send_56 ?_
    obtain ⟨u18, h18, h⟩ := jb h
    obtain ⟨fs18, h18⟩ := chk_spec h18
    obtain ⟨r19, h19, h⟩ := jb h
    refine j_callV (As := []) (b := x17) (rest := []) (rc := 0) (rs := 0) E (sX3_isFull h19) lwX3_isFull lkX5_86 imX3_isFull seX3_isFull rfl h18 (by decide) rfl (Nat.le_of_ble_eq_true rfl) dX5_send_59 ?_
    refine j_if_eq (tgt := 67) E dX5_send_62 (by decide) (fun hc20 => ?_) (fun hc20 => ?_)
    · replace h := jt hc20 h
      refine j_aload E 0 dX5_send_67 rfl ?_
      obtain ⟨x21, h21, h⟩ := jb h
      refine j_getR E gX5_90 h21 dX5_send_69 ?_
      refine j_iload_n E 3 dX5_send_72 rfl rfl ?_
      obtain ⟨x22, h22, h⟩ := jb h
      refine j_iald E h22 dX5_send_73 ?_
      refine j_istore (lv' := [(6, .int x22), (5, .ref x13), (0, .ref v0), (1, .int v1), (2, .int v2), (3, .int v3), (4, .int v4)]) E dX5_send_74 (by decide) rfl ?_
      refine j_aload E 1 dX5_send_76 rfl ?_
      refine j_iload E 0 dX5_send_78 rfl ?_
      obtain ⟨u23, h23, h⟩ := jb h
      obtain ⟨fs23, h23⟩ := chk_spec h23
      obtain ⟨r24, h24, h⟩ := jb h
      refine j_callV (As := [.int x22]) (b := x13) (rest := []) (rc := 0) (rs := 0) E (sX2_splitOff h24) lwX2_splitOff lkX5_94 imX2_splitOff seX2_splitOff rfl h23 (by decide) rfl (Nat.le_of_ble_eq_true rfl) dX5_send_80 ?_
      refine j_istore (lv' := [(7, .int r24.1), (6, .int x22), (5, .ref x13), (0, .ref v0), (1, .int v1), (2, .int v2), (3, .int v3), (4, .int v4)]) E dX5_send_83 (by decide) rfl ?_
      refine j_iload E 0 dX5_send_85 rfl ?_
      refine j_if_ne (tgt := 93) E dX5_send_87 (by decide) (fun hc25 => ?_) (fun hc25 => ?_)
      · replace h := jf hc25 h
        refine j_aload_n E 3 dX5_send_93 rfl rfl ?_
        obtain ⟨x26, h26, h⟩ := jb h
        refine j_getR E gX5_30 h26 dX5_send_94 ?_
        refine j_iconst (v := (1 : Int32)) E dX5_send_97 (by decide) ?_
        refine j_iload_n E 4 dX5_send_98 rfl rfl ?_
        refine j_iload_n E 6 dX5_send_99 rfl rfl ?_
        refine j_iload E 1 dX5_send_100 rfl ?_
        refine j_iload E 0 dX5_send_102 rfl ?_
        refine j_iload E 7 dX5_send_104 rfl ?_
        obtain ⟨u27, h27, h⟩ := jb h
        obtain ⟨fs27, h27⟩ := chk_spec h27
        obtain ⟨f28, h28, h⟩ := jb h
        refine j_callV (As := [.int (1 : Int32), .int v1, .int v3, .int x22, .int r24.1, .int v4]) (b := x26) (rest := []) (rc := 0) (rs := 0) E (sX3_put h28) lwX3_put lkX5_98 imX3_put seX3_put rfl h27 (by decide) rfl (Nat.le_of_ble_eq_true rfl) dX5_send_106 ?_
        refine j_iload E 0 dX5_send_109 rfl ?_
        cases h
        exact j_iret E dX5_send_111
      replace h := jt hc25 h
      refine j_bipush (v := (-2 : Int32)) E dX5_send_90 (by decide) ?_
      cases h
      exact j_iret E dX5_send_92
    replace h := jf hc20 h
    refine j_iconst (v := (-1 : Int32)) E dX5_send_65 (by decide) ?_
    cases h
    exact j_iret E dX5_send_66
  replace h := jt hc11 h
  refine j_iconst (v := (-1 : Int32)) E dX5_send_36 (by decide) ?_
  cases h
  exact j_iret E dX5_send_37
def mX5_ask (f : jM) (v0 : Nat) (v1 : Int32) (v2 : Int32) : Option (Int32 × jM) :=
    (chk 5 f v0).bind fun _ =>
    (mX5_isNode f v0 v1).bind fun r2 =>
    if r2.1 = 0 then (
    some ((0 : Int32), r2.2)) else (
    (mX5_isRegister r2.2 v2).bind fun r4 =>
    if r4.1 = 0 then (
    some ((0 : Int32), r4.2)) else (
    (rdR 5 r4.2 v0 0).bind fun x6 =>
    (ldR 2 r4.2 x6 v1).bind fun x7 =>
    (rdR 2 r4.2 x7 1).bind fun x8 =>
    (ldI 0 r4.2 x8 v2).bind fun x9 =>
    if x9 = (3 : Int32) then (
    (rdR 5 r4.2 v0 1).bind fun x11 =>
    (chk 3 r4.2 x11).bind fun _ =>
    (mX3_isFull r4.2 x11).bind fun r13 =>
    if r13.1 = 0 then (
    (rdR 5 r13.2 v0 0).bind fun x15 =>
    (ldR 2 r13.2 x15 v1).bind fun x16 =>
    (rdR 2 r13.2 x16 2).bind fun x17 =>
    (ldI 0 r13.2 x17 v2).bind fun x18 =>
    (rdR 5 r13.2 v0 1).bind fun x19 =>
    (mX5_nodeOf r13.2 x18).bind fun r20 =>
    (chk 3 r20.2 x19).bind fun _ =>
    (mX3_put r20.2 x19 (3 : Int32) v1 r20.1 x18 (0 : Int32) (-1 : Int32)).bind fun f22 =>
    some ((1 : Int32), f22)) else (
    some ((0 : Int32), r13.2))) else (
    some ((0 : Int32), r4.2))))
set_option maxRecDepth 100000 in
set_option maxHeartbeats 4000000 in
theorem sX5_ask {l : Launch} {D : jD} {sz : Nat} {f : jM} {v0 : Nat} {v1 : Int32} {v2 : Int32} {res : (Int32 × jM)} (h : mX5_ask f v0 v1 v2 = some res) : jCt l D yX5_ask cX5_ask 4 (some .boolean) 2 47 [.ref v0, .int v1, .int v2] f sz 0 0 (some (.int res.1)) res.2 sz := by
  refine j_start (by decide +kernel) (Nat.le_of_ble_eq_true rfl) (fun c hcl hcD hcn E => ?_)
  subst hcl
  subst hcD
  replace E : jOk c cX5_ask 4 RX5 (some .boolean) 2 47 := E
  show J c (jZ c (some (.int res.1)) res.2 sz) f sz 0 0 0 [(0, .ref v0), (1, .int v1), (2, .int v2)] []
  unfold mX5_ask at h
  refine j_aload_n E 0 dX5_ask_0 rfl rfl ?_
  refine j_iload_n E 1 dX5_ask_1 rfl rfl ?_
  obtain ⟨u1, h1, h⟩ := jb h
  obtain ⟨fs1, h1⟩ := chk_spec h1
  obtain ⟨r2, h2, h⟩ := jb h
  refine j_callV (As := [.int v1]) (b := v0) (rest := []) (rc := 0) (rs := 0) E (sX5_isNode h2) lwX5_isNode lkX5_48 imX5_isNode seX5_isNode rfl h1 (by decide) rfl (Nat.le_of_ble_eq_true rfl) dX5_ask_2 ?_
  refine j_if_eq (tgt := 40) E dX5_ask_5 (by decide) (fun hc3 => ?_) (fun hc3 => ?_)
  · replace h := jt hc3 h
    refine j_iconst (v := (0 : Int32)) E dX5_ask_40 (by decide) ?_
    cases h
    exact j_zret (v := (0 : Int32)) E (by decide +kernel) dX5_ask_41
  replace h := jf hc3 h
  refine j_iload_n E 2 dX5_ask_8 rfl rfl ?_
  obtain ⟨r4, h4, h⟩ := jb h
  refine j_callS (As := [.int v2]) (rest := []) (rc := 0) (rs := 0) E (sX5_isRegister h4) lwX5_isRegister lkX5_52 stX5_isRegister (by decide) rfl (Nat.le_of_ble_eq_true rfl) dX5_ask_9 ?_
  refine j_if_eq (tgt := 40) E dX5_ask_12 (by decide) (fun hc5 => ?_) (fun hc5 => ?_)
  · replace h := jt hc5 h
    refine j_iconst (v := (0 : Int32)) E dX5_ask_40 (by decide) ?_
    cases h
    exact j_zret (v := (0 : Int32)) E (by decide +kernel) dX5_ask_41
  replace h := jf hc5 h
  refine j_aload_n E 0 dX5_ask_15 rfl rfl ?_
  obtain ⟨x6, h6, h⟩ := jb h
  refine j_getR E gX5_20 h6 dX5_ask_16 ?_
  refine j_iload_n E 1 dX5_ask_19 rfl rfl ?_
  obtain ⟨x7, h7, h⟩ := jb h
  refine j_aald E rfl h7 dX5_ask_20 ?_
  obtain ⟨x8, h8, h⟩ := jb h
  refine j_getR E gX5_102 h8 dX5_ask_21 ?_
  refine j_iload_n E 2 dX5_ask_24 rfl rfl ?_
  obtain ⟨x9, h9, h⟩ := jb h
  refine j_iald E h9 dX5_ask_25 ?_
  refine j_iconst (v := (3 : Int32)) E dX5_ask_26 (by decide) ?_
  refine j_icmp_ne (tgt := 40) E dX5_ask_27 (by decide) (fun hc10 => ?_) (fun hc10 => ?_)
  · replace h := jf hc10 h
    refine j_iconst (v := (0 : Int32)) E dX5_ask_40 (by decide) ?_
    cases h
    exact j_zret (v := (0 : Int32)) E (by decide +kernel) dX5_ask_41
  replace h := jt hc10 h
  refine j_aload_n E 0 dX5_ask_30 rfl rfl ?_
  obtain ⟨x11, h11, h⟩ := jb h
  refine j_getR E gX5_30 h11 dX5_ask_31 ?_
  obtain ⟨u12, h12, h⟩ := jb h
  obtain ⟨fs12, h12⟩ := chk_spec h12
  obtain ⟨r13, h13, h⟩ := jb h
  refine j_callV (As := []) (b := x11) (rest := []) (rc := 0) (rs := 0) E (sX3_isFull h13) lwX3_isFull lkX5_86 imX3_isFull seX3_isFull rfl h12 (by decide) rfl (Nat.le_of_ble_eq_true rfl) dX5_ask_34 ?_
  refine j_if_eq (tgt := 42) E dX5_ask_37 (by decide) (fun hc14 => ?_) (fun hc14 => ?_)
  · replace h := jt hc14 h
    refine j_aload_n E 0 dX5_ask_42 rfl rfl ?_
    obtain ⟨x15, h15, h⟩ := jb h
    refine j_getR E gX5_20 h15 dX5_ask_43 ?_
    refine j_iload_n E 1 dX5_ask_46 rfl rfl ?_
    obtain ⟨x16, h16, h⟩ := jb h
    refine j_aald E rfl h16 dX5_ask_47 ?_
    obtain ⟨x17, h17, h⟩ := jb h
    refine j_getR E gX5_90 h17 dX5_ask_48 ?_
    refine j_iload_n E 2 dX5_ask_51 rfl rfl ?_
    obtain ⟨x18, h18, h⟩ := jb h
    refine j_iald E h18 dX5_ask_52 ?_
    refine j_istore_n (lv' := [(3, .int x18), (0, .ref v0), (1, .int v1), (2, .int v2)]) E dX5_ask_53 rfl (by decide) rfl ?_
    refine j_aload_n E 1 dX5_ask_54 rfl rfl ?_
    obtain ⟨x19, h19, h⟩ := jb h
    refine j_getR E gX5_30 h19 dX5_ask_55 ?_
    refine j_iconst (v := (3 : Int32)) E dX5_ask_58 (by decide) ?_
    refine j_iload_n E 2 dX5_ask_59 rfl rfl ?_
    refine j_iload_n E 0 dX5_ask_60 rfl rfl ?_
    obtain ⟨r20, h20, h⟩ := jb h
    refine j_callS (As := [.int x18]) (rest := [.int v1, .int (3 : Int32), .ref x19]) (rc := 0) (rs := 0) E (sX5_nodeOf h20) lwX5_nodeOf lkX5_105 stX5_nodeOf (by decide) rfl (Nat.le_of_ble_eq_true rfl) dX5_ask_61 ?_
    refine j_iload_n E 0 dX5_ask_64 rfl rfl ?_
    refine j_iconst (v := (0 : Int32)) E dX5_ask_65 (by decide) ?_
    refine j_iconst (v := (-1 : Int32)) E dX5_ask_66 (by decide) ?_
    obtain ⟨u21, h21, h⟩ := jb h
    obtain ⟨fs21, h21⟩ := chk_spec h21
    obtain ⟨f22, h22, h⟩ := jb h
    refine j_callV (As := [.int (3 : Int32), .int v1, .int r20.1, .int x18, .int (0 : Int32), .int (-1 : Int32)]) (b := x19) (rest := []) (rc := 0) (rs := 0) E (sX3_put h22) lwX3_put lkX5_98 imX3_put seX3_put rfl h21 (by decide) rfl (Nat.le_of_ble_eq_true rfl) dX5_ask_67 ?_
    refine j_iconst (v := (1 : Int32)) E dX5_ask_70 (by decide) ?_
    cases h
    exact j_zret (v := (1 : Int32)) E (by decide +kernel) dX5_ask_71
  replace h := jf hc14 h
  refine j_iconst (v := (0 : Int32)) E dX5_ask_40 (by decide) ?_
  cases h
  exact j_zret (v := (0 : Int32)) E (by decide +kernel) dX5_ask_41
def mX5_takeGrant (f : jM) (v0 : Nat) (v1 : Int32) (v2 : Int32) (v3 : Int32) : Option jM :=
    (rdR 5 f v0 0).bind fun x1 =>
    (ldR 2 f x1 v1).bind fun x2 =>
    (chk 2 f x2).bind fun _ =>
    (mX2_weightOfImport f x2 v2).bind fun r4 =>
    if r4.1 ≤ 0 then (
    (rdR 5 r4.2 v0 1).bind fun x6 =>
    (mX5_nodeOf r4.2 v2).bind fun r7 =>
    (chk 3 r7.2 x6).bind fun _ =>
    (mX3_put r7.2 x6 (2 : Int32) v1 r7.1 v2 v3 (-1 : Int32)).bind fun f9 =>
    some f9) else (
    (rdR 5 r4.2 v0 0).bind fun x10 =>
    (ldR 2 r4.2 x10 v1).bind fun x11 =>
    (chk 2 r4.2 x11).bind fun _ =>
    (mX2_changeWeight r4.2 x11 v2 v3).bind fun f13 =>
    some f13)
set_option maxRecDepth 100000 in
set_option maxHeartbeats 4000000 in
theorem sX5_takeGrant {l : Launch} {D : jD} {sz : Nat} {f : jM} {v0 : Nat} {v1 : Int32} {v2 : Int32} {v3 : Int32} {res : jM} (h : mX5_takeGrant f v0 v1 v2 v3 = some res) : jCt l D yX5_takeGrant cX5_takeGrant 4 none 2 47 [.ref v0, .int v1, .int v2, .int v3] f sz 0 0 none res sz := by
  refine j_start (by decide +kernel) (Nat.le_of_ble_eq_true rfl) (fun c hcl hcD hcn E => ?_)
  subst hcl
  subst hcD
  replace E : jOk c cX5_takeGrant 4 RX5 none 2 47 := E
  show J c (jZ c none res sz) f sz 0 0 0 [(0, .ref v0), (1, .int v1), (2, .int v2), (3, .int v3)] []
  unfold mX5_takeGrant at h
  refine j_aload_n E 0 dX5_takeGrant_0 rfl rfl ?_
  obtain ⟨x1, h1, h⟩ := jb h
  refine j_getR E gX5_20 h1 dX5_takeGrant_1 ?_
  refine j_iload_n E 1 dX5_takeGrant_4 rfl rfl ?_
  obtain ⟨x2, h2, h⟩ := jb h
  refine j_aald E rfl h2 dX5_takeGrant_5 ?_
  refine j_iload_n E 2 dX5_takeGrant_6 rfl rfl ?_
  obtain ⟨u3, h3, h⟩ := jb h
  obtain ⟨fs3, h3⟩ := chk_spec h3
  obtain ⟨r4, h4, h⟩ := jb h
  refine j_callV (As := [.int v2]) (b := x2) (rest := []) (rc := 0) (rs := 0) E (sX2_weightOfImport h4) lwX2_weightOfImport lkX5_215 imX2_weightOfImport seX2_weightOfImport rfl h3 (by decide) rfl (Nat.le_of_ble_eq_true rfl) dX5_takeGrant_7 ?_
  refine j_if_le (tgt := 27) E dX5_takeGrant_10 (by decide) (fun hc5 => ?_) (fun hc5 => ?_)
  · replace h := jt hc5 h
    refine j_aload_n E 0 dX5_takeGrant_27 rfl rfl ?_
    obtain ⟨x6, h6, h⟩ := jb h
    refine j_getR E gX5_30 h6 dX5_takeGrant_28 ?_
    refine j_iconst (v := (2 : Int32)) E dX5_takeGrant_31 (by decide) ?_
    refine j_iload_n E 1 dX5_takeGrant_32 rfl rfl ?_
    refine j_iload_n E 2 dX5_takeGrant_33 rfl rfl ?_
    obtain ⟨r7, h7, h⟩ := jb h
    refine j_callS (As := [.int v2]) (rest := [.int v1, .int (2 : Int32), .ref x6]) (rc := 0) (rs := 0) E (sX5_nodeOf h7) lwX5_nodeOf lkX5_105 stX5_nodeOf (by decide) rfl (Nat.le_of_ble_eq_true rfl) dX5_takeGrant_34 ?_
    refine j_iload_n E 2 dX5_takeGrant_37 rfl rfl ?_
    refine j_iload_n E 3 dX5_takeGrant_38 rfl rfl ?_
    refine j_iconst (v := (-1 : Int32)) E dX5_takeGrant_39 (by decide) ?_
    obtain ⟨u8, h8, h⟩ := jb h
    obtain ⟨fs8, h8⟩ := chk_spec h8
    obtain ⟨f9, h9, h⟩ := jb h
    refine j_callV (As := [.int (2 : Int32), .int v1, .int r7.1, .int v2, .int v3, .int (-1 : Int32)]) (b := x6) (rest := []) (rc := 0) (rs := 0) E (sX3_put h9) lwX3_put lkX5_98 imX3_put seX3_put rfl h8 (by decide) rfl (Nat.le_of_ble_eq_true rfl) dX5_takeGrant_40 ?_
    cases h
    exact j_vret E dX5_takeGrant_43
  replace h := jf hc5 h
  refine j_aload_n E 0 dX5_takeGrant_13 rfl rfl ?_
  obtain ⟨x10, h10, h⟩ := jb h
  refine j_getR E gX5_20 h10 dX5_takeGrant_14 ?_
  refine j_iload_n E 1 dX5_takeGrant_17 rfl rfl ?_
  obtain ⟨x11, h11, h⟩ := jb h
  refine j_aald E rfl h11 dX5_takeGrant_18 ?_
  refine j_iload_n E 2 dX5_takeGrant_19 rfl rfl ?_
  refine j_iload_n E 3 dX5_takeGrant_20 rfl rfl ?_
  obtain ⟨u12, h12, h⟩ := jb h
  obtain ⟨fs12, h12⟩ := chk_spec h12
  obtain ⟨f13, h13, h⟩ := jb h
  refine j_callV (As := [.int v2, .int v3]) (b := x11) (rest := []) (rc := 0) (rs := 0) E (sX2_changeWeight h13) lwX2_changeWeight lkX5_231 imX2_changeWeight seX2_changeWeight rfl h12 (by decide) rfl (Nat.le_of_ble_eq_true rfl) dX5_takeGrant_21 ?_
  refine j_goto (tgt := 43) E dX5_takeGrant_24 (by decide) ?_
  cases h
  exact j_vret E dX5_takeGrant_43
def mX5_come_B67 (fu : Nat)  (v0 : Nat) (v1 : Int32) (v2 : Int32) (v3 : Nat)  (f : jM) : Option (Int32 × jM) :=
    (rdI 0 f v3 0).bind fun x1 =>
    (rdI 0 f v3 3).bind fun x2 =>
    (rdI 0 f v3 4).bind fun x3 =>
    (rdI 0 f v3 5).bind fun x4 =>
    (rdR 5 f v0 1).bind fun x5 =>
    (chk 3 f x5).bind fun _ =>
    (mX3_remove fu f x5 v3).bind fun f7 =>
    if x1 = (1 : Int32) then (
    (rdR 5 f7 v0 0).bind fun x24 =>
    (ldR 2 f7 x24 v2).bind fun x25 =>
    (chk 2 f7 x25).bind fun _ =>
    (mX2_takeRef f7 x25 x2 x3 x4).bind fun f27 =>
    some (x1, f27)) else (
    if x1 = (2 : Int32) then (
    (rdR 5 f7 v0 0).bind fun x20 =>
    (ldR 2 f7 x20 v2).bind fun x21 =>
    (chk 2 f7 x21).bind fun _ =>
    (mX2_changeTotal f7 x21 x2 (-x3)).bind fun f23 =>
    some (x1, f23)) else (
    if x1 = (3 : Int32) then (
    (rdR 5 f7 v0 0).bind fun x13 =>
    (ldR 2 f7 x13 v2).bind fun x14 =>
    (chk 2 f7 x14).bind fun _ =>
    (mX2_changeTotal f7 x14 x2 (64 : Int32)).bind fun f16 =>
    (rdR 5 f16 v0 1).bind fun x17 =>
    (chk 3 f16 x17).bind fun _ =>
    (mX3_put f16 x17 (4 : Int32) v2 v1 x2 (64 : Int32) (-1 : Int32)).bind fun f19 =>
    some (x1, f19)) else (
    (chk 5 f7 v0).bind fun _ =>
    (mX5_takeGrant f7 v0 v2 x2 x3).bind fun f12 =>
    some (x1, f12))))
set_option maxRecDepth 100000 in
set_option maxHeartbeats 4000000 in
theorem wX5_come_B67 {c : jS} {sz : Nat} {fu : Nat}  {v0 : Nat} {v1 : Int32} {v2 : Int32} {v3 : Nat}  {f : jM} {res : (Int32 × jM)} (E : jOk c cX5_come 8 RX5 (some .int) 3 70)  (h : mX5_come_B67 fu  v0 v1 v2 v3  f = some res) : J c (jZ c (some (.int res.1)) res.2 sz) f sz 0 0 67 [(0, .ref v0), (1, .int v1), (2, .int v2), (3, .ref v3)] [] := by
  unfold mX5_come_B67 at h
  refine j_aload_n E 3 dX5_come_67 rfl rfl ?_
  obtain ⟨x1, h1, h⟩ := jb h
  refine j_getI E gX5_112 h1 dX5_come_68 ?_
  refine j_istore (lv' := [(4, .int x1), (0, .ref v0), (1, .int v1), (2, .int v2), (3, .ref v3)]) E dX5_come_71 (by decide) rfl ?_
  refine j_aload_n E 4 dX5_come_73 rfl rfl ?_
  obtain ⟨x2, h2, h⟩ := jb h
  refine j_getI E gX5_118 h2 dX5_come_74 ?_
  refine j_istore (lv' := [(5, .int x2), (4, .int x1), (0, .ref v0), (1, .int v1), (2, .int v2), (3, .ref v3)]) E dX5_come_77 (by decide) rfl ?_
  refine j_aload_n E 5 dX5_come_79 rfl rfl ?_
  obtain ⟨x3, h3, h⟩ := jb h
  refine j_getI E gX5_124 h3 dX5_come_80 ?_
  refine j_istore (lv' := [(6, .int x3), (5, .int x2), (4, .int x1), (0, .ref v0), (1, .int v1), (2, .int v2), (3, .ref v3)]) E dX5_come_83 (by decide) rfl ?_
  refine j_aload_n E 6 dX5_come_85 rfl rfl ?_
  obtain ⟨x4, h4, h⟩ := jb h
  refine j_getI E gX5_127 h4 dX5_come_86 ?_
  refine j_istore (lv' := [(7, .int x4), (6, .int x3), (5, .int x2), (4, .int x1), (0, .ref v0), (1, .int v1), (2, .int v2), (3, .ref v3)]) E dX5_come_89 (by decide) rfl ?_
  refine j_aload_n E 4 dX5_come_91 rfl rfl ?_
  obtain ⟨x5, h5, h⟩ := jb h
  refine j_getR E gX5_30 h5 dX5_come_92 ?_
  refine j_aload_n E 7 dX5_come_95 rfl rfl ?_
  obtain ⟨u6, h6, h⟩ := jb h
  obtain ⟨fs6, h6⟩ := chk_spec h6
  obtain ⟨f7, h7, h⟩ := jb h
  refine j_callV (As := [.ref v3]) (b := x5) (rest := []) (rc := 0) (rs := 0) E (sX3_remove h7) lwX3_remove lkX5_130 imX3_remove seX3_remove rfl h6 (by decide) rfl (Nat.le_of_ble_eq_true rfl) dX5_come_96 ?_
  refine j_iload E 3 dX5_come_99 rfl ?_
  refine j_iconst (v := (1 : Int32)) E dX5_come_101 (by decide) ?_
  refine j_icmp_ne (tgt := 123) E dX5_come_102 (by decide) (fun hc8 => ?_) (fun hc8 => ?_)
  · replace h := jf hc8 h
    refine j_iload E 3 dX5_come_123 rfl ?_
    refine j_iconst (v := (2 : Int32)) E dX5_come_125 (by decide) ?_
    refine j_icmp_ne (tgt := 146) E dX5_come_126 (by decide) (fun hc9 => ?_) (fun hc9 => ?_)
    · replace h := jf hc9 h
      refine j_iload E 3 dX5_come_146 rfl ?_
      refine j_iconst (v := (3 : Int32)) E dX5_come_148 (by decide) ?_
      refine j_icmp_ne (tgt := 183) E dX5_come_149 (by decide) (fun hc10 => ?_) (fun hc10 => ?_)
      · replace h := jf hc10 h
        refine j_aload_n E 4 dX5_come_183 rfl rfl ?_
        refine j_iload_n E 6 dX5_come_184 rfl rfl ?_
        refine j_iload E 2 dX5_come_185 rfl ?_
        refine j_iload E 1 dX5_come_187 rfl ?_
        obtain ⟨u11, h11, h⟩ := jb h
        obtain ⟨fs11, h11⟩ := chk_spec h11
        obtain ⟨f12, h12, h⟩ := jb h
        refine j_callV (As := [.int v2, .int x2, .int x3]) (b := v0) (rest := []) (rc := 0) (rs := 0) E (sX5_takeGrant h12) lwX5_takeGrant lkX5_140 imX5_takeGrant seX5_takeGrant rfl h11 (by decide) rfl (Nat.le_of_ble_eq_true rfl) dX5_come_189 ?_
        refine j_iload E 3 dX5_come_192 rfl ?_
        cases h
        exact j_iret E dX5_come_194
      replace h := jt hc10 h
      refine j_aload_n E 4 dX5_come_152 rfl rfl ?_
      obtain ⟨x13, h13, h⟩ := jb h
      refine j_getR E gX5_20 h13 dX5_come_153 ?_
      refine j_iload_n E 6 dX5_come_156 rfl rfl ?_
      obtain ⟨x14, h14, h⟩ := jb h
      refine j_aald E rfl h14 dX5_come_157 ?_
      refine j_iload E 2 dX5_come_158 rfl ?_
      refine j_bipush (v := (64 : Int32)) E dX5_come_160 (by decide) ?_
      obtain ⟨u15, h15, h⟩ := jb h
      obtain ⟨fs15, h15⟩ := chk_spec h15
      obtain ⟨f16, h16, h⟩ := jb h
      refine j_callV (As := [.int x2, .int (64 : Int32)]) (b := x14) (rest := []) (rc := 0) (rs := 0) E (sX2_changeTotal h16) lwX2_changeTotal lkX5_137 imX2_changeTotal seX2_changeTotal rfl h15 (by decide) rfl (Nat.le_of_ble_eq_true rfl) dX5_come_162 ?_
      refine j_aload_n E 4 dX5_come_165 rfl rfl ?_
      obtain ⟨x17, h17, h⟩ := jb h
      refine j_getR E gX5_30 h17 dX5_come_166 ?_
      refine j_iconst (v := (4 : Int32)) E dX5_come_169 (by decide) ?_
      refine j_iload_n E 6 dX5_come_170 rfl rfl ?_
      refine j_iload_n E 5 dX5_come_171 rfl rfl ?_
      refine j_iload E 2 dX5_come_172 rfl ?_
      refine j_bipush (v := (64 : Int32)) E dX5_come_174 (by decide) ?_
      refine j_iconst (v := (-1 : Int32)) E dX5_come_176 (by decide) ?_
      obtain ⟨u18, h18, h⟩ := jb h
      obtain ⟨fs18, h18⟩ := chk_spec h18
      obtain ⟨f19, h19, h⟩ := jb h
      refine j_callV (As := [.int (4 : Int32), .int v2, .int v1, .int x2, .int (64 : Int32), .int (-1 : Int32)]) (b := x17) (rest := []) (rc := 0) (rs := 0) E (sX3_put h19) lwX3_put lkX5_98 imX3_put seX3_put rfl h18 (by decide) rfl (Nat.le_of_ble_eq_true rfl) dX5_come_177 ?_
      refine j_goto (tgt := 192) E dX5_come_180 (by decide) ?_
      refine j_iload E 3 dX5_come_192 rfl ?_
      cases h
      exact j_iret E dX5_come_194
    replace h := jt hc9 h
    refine j_aload_n E 4 dX5_come_129 rfl rfl ?_
    obtain ⟨x20, h20, h⟩ := jb h
    refine j_getR E gX5_20 h20 dX5_come_130 ?_
    refine j_iload_n E 6 dX5_come_133 rfl rfl ?_
    obtain ⟨x21, h21, h⟩ := jb h
    refine j_aald E rfl h21 dX5_come_134 ?_
    refine j_iload E 2 dX5_come_135 rfl ?_
    refine j_iload E 1 dX5_come_137 rfl ?_
    refine j_ineg E dX5_come_139 ?_
    obtain ⟨u22, h22, h⟩ := jb h
    obtain ⟨fs22, h22⟩ := chk_spec h22
    obtain ⟨f23, h23, h⟩ := jb h
    refine j_callV (As := [.int x2, .int (-x3)]) (b := x21) (rest := []) (rc := 0) (rs := 0) E (sX2_changeTotal h23) lwX2_changeTotal lkX5_137 imX2_changeTotal seX2_changeTotal rfl h22 (by decide) rfl (Nat.le_of_ble_eq_true rfl) dX5_come_140 ?_
    refine j_goto (tgt := 192) E dX5_come_143 (by decide) ?_
    refine j_iload E 3 dX5_come_192 rfl ?_
    cases h
    exact j_iret E dX5_come_194
  replace h := jt hc8 h
  refine j_aload_n E 4 dX5_come_105 rfl rfl ?_
  obtain ⟨x24, h24, h⟩ := jb h
  refine j_getR E gX5_20 h24 dX5_come_106 ?_
  refine j_iload_n E 6 dX5_come_109 rfl rfl ?_
  obtain ⟨x25, h25, h⟩ := jb h
  refine j_aald E rfl h25 dX5_come_110 ?_
  refine j_iload E 2 dX5_come_111 rfl ?_
  refine j_iload E 1 dX5_come_113 rfl ?_
  refine j_iload E 0 dX5_come_115 rfl ?_
  obtain ⟨u26, h26, h⟩ := jb h
  obtain ⟨fs26, h26⟩ := chk_spec h26
  obtain ⟨f27, h27, h⟩ := jb h
  refine j_callV (As := [.int x2, .int x3, .int x4]) (b := x25) (rest := []) (rc := 0) (rs := 0) E (sX2_takeRef h27) lwX2_takeRef lkX5_134 imX2_takeRef seX2_takeRef rfl h26 (by decide) rfl (Nat.le_of_ble_eq_true rfl) dX5_come_117 ?_
  refine j_goto (tgt := 192) E dX5_come_120 (by decide) ?_
  refine j_iload E 3 dX5_come_192 rfl ?_
  cases h
  exact j_iret E dX5_come_194
def mX5_come (fu : Nat) (f : jM) (v0 : Nat) (v1 : Int32) (v2 : Int32) : Option (Int32 × jM) :=
    (chk 5 f v0).bind fun _ =>
    (mX5_isNode f v0 v1).bind fun r29 =>
    if r29.1 = 0 then (
    some ((-1 : Int32), r29.2)) else (
    (chk 5 r29.2 v0).bind fun _ =>
    (mX5_isNode r29.2 v0 v2).bind fun r32 =>
    if r32.1 = 0 then (
    some ((-1 : Int32), r32.2)) else (
    if v1 = v2 then (
    some ((-1 : Int32), r32.2)) else (
    (rdR 5 r32.2 v0 1).bind fun x35 =>
    (chk 3 r32.2 x35).bind fun _ =>
    (mX3_find fu r32.2 x35 v1 v2 (0 : Int32)).bind fun r37 =>
    jcase r37.1 (
    some ((0 : Int32), r37.2)) (fun x38 =>
    (rdI 0 r37.2 x38 0).bind fun x39 =>
    if x39 = (1 : Int32) then (
    (rdR 5 r37.2 v0 0).bind fun x41 =>
    (ldR 2 r37.2 x41 v2).bind fun x42 =>
    (rdI 0 r37.2 x38 3).bind fun x43 =>
    (chk 2 r37.2 x42).bind fun _ =>
    (mX2_canTake r37.2 x42 x43).bind fun r45 =>
    if r45.1 = 0 then (
    some ((-2 : Int32), r45.2)) else (
    mX5_come_B67 fu v0 v1 v2 x38 r45.2)) else (
    mX5_come_B67 fu v0 v1 v2 x38 r37.2)))))
set_option maxRecDepth 100000 in
set_option maxHeartbeats 4000000 in
theorem sX5_come {l : Launch} {D : jD} {sz : Nat} {fu : Nat} {f : jM} {v0 : Nat} {v1 : Int32} {v2 : Int32} {res : (Int32 × jM)} (h : mX5_come fu f v0 v1 v2 = some res) : jCt l D yX5_come cX5_come 8 (some .int) 3 70 [.ref v0, .int v1, .int v2] f sz 0 0 (some (.int res.1)) res.2 sz := by
  refine j_start (by decide +kernel) (Nat.le_of_ble_eq_true rfl) (fun c hcl hcD hcn E => ?_)
  subst hcl
  subst hcD
  replace E : jOk c cX5_come 8 RX5 (some .int) 3 70 := E
  show J c (jZ c (some (.int res.1)) res.2 sz) f sz 0 0 0 [(0, .ref v0), (1, .int v1), (2, .int v2)] []
  unfold mX5_come at h
  refine j_aload_n E 0 dX5_come_0 rfl rfl ?_
  refine j_iload_n E 1 dX5_come_1 rfl rfl ?_
  obtain ⟨u28, h28, h⟩ := jb h
  obtain ⟨fs28, h28⟩ := chk_spec h28
  obtain ⟨r29, h29, h⟩ := jb h
  refine j_callV (As := [.int v1]) (b := v0) (rest := []) (rc := 0) (rs := 0) E (sX5_isNode h29) lwX5_isNode lkX5_48 imX5_isNode seX5_isNode rfl h28 (by decide) rfl (Nat.le_of_ble_eq_true rfl) dX5_come_2 ?_
  refine j_if_eq (tgt := 21) E dX5_come_5 (by decide) (fun hc30 => ?_) (fun hc30 => ?_)
  · replace h := jt hc30 h
    refine j_iconst (v := (-1 : Int32)) E dX5_come_21 (by decide) ?_
    cases h
    exact j_iret E dX5_come_22
  replace h := jf hc30 h
  refine j_aload_n E 0 dX5_come_8 rfl rfl ?_
  refine j_iload_n E 2 dX5_come_9 rfl rfl ?_
  obtain ⟨u31, h31, h⟩ := jb h
  obtain ⟨fs31, h31⟩ := chk_spec h31
  obtain ⟨r32, h32, h⟩ := jb h
  refine j_callV (As := [.int v2]) (b := v0) (rest := []) (rc := 0) (rs := 0) E (sX5_isNode h32) lwX5_isNode lkX5_48 imX5_isNode seX5_isNode rfl h31 (by decide) rfl (Nat.le_of_ble_eq_true rfl) dX5_come_10 ?_
  refine j_if_eq (tgt := 21) E dX5_come_13 (by decide) (fun hc33 => ?_) (fun hc33 => ?_)
  · replace h := jt hc33 h
    refine j_iconst (v := (-1 : Int32)) E dX5_come_21 (by decide) ?_
    cases h
    exact j_iret E dX5_come_22
  replace h := jf hc33 h
  refine j_iload_n E 1 dX5_come_16 rfl rfl ?_
  refine j_iload_n E 2 dX5_come_17 rfl rfl ?_
  refine j_icmp_ne (tgt := 23) E dX5_come_18 (by decide) (fun hc34 => ?_) (fun hc34 => ?_)
  · replace h := jf hc34 h
    refine j_aload_n E 0 dX5_come_23 rfl rfl ?_
    obtain ⟨x35, h35, h⟩ := jb h
    refine j_getR E gX5_30 h35 dX5_come_24 ?_
    refine j_iload_n E 1 dX5_come_27 rfl rfl ?_
    refine j_iload_n E 2 dX5_come_28 rfl rfl ?_
    refine j_iconst (v := (0 : Int32)) E dX5_come_29 (by decide) ?_
    obtain ⟨u36, h36, h⟩ := jb h
    obtain ⟨fs36, h36⟩ := chk_spec h36
    obtain ⟨r37, h37, h⟩ := jb h
    refine j_callV (As := [.int v1, .int v2, .int (0 : Int32)]) (b := x35) (rest := []) (rc := 0) (rs := 0) E (sX3_find h37) lwX3_find lkX5_108 imX3_find seX3_find rfl h36 (by decide) rfl (Nat.le_of_ble_eq_true rfl) dX5_come_30 ?_
    refine j_astore_nQ (lv' := [(3, va_rf r37.1), (0, .ref v0), (1, .int v1), (2, .int v2)]) E dX5_come_33 rfl (by decide) rfl ?_
    refine j_aload_nQ E 0 dX5_come_34 rfl rfl ?_
    refine j_ifnonnull (tgt := 40) E dX5_come_35 (by decide) (fun x38 hc38 => ?_) (fun hc38 => ?_)
    · rw [hc38] at h
      replace h := jcs h
      rw [hc38]
      refine j_aload_n E 0 dX5_come_40 rfl rfl ?_
      obtain ⟨x39, h39, h⟩ := jb h
      refine j_getI E gX5_112 h39 dX5_come_41 ?_
      refine j_iconst (v := (1 : Int32)) E dX5_come_44 (by decide) ?_
      refine j_icmp_ne (tgt := 67) E dX5_come_45 (by decide) (fun hc40 => ?_) (fun hc40 => ?_)
      · replace h := jf hc40 h
        exact j_sub [1, 2, 3, 0] rfl (wX5_come_B67 E  h)
      replace h := jt hc40 h
      refine j_aload_n E 1 dX5_come_48 rfl rfl ?_
      obtain ⟨x41, h41, h⟩ := jb h
      refine j_getR E gX5_20 h41 dX5_come_49 ?_
      refine j_iload_n E 3 dX5_come_52 rfl rfl ?_
      obtain ⟨x42, h42, h⟩ := jb h
      refine j_aald E rfl h42 dX5_come_53 ?_
      refine j_aload_n E 0 dX5_come_54 rfl rfl ?_
      obtain ⟨x43, h43, h⟩ := jb h
      refine j_getI E gX5_118 h43 dX5_come_55 ?_
      obtain ⟨u44, h44, h⟩ := jb h
      obtain ⟨fs44, h44⟩ := chk_spec h44
      obtain ⟨r45, h45, h⟩ := jb h
      refine j_callV (As := [.int x43]) (b := x42) (rest := []) (rc := 0) (rs := 0) E (sX2_canTake h45) lwX2_canTake lkX5_121 imX2_canTake seX2_canTake rfl h44 (by decide) rfl (Nat.le_of_ble_eq_true rfl) dX5_come_58 ?_
      refine j_if_ne (tgt := 67) E dX5_come_61 (by decide) (fun hc46 => ?_) (fun hc46 => ?_)
      · replace h := jf hc46 h
        exact j_sub [1, 2, 3, 0] rfl (wX5_come_B67 E  h)
      replace h := jt hc46 h
      refine j_bipush (v := (-2 : Int32)) E dX5_come_64 (by decide) ?_
      cases h
      exact j_iret E dX5_come_66
    · rw [hc38] at h
      replace h := jcn h
      rw [hc38]
      refine j_iconst (v := (0 : Int32)) E dX5_come_38 (by decide) ?_
      cases h
      exact j_iret E dX5_come_39
  replace h := jt hc34 h
  refine j_iconst (v := (-1 : Int32)) E dX5_come_21 (by decide) ?_
  cases h
  exact j_iret E dX5_come_22
def mX5_bringNext_L13 (fu : Nat) (k2 : Int32 → jM → Option (Int32 × jM)) (v0 : Nat) (v1 : Int32) : Nat → Int32 → jM → Option (Int32 × jM)
  | 0, _, _ => none
  | n + 1, v2, f =>
    (rdR 5 f v0 0).bind fun x4 =>
    (alen f x4).bind fun x5 =>
    if x5 ≤ v2 then (
    k2 (v1 + (1 : Int32)) f) else (
    (chk 5 f v0).bind fun _ =>
    (mX5_come fu f v0 v1 v2).bind fun r8 =>
    if r8.1 ≤ 0 then (
    mX5_bringNext_L13 fu k2 v0 v1 n (v2 + (1 : Int32)) r8.2) else (
    some ((1 : Int32), r8.2)))
set_option maxRecDepth 100000 in
set_option maxHeartbeats 4000000 in
theorem wX5_bringNext_L13 {c : jS} {sz : Nat} {fu : Nat} {k2 : Int32 → jM → Option (Int32 × jM)} {v0 : Nat} {v1 : Int32} {res : (Int32 × jM)} (E : jOk c cX5_bringNext 3 RX5 (some .boolean) 4 97) (hk2 : ∀ (v1 : Int32) (f : jM), k2 v1 f = some res → J c (jZ c (some (.int res.1)) res.2 sz) f sz 0 0 2 [(0, .ref v0), (1, .int v1)] []) : ∀ (n : Nat) (v2 : Int32) (f : jM), mX5_bringNext_L13 fu k2 v0 v1 n v2 f = some res → J c (jZ c (some (.int res.1)) res.2 sz) f sz 0 0 13 [(0, .ref v0), (1, .int v1), (2, .int v2)] [] := by
  intro n
  induction n with
  | zero => intro v2 f h; exact jn0 h
  | succ n ih =>
    intro v2 f h
    rw [mX5_bringNext_L13] at h
    refine j_iload_n E 2 dX5_bringNext_13 rfl rfl ?_
    refine j_aload_n E 0 dX5_bringNext_14 rfl rfl ?_
    obtain ⟨x4, h4, h⟩ := jb h
    refine j_getR E gX5_20 h4 dX5_bringNext_15 ?_
    obtain ⟨x5, h5, h⟩ := jb h
    refine j_alen E h5 dX5_bringNext_18 ?_
    refine j_icmp_ge (tgt := 39) E dX5_bringNext_19 (by decide) (fun hc6 => ?_) (fun hc6 => ?_)
    · replace h := jt hc6 h
      refine j_iinc (v := (v1 + (1 : Int32))) (lv' := [(1, .int (v1 + (1 : Int32))), (0, .ref v0), (2, .int v2)]) E 1 dX5_bringNext_39 rfl rfl (by decide) rfl ?_
      refine j_goto (tgt := 2) E dX5_bringNext_42 (by decide) ?_
      exact j_sub [1, 0] rfl (hk2 _ _ h)
    replace h := jf hc6 h
    refine j_aload_n E 0 dX5_bringNext_22 rfl rfl ?_
    refine j_iload_n E 1 dX5_bringNext_23 rfl rfl ?_
    refine j_iload_n E 2 dX5_bringNext_24 rfl rfl ?_
    obtain ⟨u7, h7, h⟩ := jb h
    obtain ⟨fs7, h7⟩ := chk_spec h7
    obtain ⟨r8, h8, h⟩ := jb h
    refine j_callV (As := [.int v1, .int v2]) (b := v0) (rest := []) (rc := 0) (rs := 0) E (sX5_come h8) lwX5_come lkX5_234 imX5_come seX5_come rfl h7 (by decide) rfl (Nat.le_of_ble_eq_true rfl) dX5_bringNext_25 ?_
    refine j_if_le (tgt := 33) E dX5_bringNext_28 (by decide) (fun hc9 => ?_) (fun hc9 => ?_)
    · replace h := jt hc9 h
      refine j_iinc (v := (v2 + (1 : Int32))) (lv' := [(2, .int (v2 + (1 : Int32))), (0, .ref v0), (1, .int v1)]) E 2 dX5_bringNext_33 rfl rfl (by decide) rfl ?_
      refine j_goto (tgt := 13) E dX5_bringNext_36 (by decide) ?_
      exact j_sub [1, 2, 0] rfl (ih _ _ h)
    replace h := jf hc9 h
    refine j_iconst (v := (1 : Int32)) E dX5_bringNext_31 (by decide) ?_
    cases h
    exact j_zret (v := (1 : Int32)) E (by decide +kernel) dX5_bringNext_32
def mX5_bringNext_L2 (fu : Nat)  (v0 : Nat) : Nat → Int32 → jM → Option (Int32 × jM)
  | 0, _, _ => none
  | n + 1, v1, f =>
    (rdR 5 f v0 0).bind fun x1 =>
    (alen f x1).bind fun x2 =>
    if x2 ≤ v1 then (
    some ((0 : Int32), f)) else (
    mX5_bringNext_L13 fu (mX5_bringNext_L2 fu v0 n) v0 v1 fu (0 : Int32) f)
set_option maxRecDepth 100000 in
set_option maxHeartbeats 4000000 in
theorem wX5_bringNext_L2 {c : jS} {sz : Nat} {fu : Nat}  {v0 : Nat} {res : (Int32 × jM)} (E : jOk c cX5_bringNext 3 RX5 (some .boolean) 4 97)  : ∀ (n : Nat) (v1 : Int32) (f : jM), mX5_bringNext_L2 fu  v0 n v1 f = some res → J c (jZ c (some (.int res.1)) res.2 sz) f sz 0 0 2 [(0, .ref v0), (1, .int v1)] [] := by
  intro n
  induction n with
  | zero => intro v1 f h; exact jn0 h
  | succ n ih =>
    intro v1 f h
    rw [mX5_bringNext_L2] at h
    refine j_iload_n E 1 dX5_bringNext_2 rfl rfl ?_
    refine j_aload_n E 0 dX5_bringNext_3 rfl rfl ?_
    obtain ⟨x1, h1, h⟩ := jb h
    refine j_getR E gX5_20 h1 dX5_bringNext_4 ?_
    obtain ⟨x2, h2, h⟩ := jb h
    refine j_alen E h2 dX5_bringNext_7 ?_
    refine j_icmp_ge (tgt := 45) E dX5_bringNext_8 (by decide) (fun hc3 => ?_) (fun hc3 => ?_)
    · replace h := jt hc3 h
      refine j_iconst (v := (0 : Int32)) E dX5_bringNext_45 (by decide) ?_
      cases h
      exact j_zret (v := (0 : Int32)) E (by decide +kernel) dX5_bringNext_46
    replace h := jf hc3 h
    refine j_iconst (v := (0 : Int32)) E dX5_bringNext_11 (by decide) ?_
    refine j_istore_n (lv' := [(2, .int (0 : Int32)), (0, .ref v0), (1, .int v1)]) E dX5_bringNext_12 rfl (by decide) rfl ?_
    exact j_sub [1, 2, 0] rfl (wX5_bringNext_L13 E ih _ _ _ h)
def mX5_bringNext (fu : Nat) (f : jM) (v0 : Nat) : Option (Int32 × jM) :=
    mX5_bringNext_L2 fu v0 fu (0 : Int32) f
set_option maxRecDepth 100000 in
set_option maxHeartbeats 4000000 in
theorem sX5_bringNext {l : Launch} {D : jD} {sz : Nat} {fu : Nat} {f : jM} {v0 : Nat} {res : (Int32 × jM)} (h : mX5_bringNext fu f v0 = some res) : jCt l D yX5_bringNext cX5_bringNext 3 (some .boolean) 4 97 [.ref v0] f sz 0 0 (some (.int res.1)) res.2 sz := by
  refine j_start (by decide +kernel) (Nat.le_of_ble_eq_true rfl) (fun c hcl hcD hcn E => ?_)
  subst hcl
  subst hcD
  replace E : jOk c cX5_bringNext 3 RX5 (some .boolean) 4 97 := E
  show J c (jZ c (some (.int res.1)) res.2 sz) f sz 0 0 0 [(0, .ref v0)] []
  unfold mX5_bringNext at h
  refine j_iconst (v := (0 : Int32)) E dX5_bringNext_0 (by decide) ?_
  refine j_istore_n (lv' := [(1, .int (0 : Int32)), (0, .ref v0)]) E dX5_bringNext_1 rfl (by decide) rfl ?_
  exact j_sub [1, 0] rfl (wX5_bringNext_L2 E _ _ _ h)
def mX5_drain_L15 (fu : Nat)  (v0 : Nat) (v1 : Int32) : Nat → Int32 → jM → Option (Int32 × jM)
  | 0, _, _ => none
  | n + 1, v2, f =>
    if v1 ≤ v2 then (
    some (v2, f)) else (
    (chk 5 f v0).bind fun _ =>
    (mX5_bringNext fu f v0).bind fun r3 =>
    if r3.1 = 0 then (
    some (v2, r3.2)) else (
    mX5_drain_L15 fu v0 v1 n (v2 + (1 : Int32)) r3.2))
set_option maxRecDepth 100000 in
set_option maxHeartbeats 4000000 in
theorem wX5_drain_L15 {c : jS} {sz : Nat} {fu : Nat}  {v0 : Nat} {v1 : Int32} {res : (Int32 × jM)} (E : jOk c cX5_drain 3 RX5 (some .int) 5 119)  : ∀ (n : Nat) (v2 : Int32) (f : jM), mX5_drain_L15 fu  v0 v1 n v2 f = some res → J c (jZ c (some (.int res.1)) res.2 sz) f sz 0 0 15 [(0, .ref v0), (1, .int v1), (2, .int v2)] [] := by
  intro n
  induction n with
  | zero => intro v2 f h; exact jn0 h
  | succ n ih =>
    intro v2 f h
    rw [mX5_drain_L15] at h
    refine j_iload_n E 2 dX5_drain_15 rfl rfl ?_
    refine j_iload_n E 1 dX5_drain_16 rfl rfl ?_
    refine j_icmp_ge (tgt := 33) E dX5_drain_17 (by decide) (fun hc1 => ?_) (fun hc1 => ?_)
    · replace h := jt hc1 h
      refine j_iload_n E 2 dX5_drain_33 rfl rfl ?_
      cases h
      exact j_iret E dX5_drain_34
    replace h := jf hc1 h
    refine j_aload_n E 0 dX5_drain_20 rfl rfl ?_
    obtain ⟨u2, h2, h⟩ := jb h
    obtain ⟨fs2, h2⟩ := chk_spec h2
    obtain ⟨r3, h3, h⟩ := jb h
    refine j_callV (As := []) (b := v0) (rest := []) (rc := 0) (rs := 0) E (sX5_bringNext h3) lwX5_bringNext lkX5_143 imX5_bringNext seX5_bringNext rfl h2 (by decide) rfl (Nat.le_of_ble_eq_true rfl) dX5_drain_21 ?_
    refine j_if_eq (tgt := 33) E dX5_drain_24 (by decide) (fun hc4 => ?_) (fun hc4 => ?_)
    · replace h := jt hc4 h
      refine j_iload_n E 2 dX5_drain_33 rfl rfl ?_
      cases h
      exact j_iret E dX5_drain_34
    replace h := jf hc4 h
    refine j_iinc (v := (v2 + (1 : Int32))) (lv' := [(2, .int (v2 + (1 : Int32))), (0, .ref v0), (1, .int v1)]) E 2 dX5_drain_27 rfl rfl (by decide) rfl ?_
    refine j_goto (tgt := 15) E dX5_drain_30 (by decide) ?_
    exact j_sub [1, 2, 0] rfl (ih _ _ h)
def mX5_drain (fu : Nat) (f : jM) (v0 : Nat) (v1 : Int32) : Option (Int32 × jM) :=
    if v1 < 0 then (
    some ((-1 : Int32), f)) else (
    if v1 ≤ (1000 : Int32) then (
    mX5_drain_L15 fu v0 v1 fu (0 : Int32) f) else (
    some ((-1 : Int32), f)))
set_option maxRecDepth 100000 in
set_option maxHeartbeats 4000000 in
theorem sX5_drain {l : Launch} {D : jD} {sz : Nat} {fu : Nat} {f : jM} {v0 : Nat} {v1 : Int32} {res : (Int32 × jM)} (h : mX5_drain fu f v0 v1 = some res) : jCt l D yX5_drain cX5_drain 3 (some .int) 5 119 [.ref v0, .int v1] f sz 0 0 (some (.int res.1)) res.2 sz := by
  refine j_start (by decide +kernel) (Nat.le_of_ble_eq_true rfl) (fun c hcl hcD hcn E => ?_)
  subst hcl
  subst hcD
  replace E : jOk c cX5_drain 3 RX5 (some .int) 5 119 := E
  show J c (jZ c (some (.int res.1)) res.2 sz) f sz 0 0 0 [(0, .ref v0), (1, .int v1)] []
  unfold mX5_drain at h
  refine j_iload_n E 1 dX5_drain_0 rfl rfl ?_
  refine j_if_lt (tgt := 11) E dX5_drain_1 (by decide) (fun hc5 => ?_) (fun hc5 => ?_)
  · replace h := jt hc5 h
    refine j_iconst (v := (-1 : Int32)) E dX5_drain_11 (by decide) ?_
    cases h
    exact j_iret E dX5_drain_12
  replace h := jf hc5 h
  refine j_iload_n E 1 dX5_drain_4 rfl rfl ?_
  refine j_sipush (v := (1000 : Int32)) E dX5_drain_5 (by decide) ?_
  refine j_icmp_le (tgt := 13) E dX5_drain_8 (by decide) (fun hc6 => ?_) (fun hc6 => ?_)
  · replace h := jt hc6 h
    refine j_iconst (v := (0 : Int32)) E dX5_drain_13 (by decide) ?_
    refine j_istore_n (lv' := [(2, .int (0 : Int32)), (0, .ref v0), (1, .int v1)]) E dX5_drain_14 rfl (by decide) rfl ?_
    exact j_sub [1, 2, 0] rfl (wX5_drain_L15 E _ _ _ h)
  replace h := jf hc6 h
  refine j_iconst (v := (-1 : Int32)) E dX5_drain_11 (by decide) ?_
  cases h
  exact j_iret E dX5_drain_12
def mX5_collect (fu : Nat) (f : jM) (v0 : Nat) (v1 : Int32) : Option (Int32 × jM) :=
    (chk 5 f v0).bind fun _ =>
    (mX5_isNode f v0 v1).bind fun r2 =>
    if r2.1 = 0 then (
    some ((-1 : Int32), r2.2)) else (
    (rdR 5 r2.2 v0 0).bind fun x4 =>
    (ldR 2 r2.2 x4 v1).bind fun x5 =>
    (rdR 5 r2.2 v0 2).bind fun x6 =>
    (chk 2 r2.2 x5).bind fun _ =>
    (mX2_markLive fu r2.2 x5 x6).bind fun f8 =>
    (rdR 5 f8 v0 2).bind fun x9 =>
    (chk 2 f8 x5).bind fun _ =>
    (mX2_countUnmarkedImports fu f8 x5 x9).bind fun r11 =>
    (rdR 5 r11.2 v0 1).bind fun x12 =>
    (rdI 3 r11.2 x12 1).bind fun x13 =>
    if (r11.1 + x13) ≤ (60 : Int32) then (
    (rdR 5 r11.2 v0 2).bind fun x15 =>
    (rdR 5 r11.2 v0 1).bind fun x16 =>
    (chk 2 r11.2 x5).bind fun _ =>
    (mX2_giveBackUnmarked fu r11.2 x5 x15 x16).bind fun f18 =>
    (rdR 5 f18 v0 2).bind fun x19 =>
    (chk 2 f18 x5).bind fun _ =>
    (mX2_sweep fu f18 x5 x19).bind fun r21 =>
    some (r21.1, r21.2)) else (
    some ((-2 : Int32), r11.2)))
set_option maxRecDepth 100000 in
set_option maxHeartbeats 4000000 in
theorem sX5_collect {l : Launch} {D : jD} {sz : Nat} {fu : Nat} {f : jM} {v0 : Nat} {v1 : Int32} {res : (Int32 × jM)} (h : mX5_collect fu f v0 v1 = some res) : jCt l D yX5_collect cX5_collect 3 (some .int) 4 93 [.ref v0, .int v1] f sz 0 0 (some (.int res.1)) res.2 sz := by
  refine j_start (by decide +kernel) (Nat.le_of_ble_eq_true rfl) (fun c hcl hcD hcn E => ?_)
  subst hcl
  subst hcD
  replace E : jOk c cX5_collect 3 RX5 (some .int) 4 93 := E
  show J c (jZ c (some (.int res.1)) res.2 sz) f sz 0 0 0 [(0, .ref v0), (1, .int v1)] []
  unfold mX5_collect at h
  refine j_aload_n E 0 dX5_collect_0 rfl rfl ?_
  refine j_iload_n E 1 dX5_collect_1 rfl rfl ?_
  obtain ⟨u1, h1, h⟩ := jb h
  obtain ⟨fs1, h1⟩ := chk_spec h1
  obtain ⟨r2, h2, h⟩ := jb h
  refine j_callV (As := [.int v1]) (b := v0) (rest := []) (rc := 0) (rs := 0) E (sX5_isNode h2) lwX5_isNode lkX5_48 imX5_isNode seX5_isNode rfl h1 (by decide) rfl (Nat.le_of_ble_eq_true rfl) dX5_collect_2 ?_
  refine j_if_ne (tgt := 10) E dX5_collect_5 (by decide) (fun hc3 => ?_) (fun hc3 => ?_)
  · replace h := jf hc3 h
    refine j_aload_n E 0 dX5_collect_10 rfl rfl ?_
    obtain ⟨x4, h4, h⟩ := jb h
    refine j_getR E gX5_20 h4 dX5_collect_11 ?_
    refine j_iload_n E 1 dX5_collect_14 rfl rfl ?_
    obtain ⟨x5, h5, h⟩ := jb h
    refine j_aald E rfl h5 dX5_collect_15 ?_
    refine j_astore_n (lv' := [(2, .ref x5), (0, .ref v0), (1, .int v1)]) E dX5_collect_16 rfl (by decide) rfl ?_
    refine j_aload_n E 0 dX5_collect_17 rfl rfl ?_
    refine j_aload_n E 1 dX5_collect_18 rfl rfl ?_
    obtain ⟨x6, h6, h⟩ := jb h
    refine j_getR E gX5_37 h6 dX5_collect_19 ?_
    obtain ⟨u7, h7, h⟩ := jb h
    obtain ⟨fs7, h7⟩ := chk_spec h7
    obtain ⟨f8, h8, h⟩ := jb h
    refine j_callV (As := [.ref x6]) (b := x5) (rest := []) (rc := 0) (rs := 0) E (sX2_markLive h8) lwX2_markLive lkX5_146 imX2_markLive seX2_markLive rfl h7 (by decide) rfl (Nat.le_of_ble_eq_true rfl) dX5_collect_22 ?_
    refine j_aload_n E 0 dX5_collect_25 rfl rfl ?_
    refine j_aload_n E 1 dX5_collect_26 rfl rfl ?_
    obtain ⟨x9, h9, h⟩ := jb h
    refine j_getR E gX5_37 h9 dX5_collect_27 ?_
    obtain ⟨u10, h10, h⟩ := jb h
    obtain ⟨fs10, h10⟩ := chk_spec h10
    obtain ⟨r11, h11, h⟩ := jb h
    refine j_callV (As := [.ref x9]) (b := x5) (rest := []) (rc := 0) (rs := 0) E (sX2_countUnmarkedImports h11) lwX2_countUnmarkedImports lkX5_150 imX2_countUnmarkedImports seX2_countUnmarkedImports rfl h10 (by decide) rfl (Nat.le_of_ble_eq_true rfl) dX5_collect_30 ?_
    refine j_aload_n E 1 dX5_collect_33 rfl rfl ?_
    obtain ⟨x12, h12, h⟩ := jb h
    refine j_getR E gX5_30 h12 dX5_collect_34 ?_
    obtain ⟨x13, h13, h⟩ := jb h
    refine j_getI E gX5_154 h13 dX5_collect_37 ?_
    refine j_iadd E dX5_collect_40 ?_
    refine j_bipush (v := (60 : Int32)) E dX5_collect_41 (by decide) ?_
    refine j_icmp_le (tgt := 49) E dX5_collect_43 (by decide) (fun hc14 => ?_) (fun hc14 => ?_)
    · replace h := jt hc14 h
      refine j_aload_n E 0 dX5_collect_49 rfl rfl ?_
      refine j_aload_n E 1 dX5_collect_50 rfl rfl ?_
      obtain ⟨x15, h15, h⟩ := jb h
      refine j_getR E gX5_37 h15 dX5_collect_51 ?_
      refine j_aload_n E 1 dX5_collect_54 rfl rfl ?_
      obtain ⟨x16, h16, h⟩ := jb h
      refine j_getR E gX5_30 h16 dX5_collect_55 ?_
      obtain ⟨u17, h17, h⟩ := jb h
      obtain ⟨fs17, h17⟩ := chk_spec h17
      obtain ⟨f18, h18, h⟩ := jb h
      refine j_callV (As := [.ref x15, .ref x16]) (b := x5) (rest := []) (rc := 0) (rs := 0) E (sX2_giveBackUnmarked h18) lwX2_giveBackUnmarked lkX5_157 imX2_giveBackUnmarked seX2_giveBackUnmarked rfl h17 (by decide) rfl (Nat.le_of_ble_eq_true rfl) dX5_collect_58 ?_
      refine j_aload_n E 0 dX5_collect_61 rfl rfl ?_
      refine j_aload_n E 1 dX5_collect_62 rfl rfl ?_
      obtain ⟨x19, h19, h⟩ := jb h
      refine j_getR E gX5_37 h19 dX5_collect_63 ?_
      obtain ⟨u20, h20, h⟩ := jb h
      obtain ⟨fs20, h20⟩ := chk_spec h20
      obtain ⟨r21, h21, h⟩ := jb h
      refine j_callV (As := [.ref x19]) (b := x5) (rest := []) (rc := 0) (rs := 0) E (sX2_sweep h21) lwX2_sweep lkX5_161 imX2_sweep seX2_sweep rfl h20 (by decide) rfl (Nat.le_of_ble_eq_true rfl) dX5_collect_66 ?_
      cases h
      exact j_iret E dX5_collect_69
    replace h := jf hc14 h
    refine j_bipush (v := (-2 : Int32)) E dX5_collect_46 (by decide) ?_
    cases h
    exact j_iret E dX5_collect_48
  replace h := jt hc3 h
  refine j_iconst (v := (-1 : Int32)) E dX5_collect_8 (by decide) ?_
  cases h
  exact j_iret E dX5_collect_9
def mX5_isObject (f : jM) (v0 : Nat) (v1 : Int32) (v2 : Int32) : Option (Int32 × jM) :=
    (chk 5 f v0).bind fun _ =>
    (mX5_isNode f v0 v1).bind fun r2 =>
    if r2.1 = 0 then (
    some ((0 : Int32), r2.2)) else (
    (rdR 5 r2.2 v0 0).bind fun x4 =>
    (ldR 2 r2.2 x4 v1).bind fun x5 =>
    (chk 2 r2.2 x5).bind fun _ =>
    (mX2_hasObject r2.2 x5 v2).bind fun r7 =>
    if r7.1 = 0 then (
    some ((0 : Int32), r7.2)) else (
    some ((1 : Int32), r7.2)))
set_option maxRecDepth 100000 in
set_option maxHeartbeats 4000000 in
theorem sX5_isObject {l : Launch} {D : jD} {sz : Nat} {f : jM} {v0 : Nat} {v1 : Int32} {v2 : Int32} {res : (Int32 × jM)} (h : mX5_isObject f v0 v1 v2 = some res) : jCt l D yX5_isObject cX5_isObject 3 (some .boolean) 1 21 [.ref v0, .int v1, .int v2] f sz 0 0 (some (.int res.1)) res.2 sz := by
  refine j_start (by decide +kernel) (Nat.le_of_ble_eq_true rfl) (fun c hcl hcD hcn E => ?_)
  subst hcl
  subst hcD
  replace E : jOk c cX5_isObject 3 RX5 (some .boolean) 1 21 := E
  show J c (jZ c (some (.int res.1)) res.2 sz) f sz 0 0 0 [(0, .ref v0), (1, .int v1), (2, .int v2)] []
  unfold mX5_isObject at h
  refine j_aload_n E 0 dX5_isObject_0 rfl rfl ?_
  refine j_iload_n E 1 dX5_isObject_1 rfl rfl ?_
  obtain ⟨u1, h1, h⟩ := jb h
  obtain ⟨fs1, h1⟩ := chk_spec h1
  obtain ⟨r2, h2, h⟩ := jb h
  refine j_callV (As := [.int v1]) (b := v0) (rest := []) (rc := 0) (rs := 0) E (sX5_isNode h2) lwX5_isNode lkX5_48 imX5_isNode seX5_isNode rfl h1 (by decide) rfl (Nat.le_of_ble_eq_true rfl) dX5_isObject_2 ?_
  refine j_if_eq (tgt := 25) E dX5_isObject_5 (by decide) (fun hc3 => ?_) (fun hc3 => ?_)
  · replace h := jt hc3 h
    refine j_iconst (v := (0 : Int32)) E dX5_isObject_25 (by decide) ?_
    cases h
    exact j_zret (v := (0 : Int32)) E (by decide +kernel) dX5_isObject_26
  replace h := jf hc3 h
  refine j_aload_n E 0 dX5_isObject_8 rfl rfl ?_
  obtain ⟨x4, h4, h⟩ := jb h
  refine j_getR E gX5_20 h4 dX5_isObject_9 ?_
  refine j_iload_n E 1 dX5_isObject_12 rfl rfl ?_
  obtain ⟨x5, h5, h⟩ := jb h
  refine j_aald E rfl h5 dX5_isObject_13 ?_
  refine j_iload_n E 2 dX5_isObject_14 rfl rfl ?_
  obtain ⟨u6, h6, h⟩ := jb h
  obtain ⟨fs6, h6⟩ := chk_spec h6
  obtain ⟨r7, h7, h⟩ := jb h
  refine j_callV (As := [.int v2]) (b := x5) (rest := []) (rc := 0) (rs := 0) E (sX2_hasObject h7) lwX2_hasObject lkX5_228 imX2_hasObject seX2_hasObject rfl h6 (by decide) rfl (Nat.le_of_ble_eq_true rfl) dX5_isObject_15 ?_
  refine j_if_eq (tgt := 25) E dX5_isObject_18 (by decide) (fun hc8 => ?_) (fun hc8 => ?_)
  · replace h := jt hc8 h
    refine j_iconst (v := (0 : Int32)) E dX5_isObject_25 (by decide) ?_
    cases h
    exact j_zret (v := (0 : Int32)) E (by decide +kernel) dX5_isObject_26
  replace h := jf hc8 h
  refine j_iconst (v := (1 : Int32)) E dX5_isObject_21 (by decide) ?_
  refine j_goto (tgt := 26) E dX5_isObject_22 (by decide) ?_
  cases h
  exact j_zret (v := (1 : Int32)) E (by decide +kernel) dX5_isObject_26
def mX5_trial (fu : Nat) (f : jM) (v0 : Nat) (v1 : Int32) (v2 : Int32) : Option (Int32 × jM) :=
    (chk 5 f v0).bind fun _ =>
    (mX5_isObject f v0 v1 v2).bind fun r2 =>
    if r2.1 = 0 then (
    some ((-1 : Int32), r2.2)) else (
    (rdR 5 r2.2 v0 0).bind fun x4 =>
    (ldR 2 r2.2 x4 v1).bind fun x5 =>
    (rdR 2 r2.2 x5 5).bind fun x6 =>
    (ldI 0 r2.2 x6 v2).bind fun x7 =>
    if x7 = 0 then (
    some ((-1 : Int32), r2.2)) else (
    (rdR 5 r2.2 v0 1).bind fun x9 =>
    (rdI 3 r2.2 x9 1).bind fun x10 =>
    if x10 ≤ 0 then (
    (rdR 5 r2.2 v0 3).bind fun x12 =>
    (rdR 5 r2.2 v0 0).bind fun x13 =>
    (mX5_idOf r2.2 v1 v2).bind fun r14 =>
    (rdR 5 r14.2 v0 1).bind fun x15 =>
    (chk 4 r14.2 x12).bind fun _ =>
    (mX4_run fu r14.2 x12 x13 r14.1 x15).bind fun r17 =>
    some (r17.1, r17.2)) else (
    some ((-1 : Int32), r2.2))))
set_option maxRecDepth 100000 in
set_option maxHeartbeats 4000000 in
theorem sX5_trial {l : Launch} {D : jD} {sz : Nat} {fu : Nat} {f : jM} {v0 : Nat} {v1 : Int32} {v2 : Int32} {res : (Int32 × jM)} (h : mX5_trial fu f v0 v1 v2 = some res) : jCt l D yX5_trial cX5_trial 3 (some .int) 6 138 [.ref v0, .int v1, .int v2] f sz 0 0 (some (.int res.1)) res.2 sz := by
  refine j_start (by decide +kernel) (Nat.le_of_ble_eq_true rfl) (fun c hcl hcD hcn E => ?_)
  subst hcl
  subst hcD
  replace E : jOk c cX5_trial 3 RX5 (some .int) 6 138 := E
  show J c (jZ c (some (.int res.1)) res.2 sz) f sz 0 0 0 [(0, .ref v0), (1, .int v1), (2, .int v2)] []
  unfold mX5_trial at h
  refine j_aload_n E 0 dX5_trial_0 rfl rfl ?_
  refine j_iload_n E 1 dX5_trial_1 rfl rfl ?_
  refine j_iload_n E 2 dX5_trial_2 rfl rfl ?_
  obtain ⟨u1, h1, h⟩ := jb h
  obtain ⟨fs1, h1⟩ := chk_spec h1
  obtain ⟨r2, h2, h⟩ := jb h
  refine j_callV (As := [.int v1, .int v2]) (b := v0) (rest := []) (rc := 0) (rs := 0) E (sX5_isObject h2) lwX5_isObject lkX5_164 imX5_isObject seX5_isObject rfl h1 (by decide) rfl (Nat.le_of_ble_eq_true rfl) dX5_trial_3 ?_
  refine j_if_eq (tgt := 33) E dX5_trial_6 (by decide) (fun hc3 => ?_) (fun hc3 => ?_)
  · replace h := jt hc3 h
    refine j_iconst (v := (-1 : Int32)) E dX5_trial_33 (by decide) ?_
    cases h
    exact j_iret E dX5_trial_34
  replace h := jf hc3 h
  refine j_aload_n E 0 dX5_trial_9 rfl rfl ?_
  obtain ⟨x4, h4, h⟩ := jb h
  refine j_getR E gX5_20 h4 dX5_trial_10 ?_
  refine j_iload_n E 1 dX5_trial_13 rfl rfl ?_
  obtain ⟨x5, h5, h⟩ := jb h
  refine j_aald E rfl h5 dX5_trial_14 ?_
  obtain ⟨x6, h6, h⟩ := jb h
  refine j_getR E gX5_168 h6 dX5_trial_15 ?_
  refine j_iload_n E 2 dX5_trial_18 rfl rfl ?_
  obtain ⟨x7, h7, h⟩ := jb h
  refine j_iald E h7 dX5_trial_19 ?_
  refine j_if_eq (tgt := 33) E dX5_trial_20 (by decide) (fun hc8 => ?_) (fun hc8 => ?_)
  · replace h := jt hc8 h
    refine j_iconst (v := (-1 : Int32)) E dX5_trial_33 (by decide) ?_
    cases h
    exact j_iret E dX5_trial_34
  replace h := jf hc8 h
  refine j_aload_n E 0 dX5_trial_23 rfl rfl ?_
  obtain ⟨x9, h9, h⟩ := jb h
  refine j_getR E gX5_30 h9 dX5_trial_24 ?_
  obtain ⟨x10, h10, h⟩ := jb h
  refine j_getI E gX5_154 h10 dX5_trial_27 ?_
  refine j_if_le (tgt := 35) E dX5_trial_30 (by decide) (fun hc11 => ?_) (fun hc11 => ?_)
  · replace h := jt hc11 h
    refine j_aload_n E 0 dX5_trial_35 rfl rfl ?_
    obtain ⟨x12, h12, h⟩ := jb h
    refine j_getR E gX5_44 h12 dX5_trial_36 ?_
    refine j_aload_n E 0 dX5_trial_39 rfl rfl ?_
    obtain ⟨x13, h13, h⟩ := jb h
    refine j_getR E gX5_20 h13 dX5_trial_40 ?_
    refine j_iload_n E 1 dX5_trial_43 rfl rfl ?_
    refine j_iload_n E 2 dX5_trial_44 rfl rfl ?_
    obtain ⟨r14, h14, h⟩ := jb h
    refine j_callS (As := [.int v1, .int v2]) (rest := [.ref x13, .ref x12]) (rc := 0) (rs := 0) E (sX5_idOf h14) lwX5_idOf lkX5_66 stX5_idOf (by decide) rfl (Nat.le_of_ble_eq_true rfl) dX5_trial_45 ?_
    refine j_aload_n E 0 dX5_trial_48 rfl rfl ?_
    obtain ⟨x15, h15, h⟩ := jb h
    refine j_getR E gX5_30 h15 dX5_trial_49 ?_
    obtain ⟨u16, h16, h⟩ := jb h
    obtain ⟨fs16, h16⟩ := chk_spec h16
    obtain ⟨r17, h17, h⟩ := jb h
    refine j_callV (As := [.ref x13, .int r14.1, .ref x15]) (b := x12) (rest := []) (rc := 0) (rs := 0) E (sX4_run h17) lwX4_run lkX5_171 imX4_run seX4_run rfl h16 (by decide) rfl (Nat.le_of_ble_eq_true rfl) dX5_trial_52 ?_
    cases h
    exact j_iret E dX5_trial_55
  replace h := jf hc11 h
  refine j_iconst (v := (-1 : Int32)) E dX5_trial_33 (by decide) ?_
  cases h
  exact j_iret E dX5_trial_34
def mX5_settle_B107 (fu : Nat)  (v0 : Nat) (v1 : Int32)  (f : jM) : Option (Int32 × jM) :=
    (rdR 5 f v0 1).bind fun x17 =>
    (rdI 3 f x17 1).bind fun x18 =>
    if x18 ≤ 0 then (
    some (v1, f)) else (
    some ((-2 : Int32), f))
set_option maxRecDepth 100000 in
set_option maxHeartbeats 4000000 in
theorem wX5_settle_B107 {c : jS} {sz : Nat} {fu : Nat}  {v0 : Nat} {v1 : Int32}  {f : jM} {res : (Int32 × jM)} (E : jOk c cX5_settle 8 RX5 (some .int) 6 141)  (h : mX5_settle_B107 fu  v0 v1  f = some res) : J c (jZ c (some (.int res.1)) res.2 sz) f sz 0 0 107 [(0, .ref v0), (1, .int v1)] [] := by
  unfold mX5_settle_B107 at h
  refine j_aload_n E 0 dX5_settle_107 rfl rfl ?_
  obtain ⟨x17, h17, h⟩ := jb h
  refine j_getR E gX5_30 h17 dX5_settle_108 ?_
  obtain ⟨x18, h18, h⟩ := jb h
  refine j_getI E gX5_154 h18 dX5_settle_111 ?_
  refine j_if_le (tgt := 122) E dX5_settle_114 (by decide) (fun hc19 => ?_) (fun hc19 => ?_)
  · replace h := jt hc19 h
    refine j_iload_n E 1 dX5_settle_122 rfl rfl ?_
    cases h
    exact j_iret E dX5_settle_123
  replace h := jf hc19 h
  refine j_bipush (v := (-2 : Int32)) E dX5_settle_117 (by decide) ?_
  refine j_goto (tgt := 123) E dX5_settle_119 (by decide) ?_
  cases h
  exact j_iret E dX5_settle_123
def mX5_settle_L33 (fu : Nat) (k4 : Int32 → Int32 → jM → Option (Int32 × jM)) (v0 : Nat) (v1 : Int32) (v2 : Int32) (v3 : Int32) (v4 : Int32) : Nat → Int32 → Int32 → jM → Option (Int32 × jM)
  | 0, _, _, _ => none
  | n + 1, v5, v6, f =>
    (rdR 5 f v0 0).bind fun x6 =>
    (alen f x6).bind fun x7 =>
    if x7 ≤ v6 then (
    if v3 = 0 then (
    (rdR 5 f v0 1).bind fun x10 =>
    (rdI 3 f x10 1).bind fun x11 =>
    if x11 = v4 then (
    if v5 = 0 then (
    mX5_settle_B107 fu v0 (v1 + v5) f) else (
    k4 (v1 + v5) (v2 + (1 : Int32)) f)) else (
    k4 (v1 + v5) (v2 + (1 : Int32)) f)) else (
    k4 (v1 + v5) (v2 + (1 : Int32)) f)) else (
    (chk 5 f v0).bind fun _ =>
    (mX5_collect fu f v0 v6).bind fun r15 =>
    if 0 ≤ r15.1 then (
    mX5_settle_L33 fu k4 v0 v1 v2 v3 v4 n (v5 + r15.1) (v6 + (1 : Int32)) r15.2) else (
    some ((-2 : Int32), r15.2)))
set_option maxRecDepth 100000 in
set_option maxHeartbeats 4000000 in
theorem wX5_settle_L33 {c : jS} {sz : Nat} {fu : Nat} {k4 : Int32 → Int32 → jM → Option (Int32 × jM)} {v0 : Nat} {v1 : Int32} {v2 : Int32} {v3 : Int32} {v4 : Int32} {res : (Int32 × jM)} (E : jOk c cX5_settle 8 RX5 (some .int) 6 141) (hk4 : ∀ (v1 : Int32) (v2 : Int32) (f : jM), k4 v1 v2 f = some res → J c (jZ c (some (.int res.1)) res.2 sz) f sz 0 0 4 [(0, .ref v0), (1, .int v1), (2, .int v2)] []) : ∀ (n : Nat) (v5 : Int32) (v6 : Int32) (f : jM), mX5_settle_L33 fu k4 v0 v1 v2 v3 v4 n v5 v6 f = some res → J c (jZ c (some (.int res.1)) res.2 sz) f sz 0 0 33 [(0, .ref v0), (1, .int v1), (2, .int v2), (3, .int v3), (4, .int v4), (5, .int v5), (6, .int v6)] [] := by
  intro n
  induction n with
  | zero => intro v5 v6 f h; exact jn0 h
  | succ n ih =>
    intro v5 v6 f h
    rw [mX5_settle_L33] at h
    refine j_iload E 6 dX5_settle_33 rfl ?_
    refine j_aload_n E 0 dX5_settle_35 rfl rfl ?_
    obtain ⟨x6, h6, h⟩ := jb h
    refine j_getR E gX5_20 h6 dX5_settle_36 ?_
    obtain ⟨x7, h7, h⟩ := jb h
    refine j_alen E h7 dX5_settle_39 ?_
    refine j_icmp_ge (tgt := 72) E dX5_settle_40 (by decide) (fun hc8 => ?_) (fun hc8 => ?_)
    · replace h := jt hc8 h
      refine j_iload_n E 1 dX5_settle_72 rfl rfl ?_
      refine j_iload E 5 dX5_settle_73 rfl ?_
      refine j_iadd E dX5_settle_75 ?_
      refine j_istore_n (lv' := [(1, .int (v1 + v5)), (0, .ref v0), (2, .int v2), (3, .int v3), (4, .int v4), (5, .int v5), (6, .int v6)]) E dX5_settle_76 rfl (by decide) rfl ?_
      refine j_iload_n E 3 dX5_settle_77 rfl rfl ?_
      refine j_if_ne (tgt := 101) E dX5_settle_78 (by decide) (fun hc9 => ?_) (fun hc9 => ?_)
      · replace h := jf hc9 h
        refine j_iinc (v := (v2 + (1 : Int32))) (lv' := [(2, .int (v2 + (1 : Int32))), (1, .int (v1 + v5)), (0, .ref v0), (3, .int v3), (4, .int v4), (5, .int v5), (6, .int v6)]) E 2 dX5_settle_101 rfl rfl (by decide) rfl ?_
        refine j_goto (tgt := 4) E dX5_settle_104 (by decide) ?_
        exact j_sub [2, 1, 0] rfl (hk4 _ _ _ h)
      replace h := jt hc9 h
      refine j_aload_n E 1 dX5_settle_81 rfl rfl ?_
      obtain ⟨x10, h10, h⟩ := jb h
      refine j_getR E gX5_30 h10 dX5_settle_82 ?_
      obtain ⟨x11, h11, h⟩ := jb h
      refine j_getI E gX5_154 h11 dX5_settle_85 ?_
      refine j_iload E 4 dX5_settle_88 rfl ?_
      refine j_icmp_ne (tgt := 101) E dX5_settle_90 (by decide) (fun hc12 => ?_) (fun hc12 => ?_)
      · replace h := jf hc12 h
        refine j_iinc (v := (v2 + (1 : Int32))) (lv' := [(2, .int (v2 + (1 : Int32))), (1, .int (v1 + v5)), (0, .ref v0), (3, .int v3), (4, .int v4), (5, .int v5), (6, .int v6)]) E 2 dX5_settle_101 rfl rfl (by decide) rfl ?_
        refine j_goto (tgt := 4) E dX5_settle_104 (by decide) ?_
        exact j_sub [2, 1, 0] rfl (hk4 _ _ _ h)
      replace h := jt hc12 h
      refine j_iload E 5 dX5_settle_93 rfl ?_
      refine j_if_ne (tgt := 101) E dX5_settle_95 (by decide) (fun hc13 => ?_) (fun hc13 => ?_)
      · replace h := jf hc13 h
        refine j_iinc (v := (v2 + (1 : Int32))) (lv' := [(2, .int (v2 + (1 : Int32))), (1, .int (v1 + v5)), (0, .ref v0), (3, .int v3), (4, .int v4), (5, .int v5), (6, .int v6)]) E 2 dX5_settle_101 rfl rfl (by decide) rfl ?_
        refine j_goto (tgt := 4) E dX5_settle_104 (by decide) ?_
        exact j_sub [2, 1, 0] rfl (hk4 _ _ _ h)
      replace h := jt hc13 h
      refine j_goto (tgt := 107) E dX5_settle_98 (by decide) ?_
      exact j_sub [1, 0] rfl (wX5_settle_B107 E  h)
    replace h := jf hc8 h
    refine j_aload_n E 0 dX5_settle_43 rfl rfl ?_
    refine j_iload E 6 dX5_settle_44 rfl ?_
    obtain ⟨u14, h14, h⟩ := jb h
    obtain ⟨fs14, h14⟩ := chk_spec h14
    obtain ⟨r15, h15, h⟩ := jb h
    refine j_callV (As := [.int v6]) (b := v0) (rest := []) (rc := 0) (rs := 0) E (sX5_collect h15) lwX5_collect lkX5_179 imX5_collect seX5_collect rfl h14 (by decide) rfl (Nat.le_of_ble_eq_true rfl) dX5_settle_46 ?_
    refine j_istore (lv' := [(7, .int r15.1), (0, .ref v0), (1, .int v1), (2, .int v2), (3, .int v3), (4, .int v4), (5, .int v5), (6, .int v6)]) E dX5_settle_49 (by decide) rfl ?_
    refine j_iload E 0 dX5_settle_51 rfl ?_
    refine j_if_ge (tgt := 59) E dX5_settle_53 (by decide) (fun hc16 => ?_) (fun hc16 => ?_)
    · replace h := jt hc16 h
      refine j_iload E 6 dX5_settle_59 rfl ?_
      refine j_iload E 0 dX5_settle_61 rfl ?_
      refine j_iadd E dX5_settle_63 ?_
      refine j_istore (lv' := [(5, .int (v5 + r15.1)), (7, .int r15.1), (0, .ref v0), (1, .int v1), (2, .int v2), (3, .int v3), (4, .int v4), (6, .int v6)]) E dX5_settle_64 (by decide) rfl ?_
      refine j_iinc (v := (v6 + (1 : Int32))) (lv' := [(6, .int (v6 + (1 : Int32))), (5, .int (v5 + r15.1)), (7, .int r15.1), (0, .ref v0), (1, .int v1), (2, .int v2), (3, .int v3), (4, .int v4)]) E 7 dX5_settle_66 rfl rfl (by decide) rfl ?_
      refine j_goto (tgt := 33) E dX5_settle_69 (by decide) ?_
      exact j_sub [3, 4, 5, 6, 7, 1, 0] rfl (ih _ _ _ h)
    replace h := jf hc16 h
    refine j_bipush (v := (-2 : Int32)) E dX5_settle_56 (by decide) ?_
    cases h
    exact j_iret E dX5_settle_58
def mX5_settle_L4 (fu : Nat)  (v0 : Nat) : Nat → Int32 → Int32 → jM → Option (Int32 × jM)
  | 0, _, _, _ => none
  | n + 1, v1, v2, f =>
    if (1000000 : Int32) ≤ v2 then (
    mX5_settle_B107 fu v0 v1 f) else (
    (chk 5 f v0).bind fun _ =>
    (mX5_drain fu f v0 (1000 : Int32)).bind fun r3 =>
    (rdR 5 r3.2 v0 1).bind fun x4 =>
    (rdI 3 r3.2 x4 1).bind fun x5 =>
    mX5_settle_L33 fu (mX5_settle_L4 fu v0 n) v0 v1 v2 r3.1 x5 fu (0 : Int32) (0 : Int32) r3.2)
set_option maxRecDepth 100000 in
set_option maxHeartbeats 4000000 in
theorem wX5_settle_L4 {c : jS} {sz : Nat} {fu : Nat}  {v0 : Nat} {res : (Int32 × jM)} (E : jOk c cX5_settle 8 RX5 (some .int) 6 141)  : ∀ (n : Nat) (v1 : Int32) (v2 : Int32) (f : jM), mX5_settle_L4 fu  v0 n v1 v2 f = some res → J c (jZ c (some (.int res.1)) res.2 sz) f sz 0 0 4 [(0, .ref v0), (1, .int v1), (2, .int v2)] [] := by
  intro n
  induction n with
  | zero => intro v1 v2 f h; exact jn0 h
  | succ n ih =>
    intro v1 v2 f h
    rw [mX5_settle_L4] at h
    refine j_iload_n E 2 dX5_settle_4 rfl rfl ?_
    refine j_ldc E kcX5_175 dX5_settle_5 ?_
    refine j_icmp_ge (tgt := 107) E dX5_settle_7 (by decide) (fun hc1 => ?_) (fun hc1 => ?_)
    · replace h := jt hc1 h
      exact j_sub [0, 1] rfl (wX5_settle_B107 E  h)
    replace h := jf hc1 h
    refine j_aload_n E 0 dX5_settle_10 rfl rfl ?_
    refine j_sipush (v := (1000 : Int32)) E dX5_settle_11 (by decide) ?_
    obtain ⟨u2, h2, h⟩ := jb h
    obtain ⟨fs2, h2⟩ := chk_spec h2
    obtain ⟨r3, h3, h⟩ := jb h
    refine j_callV (As := [.int (1000 : Int32)]) (b := v0) (rest := []) (rc := 0) (rs := 0) E (sX5_drain h3) lwX5_drain lkX5_176 imX5_drain seX5_drain rfl h2 (by decide) rfl (Nat.le_of_ble_eq_true rfl) dX5_settle_14 ?_
    refine j_istore_n (lv' := [(3, .int r3.1), (0, .ref v0), (1, .int v1), (2, .int v2)]) E dX5_settle_17 rfl (by decide) rfl ?_
    refine j_aload_n E 1 dX5_settle_18 rfl rfl ?_
    obtain ⟨x4, h4, h⟩ := jb h
    refine j_getR E gX5_30 h4 dX5_settle_19 ?_
    obtain ⟨x5, h5, h⟩ := jb h
    refine j_getI E gX5_154 h5 dX5_settle_22 ?_
    refine j_istore (lv' := [(4, .int x5), (3, .int r3.1), (0, .ref v0), (1, .int v1), (2, .int v2)]) E dX5_settle_25 (by decide) rfl ?_
    refine j_iconst (v := (0 : Int32)) E dX5_settle_27 (by decide) ?_
    refine j_istore (lv' := [(5, .int (0 : Int32)), (4, .int x5), (3, .int r3.1), (0, .ref v0), (1, .int v1), (2, .int v2)]) E dX5_settle_28 (by decide) rfl ?_
    refine j_iconst (v := (0 : Int32)) E dX5_settle_30 (by decide) ?_
    refine j_istore (lv' := [(6, .int (0 : Int32)), (5, .int (0 : Int32)), (4, .int x5), (3, .int r3.1), (0, .ref v0), (1, .int v1), (2, .int v2)]) E dX5_settle_31 (by decide) rfl ?_
    exact j_sub [4, 5, 6, 3, 2, 1, 0] rfl (wX5_settle_L33 E ih _ _ _ _ h)
def mX5_settle (fu : Nat) (f : jM) (v0 : Nat) : Option (Int32 × jM) :=
    mX5_settle_L4 fu v0 fu (0 : Int32) (0 : Int32) f
set_option maxRecDepth 100000 in
set_option maxHeartbeats 4000000 in
theorem sX5_settle {l : Launch} {D : jD} {sz : Nat} {fu : Nat} {f : jM} {v0 : Nat} {res : (Int32 × jM)} (h : mX5_settle fu f v0 = some res) : jCt l D yX5_settle cX5_settle 8 (some .int) 6 141 [.ref v0] f sz 0 0 (some (.int res.1)) res.2 sz := by
  refine j_start (by decide +kernel) (Nat.le_of_ble_eq_true rfl) (fun c hcl hcD hcn E => ?_)
  subst hcl
  subst hcD
  replace E : jOk c cX5_settle 8 RX5 (some .int) 6 141 := E
  show J c (jZ c (some (.int res.1)) res.2 sz) f sz 0 0 0 [(0, .ref v0)] []
  unfold mX5_settle at h
  refine j_iconst (v := (0 : Int32)) E dX5_settle_0 (by decide) ?_
  refine j_istore_n (lv' := [(1, .int (0 : Int32)), (0, .ref v0)]) E dX5_settle_1 rfl (by decide) rfl ?_
  refine j_iconst (v := (0 : Int32)) E dX5_settle_2 (by decide) ?_
  refine j_istore_n (lv' := [(2, .int (0 : Int32)), (1, .int (0 : Int32)), (0, .ref v0)]) E dX5_settle_3 rfl (by decide) rfl ?_
  exact j_sub [2, 1, 0] rfl (wX5_settle_L4 E _ _ _ _ h)
