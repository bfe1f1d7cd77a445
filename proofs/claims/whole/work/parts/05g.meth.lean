def mX6_init (f : jM) (sz : Nat) (v0 : Nat) (v1 : Int32) : Option jRA :=
    ((nwI 0 f sz (120 : Int32)).bind fun f1 =>
    (wrV 6 f1 v0 2 (.ref sz)).bind fun f2 =>
    ((nwI 0 f2 (sz + 1) (120 : Int32)).bind fun f3 =>
    (wrV 6 f3 v0 3 (.ref (sz + 1))).bind fun f4 =>
    ((nwI 0 f4 ((sz + 1) + 1) (120 : Int32)).bind fun f5 =>
    (wrV 6 f5 v0 4 (.ref ((sz + 1) + 1))).bind fun f6 =>
    ((nwI 1 f6 (((sz + 1) + 1) + 1) (120 : Int32)).bind fun f7 =>
    (wrV 6 f7 v0 5 (.ref (((sz + 1) + 1) + 1))).bind fun f8 =>
    ((nwI 0 f8 ((((sz + 1) + 1) + 1) + 1) (1440 : Int32)).bind fun f9 =>
    (wrV 6 f9 v0 6 (.ref ((((sz + 1) + 1) + 1) + 1))).bind fun f10 =>
    ((nwI 0 f10 (((((sz + 1) + 1) + 1) + 1) + 1) (1440 : Int32)).bind fun f11 =>
    (wrV 6 f11 v0 7 (.ref (((((sz + 1) + 1) + 1) + 1) + 1))).bind fun f12 =>
    ((nwI 0 f12 ((((((sz + 1) + 1) + 1) + 1) + 1) + 1) (30 : Int32)).bind fun f13 =>
    (wrV 6 f13 v0 8 (.ref ((((((sz + 1) + 1) + 1) + 1) + 1) + 1))).bind fun f14 =>
    ((nwI 0 f14 (((((((sz + 1) + 1) + 1) + 1) + 1) + 1) + 1) (30 : Int32)).bind fun f15 =>
    (wrV 6 f15 v0 9 (.ref (((((((sz + 1) + 1) + 1) + 1) + 1) + 1) + 1))).bind fun f16 =>
    ((nwI 0 f16 ((((((((sz + 1) + 1) + 1) + 1) + 1) + 1) + 1) + 1) (600 : Int32)).bind fun f17 =>
    (wrV 6 f17 v0 10 (.ref ((((((((sz + 1) + 1) + 1) + 1) + 1) + 1) + 1) + 1))).bind fun f18 =>
    ((nwI 0 f18 (((((((((sz + 1) + 1) + 1) + 1) + 1) + 1) + 1) + 1) + 1) (5 : Int32)).bind fun f19 =>
    (wrV 6 f19 v0 11 (.ref (((((((((sz + 1) + 1) + 1) + 1) + 1) + 1) + 1) + 1) + 1))).bind fun f20 =>
    ((nwI 0 f20 ((((((((((sz + 1) + 1) + 1) + 1) + 1) + 1) + 1) + 1) + 1) + 1) (5 : Int32)).bind fun f21 =>
    (wrV 6 f21 v0 12 (.ref ((((((((((sz + 1) + 1) + 1) + 1) + 1) + 1) + 1) + 1) + 1) + 1))).bind fun f22 =>
    ((nwI 0 f22 (((((((((((sz + 1) + 1) + 1) + 1) + 1) + 1) + 1) + 1) + 1) + 1) + 1) (64 : Int32)).bind fun f23 =>
    (wrV 6 f23 v0 14 (.ref (((((((((((sz + 1) + 1) + 1) + 1) + 1) + 1) + 1) + 1) + 1) + 1) + 1))).bind fun f24 =>
    ((nwI 0 f24 ((((((((((((sz + 1) + 1) + 1) + 1) + 1) + 1) + 1) + 1) + 1) + 1) + 1) + 1) (64 : Int32)).bind fun f25 =>
    (wrV 6 f25 v0 15 (.ref ((((((((((((sz + 1) + 1) + 1) + 1) + 1) + 1) + 1) + 1) + 1) + 1) + 1) + 1))).bind fun f26 =>
    ((nwI 0 f26 (((((((((((((sz + 1) + 1) + 1) + 1) + 1) + 1) + 1) + 1) + 1) + 1) + 1) + 1) + 1) (64 : Int32)).bind fun f27 =>
    (wrV 6 f27 v0 16 (.ref (((((((((((((sz + 1) + 1) + 1) + 1) + 1) + 1) + 1) + 1) + 1) + 1) + 1) + 1) + 1))).bind fun f28 =>
    ((nwI 0 f28 ((((((((((((((sz + 1) + 1) + 1) + 1) + 1) + 1) + 1) + 1) + 1) + 1) + 1) + 1) + 1) + 1) (64 : Int32)).bind fun f29 =>
    (wrV 6 f29 v0 17 (.ref ((((((((((((((sz + 1) + 1) + 1) + 1) + 1) + 1) + 1) + 1) + 1) + 1) + 1) + 1) + 1) + 1))).bind fun f30 =>
    ((nwI 0 f30 (((((((((((((((sz + 1) + 1) + 1) + 1) + 1) + 1) + 1) + 1) + 1) + 1) + 1) + 1) + 1) + 1) + 1) (64 : Int32)).bind fun f31 =>
    (wrV 6 f31 v0 18 (.ref (((((((((((((((sz + 1) + 1) + 1) + 1) + 1) + 1) + 1) + 1) + 1) + 1) + 1) + 1) + 1) + 1) + 1))).bind fun f32 =>
    ((nwI 0 f32 ((((((((((((((((sz + 1) + 1) + 1) + 1) + 1) + 1) + 1) + 1) + 1) + 1) + 1) + 1) + 1) + 1) + 1) + 1) (64 : Int32)).bind fun f33 =>
    (wrV 6 f33 v0 19 (.ref ((((((((((((((((sz + 1) + 1) + 1) + 1) + 1) + 1) + 1) + 1) + 1) + 1) + 1) + 1) + 1) + 1) + 1) + 1))).bind fun f34 =>
    ((nwI 1 f34 (((((((((((((((((sz + 1) + 1) + 1) + 1) + 1) + 1) + 1) + 1) + 1) + 1) + 1) + 1) + 1) + 1) + 1) + 1) + 1) (120 : Int32)).bind fun f35 =>
    (wrV 6 f35 v0 20 (.ref (((((((((((((((((sz + 1) + 1) + 1) + 1) + 1) + 1) + 1) + 1) + 1) + 1) + 1) + 1) + 1) + 1) + 1) + 1) + 1))).bind fun f36 =>
    ((nwI 1 f36 ((((((((((((((((((sz + 1) + 1) + 1) + 1) + 1) + 1) + 1) + 1) + 1) + 1) + 1) + 1) + 1) + 1) + 1) + 1) + 1) + 1) (120 : Int32)).bind fun f37 =>
    (wrV 6 f37 v0 21 (.ref ((((((((((((((((((sz + 1) + 1) + 1) + 1) + 1) + 1) + 1) + 1) + 1) + 1) + 1) + 1) + 1) + 1) + 1) + 1) + 1) + 1))).bind fun f38 =>
    ((nwI 0 f38 (((((((((((((((((((sz + 1) + 1) + 1) + 1) + 1) + 1) + 1) + 1) + 1) + 1) + 1) + 1) + 1) + 1) + 1) + 1) + 1) + 1) + 1) (120 : Int32)).bind fun f39 =>
    (wrV 6 f39 v0 23 (.ref (((((((((((((((((((sz + 1) + 1) + 1) + 1) + 1) + 1) + 1) + 1) + 1) + 1) + 1) + 1) + 1) + 1) + 1) + 1) + 1) + 1) + 1))).bind fun f40 =>
    ((nwI 1 f40 ((((((((((((((((((((sz + 1) + 1) + 1) + 1) + 1) + 1) + 1) + 1) + 1) + 1) + 1) + 1) + 1) + 1) + 1) + 1) + 1) + 1) + 1) + 1) (120 : Int32)).bind fun f41 =>
    (wrV 6 f41 v0 24 (.ref ((((((((((((((((((((sz + 1) + 1) + 1) + 1) + 1) + 1) + 1) + 1) + 1) + 1) + 1) + 1) + 1) + 1) + 1) + 1) + 1) + 1) + 1) + 1))).bind fun f42 =>
    ((nwI 1 f42 (((((((((((((((((((((sz + 1) + 1) + 1) + 1) + 1) + 1) + 1) + 1) + 1) + 1) + 1) + 1) + 1) + 1) + 1) + 1) + 1) + 1) + 1) + 1) + 1) (600 : Int32)).bind fun f43 =>
    (wrV 6 f43 v0 25 (.ref (((((((((((((((((((((sz + 1) + 1) + 1) + 1) + 1) + 1) + 1) + 1) + 1) + 1) + 1) + 1) + 1) + 1) + 1) + 1) + 1) + 1) + 1) + 1) + 1))).bind fun f44 =>
    ((nwI 1 f44 ((((((((((((((((((((((sz + 1) + 1) + 1) + 1) + 1) + 1) + 1) + 1) + 1) + 1) + 1) + 1) + 1) + 1) + 1) + 1) + 1) + 1) + 1) + 1) + 1) + 1) (120 : Int32)).bind fun f45 =>
    (wrV 6 f45 v0 26 (.ref ((((((((((((((((((((((sz + 1) + 1) + 1) + 1) + 1) + 1) + 1) + 1) + 1) + 1) + 1) + 1) + 1) + 1) + 1) + 1) + 1) + 1) + 1) + 1) + 1) + 1))).bind fun f46 =>
    ((nwI 1 f46 (((((((((((((((((((((((sz + 1) + 1) + 1) + 1) + 1) + 1) + 1) + 1) + 1) + 1) + 1) + 1) + 1) + 1) + 1) + 1) + 1) + 1) + 1) + 1) + 1) + 1) + 1) (120 : Int32)).bind fun f47 =>
    (wrV 6 f47 v0 27 (.ref (((((((((((((((((((((((sz + 1) + 1) + 1) + 1) + 1) + 1) + 1) + 1) + 1) + 1) + 1) + 1) + 1) + 1) + 1) + 1) + 1) + 1) + 1) + 1) + 1) + 1) + 1))).bind fun f48 =>
    if (1 : Int32) ≤ v1 then (
    if v1 ≤ (5 : Int32) then (
    (wrV 6 f48 v0 1 (.int v1)).bind fun f51 =>
    some (f51, ((((((((((((((((((((((((sz + 1) + 1) + 1) + 1) + 1) + 1) + 1) + 1) + 1) + 1) + 1) + 1) + 1) + 1) + 1) + 1) + 1) + 1) + 1) + 1) + 1) + 1) + 1) + 1), 0, 0)) else (
    (wrV 6 f48 v0 1 (.int (5 : Int32))).bind fun f52 =>
    some (f52, ((((((((((((((((((((((((sz + 1) + 1) + 1) + 1) + 1) + 1) + 1) + 1) + 1) + 1) + 1) + 1) + 1) + 1) + 1) + 1) + 1) + 1) + 1) + 1) + 1) + 1) + 1) + 1), 0, 0))) else (
    (wrV 6 f48 v0 1 (.int (1 : Int32))).bind fun f53 =>
    some (f53, ((((((((((((((((((((((((sz + 1) + 1) + 1) + 1) + 1) + 1) + 1) + 1) + 1) + 1) + 1) + 1) + 1) + 1) + 1) + 1) + 1) + 1) + 1) + 1) + 1) + 1) + 1) + 1), 0, 0))).map (jcnt 1 (Int32.toNatClampNeg (120 : Int32)))).map (jcnt 1 (Int32.toNatClampNeg (120 : Int32)))).map (jcnt 1 (Int32.toNatClampNeg (600 : Int32)))).map (jcnt 1 (Int32.toNatClampNeg (120 : Int32)))).map (jcnt 1 (Int32.toNatClampNeg (120 : Int32)))).map (jcnt 1 (Int32.toNatClampNeg (120 : Int32)))).map (jcnt 1 (Int32.toNatClampNeg (120 : Int32)))).map (jcnt 1 (Int32.toNatClampNeg (64 : Int32)))).map (jcnt 1 (Int32.toNatClampNeg (64 : Int32)))).map (jcnt 1 (Int32.toNatClampNeg (64 : Int32)))).map (jcnt 1 (Int32.toNatClampNeg (64 : Int32)))).map (jcnt 1 (Int32.toNatClampNeg (64 : Int32)))).map (jcnt 1 (Int32.toNatClampNeg (64 : Int32)))).map (jcnt 1 (Int32.toNatClampNeg (5 : Int32)))).map (jcnt 1 (Int32.toNatClampNeg (5 : Int32)))).map (jcnt 1 (Int32.toNatClampNeg (600 : Int32)))).map (jcnt 1 (Int32.toNatClampNeg (30 : Int32)))).map (jcnt 1 (Int32.toNatClampNeg (30 : Int32)))).map (jcnt 1 (Int32.toNatClampNeg (1440 : Int32)))).map (jcnt 1 (Int32.toNatClampNeg (1440 : Int32)))).map (jcnt 1 (Int32.toNatClampNeg (120 : Int32)))).map (jcnt 1 (Int32.toNatClampNeg (120 : Int32)))).map (jcnt 1 (Int32.toNatClampNeg (120 : Int32)))).map (jcnt 1 (Int32.toNatClampNeg (120 : Int32)))
set_option maxRecDepth 100000 in
set_option maxHeartbeats 4000000 in
theorem sX6_init {l : Launch} {D : jD} {sz : Nat} {f : jM} {v0 : Nat} {v1 : Int32} {res : jRA} (h : mX6_init f sz v0 v1 = some res) : jCt l D yX6_init cX6_init 2 none 1 12 [.ref v0, .int v1] f sz res.2.2.1 res.2.2.2 none res.1 res.2.1 := by
  refine j_start (by decide +kernel) (Nat.le_of_ble_eq_true rfl) (fun c hcl hcD hcn E => ?_)
  subst hcl
  subst hcD
  replace E : jOk c cX6_init 2 RX6 none 1 12 := E
  replace hcn : (j_h c).name = "<init>" := hcn
  show J c (jZ c none res.1 res.2.1) f sz res.2.2.1 res.2.2.2 0 [(0, .ref v0), (1, .int v1)] []
  unfold mX6_init at h
  refine j_aload_n E 0 dX6_init_0 rfl rfl ?_
  refine j_objInit E lkX6_7 oi_in oi_co (by decide) (by decide) dX6_init_1 ?_
  refine j_aload_n E 0 dX6_init_4 rfl rfl ?_
  refine j_bipush (v := (120 : Int32)) E dX6_init_5 (by decide) ?_
  obtain ⟨r1, q1, e1⟩ := jmp h
  clear h
  subst e1
  have h := q1
  obtain ⟨f1, h1, h⟩ := jb h
  obtain ⟨h1a, h1b, h1⟩ := nwI_spec h1
  subst h1
  refine j_newa (kd := 0) (rc := r1.2.2.1) (rs := r1.2.2.2) E rfl (by decide) rfl (fun _ q => by cases q) h1a rfl (Nat.le_trans (Nat.mul_le_mul_right _ h1b) (by decide)) dX6_init_7 ?_
  obtain ⟨f2, h2, h⟩ := jb h
  refine j_putF E hcn gfX6_13 h2 rfl rfl dX6_init_9 ?_
  refine j_aload_n E 0 dX6_init_12 rfl rfl ?_
  refine j_bipush (v := (120 : Int32)) E dX6_init_13 (by decide) ?_
  obtain ⟨r3, q3, e3⟩ := jmp h
  clear h
  subst e3
  have h := q3
  obtain ⟨f3, h3, h⟩ := jb h
  obtain ⟨h3a, h3b, h3⟩ := nwI_spec h3
  subst h3
  refine j_newa (kd := 0) (rc := r3.2.2.1) (rs := r3.2.2.2) E rfl (by decide) rfl (fun _ q => by cases q) h3a rfl (Nat.le_trans (Nat.mul_le_mul_right _ h3b) (by decide)) dX6_init_15 ?_
  obtain ⟨f4, h4, h⟩ := jb h
  refine j_putF E hcn gfX6_17 h4 rfl rfl dX6_init_17 ?_
  refine j_aload_n E 0 dX6_init_20 rfl rfl ?_
  refine j_bipush (v := (120 : Int32)) E dX6_init_21 (by decide) ?_
  obtain ⟨r5, q5, e5⟩ := jmp h
  clear h
  subst e5
  have h := q5
  obtain ⟨f5, h5, h⟩ := jb h
  obtain ⟨h5a, h5b, h5⟩ := nwI_spec h5
  subst h5
  refine j_newa (kd := 0) (rc := r5.2.2.1) (rs := r5.2.2.2) E rfl (by decide) rfl (fun _ q => by cases q) h5a rfl (Nat.le_trans (Nat.mul_le_mul_right _ h5b) (by decide)) dX6_init_23 ?_
  obtain ⟨f6, h6, h⟩ := jb h
  refine j_putF E hcn gfX6_20 h6 rfl rfl dX6_init_25 ?_
  refine j_aload_n E 0 dX6_init_28 rfl rfl ?_
  refine j_bipush (v := (120 : Int32)) E dX6_init_29 (by decide) ?_
  obtain ⟨r7, q7, e7⟩ := jmp h
  clear h
  subst e7
  have h := q7
  obtain ⟨f7, h7, h⟩ := jb h
  obtain ⟨h7a, h7b, h7⟩ := nwI_spec h7
  subst h7
  refine j_newa (kd := 1) (rc := r7.2.2.1) (rs := r7.2.2.2) E rfl (by decide) rfl (fun _ q => by cases q) h7a rfl (Nat.le_trans (Nat.mul_le_mul_right _ h7b) (by decide)) dX6_init_31 ?_
  obtain ⟨f8, h8, h⟩ := jb h
  refine j_putF E hcn gfX6_23 h8 rfl rfl dX6_init_33 ?_
  refine j_aload_n E 0 dX6_init_36 rfl rfl ?_
  refine j_sipush (v := (1440 : Int32)) E dX6_init_37 (by decide) ?_
  obtain ⟨r9, q9, e9⟩ := jmp h
  clear h
  subst e9
  have h := q9
  obtain ⟨f9, h9, h⟩ := jb h
  obtain ⟨h9a, h9b, h9⟩ := nwI_spec h9
  subst h9
  refine j_newa (kd := 0) (rc := r9.2.2.1) (rs := r9.2.2.2) E rfl (by decide) rfl (fun _ q => by cases q) h9a rfl (Nat.le_trans (Nat.mul_le_mul_right _ h9b) (by decide)) dX6_init_40 ?_
  obtain ⟨f10, h10, h⟩ := jb h
  refine j_putF E hcn gfX6_27 h10 rfl rfl dX6_init_42 ?_
  refine j_aload_n E 0 dX6_init_45 rfl rfl ?_
  refine j_sipush (v := (1440 : Int32)) E dX6_init_46 (by decide) ?_
  obtain ⟨r11, q11, e11⟩ := jmp h
  clear h
  subst e11
  have h := q11
  obtain ⟨f11, h11, h⟩ := jb h
  obtain ⟨h11a, h11b, h11⟩ := nwI_spec h11
  subst h11
  refine j_newa (kd := 0) (rc := r11.2.2.1) (rs := r11.2.2.2) E rfl (by decide) rfl (fun _ q => by cases q) h11a rfl (Nat.le_trans (Nat.mul_le_mul_right _ h11b) (by decide)) dX6_init_49 ?_
  obtain ⟨f12, h12, h⟩ := jb h
  refine j_putF E hcn gfX6_30 h12 rfl rfl dX6_init_51 ?_
  refine j_aload_n E 0 dX6_init_54 rfl rfl ?_
  refine j_bipush (v := (30 : Int32)) E dX6_init_55 (by decide) ?_
  obtain ⟨r13, q13, e13⟩ := jmp h
  clear h
  subst e13
  have h := q13
  obtain ⟨f13, h13, h⟩ := jb h
  obtain ⟨h13a, h13b, h13⟩ := nwI_spec h13
  subst h13
  refine j_newa (kd := 0) (rc := r13.2.2.1) (rs := r13.2.2.2) E rfl (by decide) rfl (fun _ q => by cases q) h13a rfl (Nat.le_trans (Nat.mul_le_mul_right _ h13b) (by decide)) dX6_init_57 ?_
  obtain ⟨f14, h14, h⟩ := jb h
  refine j_putF E hcn gfX6_33 h14 rfl rfl dX6_init_59 ?_
  refine j_aload_n E 0 dX6_init_62 rfl rfl ?_
  refine j_bipush (v := (30 : Int32)) E dX6_init_63 (by decide) ?_
  obtain ⟨r15, q15, e15⟩ := jmp h
  clear h
  subst e15
  have h := q15
  obtain ⟨f15, h15, h⟩ := jb h
  obtain ⟨h15a, h15b, h15⟩ := nwI_spec h15
  subst h15
  refine j_newa (kd := 0) (rc := r15.2.2.1) (rs := r15.2.2.2) E rfl (by decide) rfl (fun _ q => by cases q) h15a rfl (Nat.le_trans (Nat.mul_le_mul_right _ h15b) (by decide)) dX6_init_65 ?_
  obtain ⟨f16, h16, h⟩ := jb h
  refine j_putF E hcn gfX6_36 h16 rfl rfl dX6_init_67 ?_
  refine j_aload_n E 0 dX6_init_70 rfl rfl ?_
  refine j_sipush (v := (600 : Int32)) E dX6_init_71 (by decide) ?_
  obtain ⟨r17, q17, e17⟩ := jmp h
  clear h
  subst e17
  have h := q17
  obtain ⟨f17, h17, h⟩ := jb h
  obtain ⟨h17a, h17b, h17⟩ := nwI_spec h17
  subst h17
  refine j_newa (kd := 0) (rc := r17.2.2.1) (rs := r17.2.2.2) E rfl (by decide) rfl (fun _ q => by cases q) h17a rfl (Nat.le_trans (Nat.mul_le_mul_right _ h17b) (by decide)) dX6_init_74 ?_
  obtain ⟨f18, h18, h⟩ := jb h
  refine j_putF E hcn gfX6_39 h18 rfl rfl dX6_init_76 ?_
  refine j_aload_n E 0 dX6_init_79 rfl rfl ?_
  refine j_iconst (v := (5 : Int32)) E dX6_init_80 (by decide) ?_
  obtain ⟨r19, q19, e19⟩ := jmp h
  clear h
  subst e19
  have h := q19
  obtain ⟨f19, h19, h⟩ := jb h
  obtain ⟨h19a, h19b, h19⟩ := nwI_spec h19
  subst h19
  refine j_newa (kd := 0) (rc := r19.2.2.1) (rs := r19.2.2.2) E rfl (by decide) rfl (fun _ q => by cases q) h19a rfl (Nat.le_trans (Nat.mul_le_mul_right _ h19b) (by decide)) dX6_init_81 ?_
  obtain ⟨f20, h20, h⟩ := jb h
  refine j_putF E hcn gfX6_42 h20 rfl rfl dX6_init_83 ?_
  refine j_aload_n E 0 dX6_init_86 rfl rfl ?_
  refine j_iconst (v := (5 : Int32)) E dX6_init_87 (by decide) ?_
  obtain ⟨r21, q21, e21⟩ := jmp h
  clear h
  subst e21
  have h := q21
  obtain ⟨f21, h21, h⟩ := jb h
  obtain ⟨h21a, h21b, h21⟩ := nwI_spec h21
  subst h21
  refine j_newa (kd := 0) (rc := r21.2.2.1) (rs := r21.2.2.2) E rfl (by decide) rfl (fun _ q => by cases q) h21a rfl (Nat.le_trans (Nat.mul_le_mul_right _ h21b) (by decide)) dX6_init_88 ?_
  obtain ⟨f22, h22, h⟩ := jb h
  refine j_putF E hcn gfX6_45 h22 rfl rfl dX6_init_90 ?_
  refine j_aload_n E 0 dX6_init_93 rfl rfl ?_
  refine j_bipush (v := (64 : Int32)) E dX6_init_94 (by decide) ?_
  obtain ⟨r23, q23, e23⟩ := jmp h
  clear h
  subst e23
  have h := q23
  obtain ⟨f23, h23, h⟩ := jb h
  obtain ⟨h23a, h23b, h23⟩ := nwI_spec h23
  subst h23
  refine j_newa (kd := 0) (rc := r23.2.2.1) (rs := r23.2.2.2) E rfl (by decide) rfl (fun _ q => by cases q) h23a rfl (Nat.le_trans (Nat.mul_le_mul_right _ h23b) (by decide)) dX6_init_96 ?_
  obtain ⟨f24, h24, h⟩ := jb h
  refine j_putF E hcn gfX6_48 h24 rfl rfl dX6_init_98 ?_
  refine j_aload_n E 0 dX6_init_101 rfl rfl ?_
  refine j_bipush (v := (64 : Int32)) E dX6_init_102 (by decide) ?_
  obtain ⟨r25, q25, e25⟩ := jmp h
  clear h
  subst e25
  have h := q25
  obtain ⟨f25, h25, h⟩ := jb h
  obtain ⟨h25a, h25b, h25⟩ := nwI_spec h25
  subst h25
  refine j_newa (kd := 0) (rc := r25.2.2.1) (rs := r25.2.2.2) E rfl (by decide) rfl (fun _ q => by cases q) h25a rfl (Nat.le_trans (Nat.mul_le_mul_right _ h25b) (by decide)) dX6_init_104 ?_
  obtain ⟨f26, h26, h⟩ := jb h
  refine j_putF E hcn gfX6_51 h26 rfl rfl dX6_init_106 ?_
  refine j_aload_n E 0 dX6_init_109 rfl rfl ?_
  refine j_bipush (v := (64 : Int32)) E dX6_init_110 (by decide) ?_
  obtain ⟨r27, q27, e27⟩ := jmp h
  clear h
  subst e27
  have h := q27
  obtain ⟨f27, h27, h⟩ := jb h
  obtain ⟨h27a, h27b, h27⟩ := nwI_spec h27
  subst h27
  refine j_newa (kd := 0) (rc := r27.2.2.1) (rs := r27.2.2.2) E rfl (by decide) rfl (fun _ q => by cases q) h27a rfl (Nat.le_trans (Nat.mul_le_mul_right _ h27b) (by decide)) dX6_init_112 ?_
  obtain ⟨f28, h28, h⟩ := jb h
  refine j_putF E hcn gfX6_54 h28 rfl rfl dX6_init_114 ?_
  refine j_aload_n E 0 dX6_init_117 rfl rfl ?_
  refine j_bipush (v := (64 : Int32)) E dX6_init_118 (by decide) ?_
  obtain ⟨r29, q29, e29⟩ := jmp h
  clear h
  subst e29
  have h := q29
  obtain ⟨f29, h29, h⟩ := jb h
  obtain ⟨h29a, h29b, h29⟩ := nwI_spec h29
  subst h29
  refine j_newa (kd := 0) (rc := r29.2.2.1) (rs := r29.2.2.2) E rfl (by decide) rfl (fun _ q => by cases q) h29a rfl (Nat.le_trans (Nat.mul_le_mul_right _ h29b) (by decide)) dX6_init_120 ?_
  obtain ⟨f30, h30, h⟩ := jb h
  refine j_putF E hcn gfX6_57 h30 rfl rfl dX6_init_122 ?_
  refine j_aload_n E 0 dX6_init_125 rfl rfl ?_
  refine j_bipush (v := (64 : Int32)) E dX6_init_126 (by decide) ?_
  obtain ⟨r31, q31, e31⟩ := jmp h
  clear h
  subst e31
  have h := q31
  obtain ⟨f31, h31, h⟩ := jb h
  obtain ⟨h31a, h31b, h31⟩ := nwI_spec h31
  subst h31
  refine j_newa (kd := 0) (rc := r31.2.2.1) (rs := r31.2.2.2) E rfl (by decide) rfl (fun _ q => by cases q) h31a rfl (Nat.le_trans (Nat.mul_le_mul_right _ h31b) (by decide)) dX6_init_128 ?_
  obtain ⟨f32, h32, h⟩ := jb h
  refine j_putF E hcn gfX6_60 h32 rfl rfl dX6_init_130 ?_
  refine j_aload_n E 0 dX6_init_133 rfl rfl ?_
  refine j_bipush (v := (64 : Int32)) E dX6_init_134 (by decide) ?_
  obtain ⟨r33, q33, e33⟩ := jmp h
  clear h
  subst e33
  have h := q33
  obtain ⟨f33, h33, h⟩ := jb h
  obtain ⟨h33a, h33b, h33⟩ := nwI_spec h33
  subst h33
  refine j_newa (kd := 0) (rc := r33.2.2.1) (rs := r33.2.2.2) E rfl (by decide) rfl (fun _ q => by cases q) h33a rfl (Nat.le_trans (Nat.mul_le_mul_right _ h33b) (by decide)) dX6_init_136 ?_
  obtain ⟨f34, h34, h⟩ := jb h
  refine j_putF E hcn gfX6_63 h34 rfl rfl dX6_init_138 ?_
  refine j_aload_n E 0 dX6_init_141 rfl rfl ?_
  refine j_bipush (v := (120 : Int32)) E dX6_init_142 (by decide) ?_
  obtain ⟨r35, q35, e35⟩ := jmp h
  clear h
  subst e35
  have h := q35
  obtain ⟨f35, h35, h⟩ := jb h
  obtain ⟨h35a, h35b, h35⟩ := nwI_spec h35
  subst h35
  refine j_newa (kd := 1) (rc := r35.2.2.1) (rs := r35.2.2.2) E rfl (by decide) rfl (fun _ q => by cases q) h35a rfl (Nat.le_trans (Nat.mul_le_mul_right _ h35b) (by decide)) dX6_init_144 ?_
  obtain ⟨f36, h36, h⟩ := jb h
  refine j_putF E hcn gfX6_66 h36 rfl rfl dX6_init_146 ?_
  refine j_aload_n E 0 dX6_init_149 rfl rfl ?_
  refine j_bipush (v := (120 : Int32)) E dX6_init_150 (by decide) ?_
  obtain ⟨r37, q37, e37⟩ := jmp h
  clear h
  subst e37
  have h := q37
  obtain ⟨f37, h37, h⟩ := jb h
  obtain ⟨h37a, h37b, h37⟩ := nwI_spec h37
  subst h37
  refine j_newa (kd := 1) (rc := r37.2.2.1) (rs := r37.2.2.2) E rfl (by decide) rfl (fun _ q => by cases q) h37a rfl (Nat.le_trans (Nat.mul_le_mul_right _ h37b) (by decide)) dX6_init_152 ?_
  obtain ⟨f38, h38, h⟩ := jb h
  refine j_putF E hcn gfX6_69 h38 rfl rfl dX6_init_154 ?_
  refine j_aload_n E 0 dX6_init_157 rfl rfl ?_
  refine j_bipush (v := (120 : Int32)) E dX6_init_158 (by decide) ?_
  obtain ⟨r39, q39, e39⟩ := jmp h
  clear h
  subst e39
  have h := q39
  obtain ⟨f39, h39, h⟩ := jb h
  obtain ⟨h39a, h39b, h39⟩ := nwI_spec h39
  subst h39
  refine j_newa (kd := 0) (rc := r39.2.2.1) (rs := r39.2.2.2) E rfl (by decide) rfl (fun _ q => by cases q) h39a rfl (Nat.le_trans (Nat.mul_le_mul_right _ h39b) (by decide)) dX6_init_160 ?_
  obtain ⟨f40, h40, h⟩ := jb h
  refine j_putF E hcn gfX6_72 h40 rfl rfl dX6_init_162 ?_
  refine j_aload_n E 0 dX6_init_165 rfl rfl ?_
  refine j_bipush (v := (120 : Int32)) E dX6_init_166 (by decide) ?_
  obtain ⟨r41, q41, e41⟩ := jmp h
  clear h
  subst e41
  have h := q41
  obtain ⟨f41, h41, h⟩ := jb h
  obtain ⟨h41a, h41b, h41⟩ := nwI_spec h41
  subst h41
  refine j_newa (kd := 1) (rc := r41.2.2.1) (rs := r41.2.2.2) E rfl (by decide) rfl (fun _ q => by cases q) h41a rfl (Nat.le_trans (Nat.mul_le_mul_right _ h41b) (by decide)) dX6_init_168 ?_
  obtain ⟨f42, h42, h⟩ := jb h
  refine j_putF E hcn gfX6_75 h42 rfl rfl dX6_init_170 ?_
  refine j_aload_n E 0 dX6_init_173 rfl rfl ?_
  refine j_sipush (v := (600 : Int32)) E dX6_init_174 (by decide) ?_
  obtain ⟨r43, q43, e43⟩ := jmp h
  clear h
  subst e43
  have h := q43
  obtain ⟨f43, h43, h⟩ := jb h
  obtain ⟨h43a, h43b, h43⟩ := nwI_spec h43
  subst h43
  refine j_newa (kd := 1) (rc := r43.2.2.1) (rs := r43.2.2.2) E rfl (by decide) rfl (fun _ q => by cases q) h43a rfl (Nat.le_trans (Nat.mul_le_mul_right _ h43b) (by decide)) dX6_init_177 ?_
  obtain ⟨f44, h44, h⟩ := jb h
  refine j_putF E hcn gfX6_78 h44 rfl rfl dX6_init_179 ?_
  refine j_aload_n E 0 dX6_init_182 rfl rfl ?_
  refine j_bipush (v := (120 : Int32)) E dX6_init_183 (by decide) ?_
  obtain ⟨r45, q45, e45⟩ := jmp h
  clear h
  subst e45
  have h := q45
  obtain ⟨f45, h45, h⟩ := jb h
  obtain ⟨h45a, h45b, h45⟩ := nwI_spec h45
  subst h45
  refine j_newa (kd := 1) (rc := r45.2.2.1) (rs := r45.2.2.2) E rfl (by decide) rfl (fun _ q => by cases q) h45a rfl (Nat.le_trans (Nat.mul_le_mul_right _ h45b) (by decide)) dX6_init_185 ?_
  obtain ⟨f46, h46, h⟩ := jb h
  refine j_putF E hcn gfX6_81 h46 rfl rfl dX6_init_187 ?_
  refine j_aload_n E 0 dX6_init_190 rfl rfl ?_
  refine j_bipush (v := (120 : Int32)) E dX6_init_191 (by decide) ?_
  obtain ⟨r47, q47, e47⟩ := jmp h
  clear h
  subst e47
  have h := q47
  obtain ⟨f47, h47, h⟩ := jb h
  obtain ⟨h47a, h47b, h47⟩ := nwI_spec h47
  subst h47
  refine j_newa (kd := 1) (rc := r47.2.2.1) (rs := r47.2.2.2) E rfl (by decide) rfl (fun _ q => by cases q) h47a rfl (Nat.le_trans (Nat.mul_le_mul_right _ h47b) (by decide)) dX6_init_193 ?_
  obtain ⟨f48, h48, h⟩ := jb h
  refine j_putF E hcn gfX6_84 h48 rfl rfl dX6_init_195 ?_
  refine j_aload_n E 0 dX6_init_198 rfl rfl ?_
  refine j_iload_n E 1 dX6_init_199 rfl rfl ?_
  refine j_iconst (v := (1 : Int32)) E dX6_init_200 (by decide) ?_
  refine j_icmp_ge (tgt := 208) E dX6_init_201 (by decide) (fun hc49 => ?_) (fun hc49 => ?_)
  · replace h := jt hc49 h
    refine j_iload_n E 1 dX6_init_208 rfl rfl ?_
    refine j_iconst (v := (5 : Int32)) E dX6_init_209 (by decide) ?_
    refine j_icmp_le (tgt := 217) E dX6_init_210 (by decide) (fun hc50 => ?_) (fun hc50 => ?_)
    · replace h := jt hc50 h
      refine j_iload_n E 1 dX6_init_217 rfl rfl ?_
      obtain ⟨f51, h51, h⟩ := jb h
      refine j_putF E hcn gfX6_87 h51 rfl rfl dX6_init_218 ?_
      cases h
      exact j_vret E dX6_init_221
    replace h := jf hc50 h
    refine j_iconst (v := (5 : Int32)) E dX6_init_213 (by decide) ?_
    refine j_goto (tgt := 218) E dX6_init_214 (by decide) ?_
    obtain ⟨f52, h52, h⟩ := jb h
    refine j_putF E hcn gfX6_87 h52 rfl rfl dX6_init_218 ?_
    cases h
    exact j_vret E dX6_init_221
  replace h := jf hc49 h
  refine j_iconst (v := (1 : Int32)) E dX6_init_204 (by decide) ?_
  refine j_goto (tgt := 218) E dX6_init_205 (by decide) ?_
  obtain ⟨f53, h53, h⟩ := jb h
  refine j_putF E hcn gfX6_87 h53 rfl rfl dX6_init_218 ?_
  cases h
  exact j_vret E dX6_init_221
def mX6_isNode (f : jM) (v0 : Nat) (v1 : Int32) : Option (Int32 × jM) :=
    if v1 < 0 then (
    some ((0 : Int32), f)) else (
    (rdI 6 f v0 1).bind fun x2 =>
    if x2 ≤ v1 then (
    some ((0 : Int32), f)) else (
    some ((1 : Int32), f)))
set_option maxRecDepth 100000 in
set_option maxHeartbeats 4000000 in
theorem sX6_isNode {l : Launch} {D : jD} {sz : Nat} {f : jM} {v0 : Nat} {v1 : Int32} {res : (Int32 × jM)} (h : mX6_isNode f v0 v1 = some res) : jCt l D yX6_isNode cX6_isNode 2 (some .boolean) 0 0 [.ref v0, .int v1] f sz 0 0 (some (.int res.1)) res.2 sz := by
  refine j_start (by decide +kernel) (Nat.le_of_ble_eq_true rfl) (fun c hcl hcD hcn E => ?_)
  subst hcl
  subst hcD
  replace E : jOk c cX6_isNode 2 RX6 (some .boolean) 0 0 := E
  show J c (jZ c (some (.int res.1)) res.2 sz) f sz 0 0 0 [(0, .ref v0), (1, .int v1)] []
  unfold mX6_isNode at h
  refine j_iload_n E 1 dX6_isNode_0 rfl rfl ?_
  refine j_if_lt (tgt := 16) E dX6_isNode_1 (by decide) (fun hc1 => ?_) (fun hc1 => ?_)
  · replace h := jt hc1 h
    refine j_iconst (v := (0 : Int32)) E dX6_isNode_16 (by decide) ?_
    cases h
    exact j_zret (v := (0 : Int32)) E (by decide +kernel) dX6_isNode_17
  replace h := jf hc1 h
  refine j_iload_n E 1 dX6_isNode_4 rfl rfl ?_
  refine j_aload_n E 0 dX6_isNode_5 rfl rfl ?_
  obtain ⟨x2, h2, h⟩ := jb h
  refine j_getI E gX6_87 h2 dX6_isNode_6 ?_
  refine j_icmp_ge (tgt := 16) E dX6_isNode_9 (by decide) (fun hc3 => ?_) (fun hc3 => ?_)
  · replace h := jt hc3 h
    refine j_iconst (v := (0 : Int32)) E dX6_isNode_16 (by decide) ?_
    cases h
    exact j_zret (v := (0 : Int32)) E (by decide +kernel) dX6_isNode_17
  replace h := jf hc3 h
  refine j_iconst (v := (1 : Int32)) E dX6_isNode_12 (by decide) ?_
  refine j_goto (tgt := 17) E dX6_isNode_13 (by decide) ?_
  cases h
  exact j_zret (v := (1 : Int32)) E (by decide +kernel) dX6_isNode_17
def mX6_isRegister (f : jM) (v0 : Nat) (v1 : Int32) (v2 : Int32) : Option (Int32 × jM) :=
    (chk 6 f v0).bind fun _ =>
    (mX6_isNode f v0 v1).bind fun r2 =>
    if r2.1 = 0 then (
    some ((0 : Int32), r2.2)) else (
    if v2 < 0 then (
    some ((0 : Int32), r2.2)) else (
    if (6 : Int32) ≤ v2 then (
    some ((0 : Int32), r2.2)) else (
    some ((1 : Int32), r2.2))))
set_option maxRecDepth 100000 in
set_option maxHeartbeats 4000000 in
theorem sX6_isRegister {l : Launch} {D : jD} {sz : Nat} {f : jM} {v0 : Nat} {v1 : Int32} {v2 : Int32} {res : (Int32 × jM)} (h : mX6_isRegister f v0 v1 v2 = some res) : jCt l D yX6_isRegister cX6_isRegister 3 (some .boolean) 1 21 [.ref v0, .int v1, .int v2] f sz 0 0 (some (.int res.1)) res.2 sz := by
  refine j_start (by decide +kernel) (Nat.le_of_ble_eq_true rfl) (fun c hcl hcD hcn E => ?_)
  subst hcl
  subst hcD
  replace E : jOk c cX6_isRegister 3 RX6 (some .boolean) 1 21 := E
  show J c (jZ c (some (.int res.1)) res.2 sz) f sz 0 0 0 [(0, .ref v0), (1, .int v1), (2, .int v2)] []
  unfold mX6_isRegister at h
  refine j_aload_n E 0 dX6_isRegister_0 rfl rfl ?_
  refine j_iload_n E 1 dX6_isRegister_1 rfl rfl ?_
  obtain ⟨u1, h1, h⟩ := jb h
  obtain ⟨fs1, h1⟩ := chk_spec h1
  obtain ⟨r2, h2, h⟩ := jb h
  refine j_callV (As := [.int v1]) (b := v0) (rest := []) (rc := 0) (rs := 0) E (sX6_isNode h2) lwX6_isNode lkX6_90 imX6_isNode seX6_isNode rfl h1 (by decide) rfl (Nat.le_of_ble_eq_true rfl) dX6_isRegister_2 ?_
  refine j_if_eq (tgt := 22) E dX6_isRegister_5 (by decide) (fun hc3 => ?_) (fun hc3 => ?_)
  · replace h := jt hc3 h
    refine j_iconst (v := (0 : Int32)) E dX6_isRegister_22 (by decide) ?_
    cases h
    exact j_zret (v := (0 : Int32)) E (by decide +kernel) dX6_isRegister_23
  replace h := jf hc3 h
  refine j_iload_n E 2 dX6_isRegister_8 rfl rfl ?_
  refine j_if_lt (tgt := 22) E dX6_isRegister_9 (by decide) (fun hc4 => ?_) (fun hc4 => ?_)
  · replace h := jt hc4 h
    refine j_iconst (v := (0 : Int32)) E dX6_isRegister_22 (by decide) ?_
    cases h
    exact j_zret (v := (0 : Int32)) E (by decide +kernel) dX6_isRegister_23
  replace h := jf hc4 h
  refine j_iload_n E 2 dX6_isRegister_12 rfl rfl ?_
  refine j_bipush (v := (6 : Int32)) E dX6_isRegister_13 (by decide) ?_
  refine j_icmp_ge (tgt := 22) E dX6_isRegister_15 (by decide) (fun hc5 => ?_) (fun hc5 => ?_)
  · replace h := jt hc5 h
    refine j_iconst (v := (0 : Int32)) E dX6_isRegister_22 (by decide) ?_
    cases h
    exact j_zret (v := (0 : Int32)) E (by decide +kernel) dX6_isRegister_23
  replace h := jf hc5 h
  refine j_iconst (v := (1 : Int32)) E dX6_isRegister_18 (by decide) ?_
  refine j_goto (tgt := 23) E dX6_isRegister_19 (by decide) ?_
  cases h
  exact j_zret (v := (1 : Int32)) E (by decide +kernel) dX6_isRegister_23
def mX6_isObject (f : jM) (v0 : Nat) (v1 : Int32) (v2 : Int32) : Option (Int32 × jM) :=
    (chk 6 f v0).bind fun _ =>
    (mX6_isNode f v0 v1).bind fun r2 =>
    if r2.1 = 0 then (
    some ((0 : Int32), r2.2)) else (
    if v2 < 0 then (
    some ((0 : Int32), r2.2)) else (
    if (24 : Int32) ≤ v2 then (
    some ((0 : Int32), r2.2)) else (
    (rdR 6 r2.2 v0 5).bind fun x6 =>
    (ldI 1 r2.2 x6 (((24 : Int32) * v1) + v2)).bind fun x7 =>
    if x7 = 0 then (
    some ((0 : Int32), r2.2)) else (
    some ((1 : Int32), r2.2)))))
set_option maxRecDepth 100000 in
set_option maxHeartbeats 4000000 in
theorem sX6_isObject {l : Launch} {D : jD} {sz : Nat} {f : jM} {v0 : Nat} {v1 : Int32} {v2 : Int32} {res : (Int32 × jM)} (h : mX6_isObject f v0 v1 v2 = some res) : jCt l D yX6_isObject cX6_isObject 3 (some .boolean) 1 21 [.ref v0, .int v1, .int v2] f sz 0 0 (some (.int res.1)) res.2 sz := by
  refine j_start (by decide +kernel) (Nat.le_of_ble_eq_true rfl) (fun c hcl hcD hcn E => ?_)
  subst hcl
  subst hcD
  replace E : jOk c cX6_isObject 3 RX6 (some .boolean) 1 21 := E
  show J c (jZ c (some (.int res.1)) res.2 sz) f sz 0 0 0 [(0, .ref v0), (1, .int v1), (2, .int v2)] []
  unfold mX6_isObject at h
  refine j_aload_n E 0 dX6_isObject_0 rfl rfl ?_
  refine j_iload_n E 1 dX6_isObject_1 rfl rfl ?_
  obtain ⟨u1, h1, h⟩ := jb h
  obtain ⟨fs1, h1⟩ := chk_spec h1
  obtain ⟨r2, h2, h⟩ := jb h
  refine j_callV (As := [.int v1]) (b := v0) (rest := []) (rc := 0) (rs := 0) E (sX6_isNode h2) lwX6_isNode lkX6_90 imX6_isNode seX6_isNode rfl h1 (by decide) rfl (Nat.le_of_ble_eq_true rfl) dX6_isObject_2 ?_
  refine j_if_eq (tgt := 36) E dX6_isObject_5 (by decide) (fun hc3 => ?_) (fun hc3 => ?_)
  · replace h := jt hc3 h
    refine j_iconst (v := (0 : Int32)) E dX6_isObject_36 (by decide) ?_
    cases h
    exact j_zret (v := (0 : Int32)) E (by decide +kernel) dX6_isObject_37
  replace h := jf hc3 h
  refine j_iload_n E 2 dX6_isObject_8 rfl rfl ?_
  refine j_if_lt (tgt := 36) E dX6_isObject_9 (by decide) (fun hc4 => ?_) (fun hc4 => ?_)
  · replace h := jt hc4 h
    refine j_iconst (v := (0 : Int32)) E dX6_isObject_36 (by decide) ?_
    cases h
    exact j_zret (v := (0 : Int32)) E (by decide +kernel) dX6_isObject_37
  replace h := jf hc4 h
  refine j_iload_n E 2 dX6_isObject_12 rfl rfl ?_
  refine j_bipush (v := (24 : Int32)) E dX6_isObject_13 (by decide) ?_
  refine j_icmp_ge (tgt := 36) E dX6_isObject_15 (by decide) (fun hc5 => ?_) (fun hc5 => ?_)
  · replace h := jt hc5 h
    refine j_iconst (v := (0 : Int32)) E dX6_isObject_36 (by decide) ?_
    cases h
    exact j_zret (v := (0 : Int32)) E (by decide +kernel) dX6_isObject_37
  replace h := jf hc5 h
  refine j_aload_n E 0 dX6_isObject_18 rfl rfl ?_
  obtain ⟨x6, h6, h⟩ := jb h
  refine j_getR E gX6_23 h6 dX6_isObject_19 ?_
  refine j_bipush (v := (24 : Int32)) E dX6_isObject_22 (by decide) ?_
  refine j_iload_n E 1 dX6_isObject_24 rfl rfl ?_
  refine j_imul E dX6_isObject_25 ?_
  refine j_iload_n E 2 dX6_isObject_26 rfl rfl ?_
  refine j_iadd E dX6_isObject_27 ?_
  obtain ⟨x7, h7, h⟩ := jb h
  refine j_zald E h7 dX6_isObject_28 ?_
  refine j_if_eq (tgt := 36) E dX6_isObject_29 (by decide) (fun hc8 => ?_) (fun hc8 => ?_)
  · replace h := jt hc8 h
    refine j_iconst (v := (0 : Int32)) E dX6_isObject_36 (by decide) ?_
    cases h
    exact j_zret (v := (0 : Int32)) E (by decide +kernel) dX6_isObject_37
  replace h := jf hc8 h
  refine j_iconst (v := (1 : Int32)) E dX6_isObject_32 (by decide) ?_
  refine j_goto (tgt := 37) E dX6_isObject_33 (by decide) ?_
  cases h
  exact j_zret (v := (1 : Int32)) E (by decide +kernel) dX6_isObject_37
def mX6_local (f : jM) (v0 : Nat) (v1 : Int32) (v2 : Int32) : Option (Int32 × jM) :=
    (rdR 6 f v0 8).bind fun x1 =>
    (ldI 0 f x1 (((6 : Int32) * v1) + v2)).bind fun x2 =>
    if x2 = (2 : Int32) then (
    (rdR 6 f v0 9).bind fun x4 =>
    (ldI 0 f x4 (((6 : Int32) * v1) + v2)).bind fun x5 =>
    if (x5 / (24 : Int32)) = v1 then (
    (rdR 6 f v0 9).bind fun x7 =>
    (ldI 0 f x7 (((6 : Int32) * v1) + v2)).bind fun x8 =>
    some (x8, f)) else (
    some ((-1 : Int32), f))) else (
    some ((-1 : Int32), f))
set_option maxRecDepth 100000 in
set_option maxHeartbeats 4000000 in
theorem sX6_local {l : Launch} {D : jD} {sz : Nat} {f : jM} {v0 : Nat} {v1 : Int32} {v2 : Int32} {res : (Int32 × jM)} (h : mX6_local f v0 v1 v2 = some res) : jCt l D yX6_local cX6_local 4 (some .int) 0 0 [.ref v0, .int v1, .int v2] f sz 0 0 (some (.int res.1)) res.2 sz := by
  refine j_start (by decide +kernel) (Nat.le_of_ble_eq_true rfl) (fun c hcl hcD hcn E => ?_)
  subst hcl
  subst hcD
  replace E : jOk c cX6_local 4 RX6 (some .int) 0 0 := E
  show J c (jZ c (some (.int res.1)) res.2 sz) f sz 0 0 0 [(0, .ref v0), (1, .int v1), (2, .int v2)] []
  unfold mX6_local at h
  refine j_bipush (v := (6 : Int32)) E dX6_local_0 (by decide) ?_
  refine j_iload_n E 1 dX6_local_2 rfl rfl ?_
  refine j_imul E dX6_local_3 ?_
  refine j_iload_n E 2 dX6_local_4 rfl rfl ?_
  refine j_iadd E dX6_local_5 ?_
  refine j_istore_n (lv' := [(3, .int (((6 : Int32) * v1) + v2)), (0, .ref v0), (1, .int v1), (2, .int v2)]) E dX6_local_6 rfl (by decide) rfl ?_
  refine j_aload_n E 1 dX6_local_7 rfl rfl ?_
  obtain ⟨x1, h1, h⟩ := jb h
  refine j_getR E gX6_33 h1 dX6_local_8 ?_
  refine j_iload_n E 0 dX6_local_11 rfl rfl ?_
  obtain ⟨x2, h2, h⟩ := jb h
  refine j_iald E h2 dX6_local_12 ?_
  refine j_iconst (v := (2 : Int32)) E dX6_local_13 (by decide) ?_
  refine j_icmp_ne (tgt := 39) E dX6_local_14 (by decide) (fun hc3 => ?_) (fun hc3 => ?_)
  · replace h := jf hc3 h
    refine j_iconst (v := (-1 : Int32)) E dX6_local_39 (by decide) ?_
    cases h
    exact j_iret E dX6_local_40
  replace h := jt hc3 h
  refine j_aload_n E 1 dX6_local_17 rfl rfl ?_
  obtain ⟨x4, h4, h⟩ := jb h
  refine j_getR E gX6_36 h4 dX6_local_18 ?_
  refine j_iload_n E 0 dX6_local_21 rfl rfl ?_
  obtain ⟨x5, h5, h⟩ := jb h
  refine j_iald E h5 dX6_local_22 ?_
  refine j_bipush (v := (24 : Int32)) E dX6_local_23 (by decide) ?_
  refine j_idiv E dX6_local_25 (by decide) ?_
  refine j_iload_n E 2 dX6_local_26 rfl rfl ?_
  refine j_icmp_ne (tgt := 39) E dX6_local_27 (by decide) (fun hc6 => ?_) (fun hc6 => ?_)
  · replace h := jf hc6 h
    refine j_iconst (v := (-1 : Int32)) E dX6_local_39 (by decide) ?_
    cases h
    exact j_iret E dX6_local_40
  replace h := jt hc6 h
  refine j_aload_n E 1 dX6_local_30 rfl rfl ?_
  obtain ⟨x7, h7, h⟩ := jb h
  refine j_getR E gX6_36 h7 dX6_local_31 ?_
  refine j_iload_n E 0 dX6_local_34 rfl rfl ?_
  obtain ⟨x8, h8, h⟩ := jb h
  refine j_iald E h8 dX6_local_35 ?_
  refine j_goto (tgt := 40) E dX6_local_36 (by decide) ?_
  cases h
  exact j_iret E dX6_local_40
def mX6_make_L141 (fu : Nat)  (v0 : Nat) (v1 : Int32) (v2 : Int32) (v4 : Int32) (v5 : Int32) : Nat → Int32 → jM → Option (Int32 × jM)
  | 0, _, _ => none
  | n + 1, v6, f =>
    if (12 : Int32) ≤ v6 then (
    (rdR 6 f v0 8).bind fun x23 =>
    (stI 0 f x23 (((6 : Int32) * v1) + v2) (2 : Int32)).bind fun f24 =>
    (rdR 6 f24 v0 9).bind fun x25 =>
    (stI 0 f24 x25 (((6 : Int32) * v1) + v2) v5).bind fun f26 =>
    some (v4, f26)) else (
    (rdR 6 f v0 6).bind fun x27 =>
    (stI 0 f x27 (((12 : Int32) * v5) + v6) (0 : Int32)).bind fun f28 =>
    (rdR 6 f28 v0 7).bind fun x29 =>
    (stI 0 f28 x29 (((12 : Int32) * v5) + v6) (0 : Int32)).bind fun f30 =>
    mX6_make_L141 fu v0 v1 v2 v4 v5 n (v6 + (1 : Int32)) f30)
set_option maxRecDepth 100000 in
set_option maxHeartbeats 4000000 in
theorem wX6_make_L141 {c : jS} {sz : Nat} {fu : Nat}  {v0 : Nat} {v1 : Int32} {v2 : Int32} {v4 : Int32} {v5 : Int32} {res : (Int32 × jM)} (E : jOk c cX6_make 7 RX6 (some .int) 2 43)  : ∀ (n : Nat) (v6 : Int32) (f : jM), mX6_make_L141 fu  v0 v1 v2 v4 v5 n v6 f = some res → J c (jZ c (some (.int res.1)) res.2 sz) f sz 0 0 141 [(0, .ref v0), (1, .int v1), (2, .int v2), (4, .int v4), (5, .int v5), (6, .int v6)] [] := by
  intro n
  induction n with
  | zero => intro v6 f h; exact jn0 h
  | succ n ih =>
    intro v6 f h
    rw [mX6_make_L141] at h
    refine j_iload E 5 dX6_make_141 rfl ?_
    refine j_bipush (v := (12 : Int32)) E dX6_make_143 (by decide) ?_
    refine j_icmp_ge (tgt := 182) E dX6_make_145 (by decide) (fun hc22 => ?_) (fun hc22 => ?_)
    · replace h := jt hc22 h
      refine j_aload_n E 0 dX6_make_182 rfl rfl ?_
      obtain ⟨x23, h23, h⟩ := jb h
      refine j_getR E gX6_33 h23 dX6_make_183 ?_
      refine j_bipush (v := (6 : Int32)) E dX6_make_186 (by decide) ?_
      refine j_iload_n E 1 dX6_make_188 rfl rfl ?_
      refine j_imul E dX6_make_189 ?_
      refine j_iload_n E 2 dX6_make_190 rfl rfl ?_
      refine j_iadd E dX6_make_191 ?_
      refine j_iconst (v := (2 : Int32)) E dX6_make_192 (by decide) ?_
      obtain ⟨f24, h24, h⟩ := jb h
      refine j_iast E h24 dX6_make_193 ?_
      refine j_aload_n E 0 dX6_make_194 rfl rfl ?_
      obtain ⟨x25, h25, h⟩ := jb h
      refine j_getR E gX6_36 h25 dX6_make_195 ?_
      refine j_bipush (v := (6 : Int32)) E dX6_make_198 (by decide) ?_
      refine j_iload_n E 1 dX6_make_200 rfl rfl ?_
      refine j_imul E dX6_make_201 ?_
      refine j_iload_n E 2 dX6_make_202 rfl rfl ?_
      refine j_iadd E dX6_make_203 ?_
      refine j_iload E 4 dX6_make_204 rfl ?_
      obtain ⟨f26, h26, h⟩ := jb h
      refine j_iast E h26 dX6_make_206 ?_
      refine j_iload E 3 dX6_make_207 rfl ?_
      cases h
      exact j_iret E dX6_make_209
    replace h := jf hc22 h
    refine j_aload_n E 0 dX6_make_148 rfl rfl ?_
    obtain ⟨x27, h27, h⟩ := jb h
    refine j_getR E gX6_27 h27 dX6_make_149 ?_
    refine j_bipush (v := (12 : Int32)) E dX6_make_152 (by decide) ?_
    refine j_iload E 4 dX6_make_154 rfl ?_
    refine j_imul E dX6_make_156 ?_
    refine j_iload E 5 dX6_make_157 rfl ?_
    refine j_iadd E dX6_make_159 ?_
    refine j_iconst (v := (0 : Int32)) E dX6_make_160 (by decide) ?_
    obtain ⟨f28, h28, h⟩ := jb h
    refine j_iast E h28 dX6_make_161 ?_
    refine j_aload_n E 0 dX6_make_162 rfl rfl ?_
    obtain ⟨x29, h29, h⟩ := jb h
    refine j_getR E gX6_30 h29 dX6_make_163 ?_
    refine j_bipush (v := (12 : Int32)) E dX6_make_166 (by decide) ?_
    refine j_iload E 4 dX6_make_168 rfl ?_
    refine j_imul E dX6_make_170 ?_
    refine j_iload E 5 dX6_make_171 rfl ?_
    refine j_iadd E dX6_make_173 ?_
    refine j_iconst (v := (0 : Int32)) E dX6_make_174 (by decide) ?_
    obtain ⟨f30, h30, h⟩ := jb h
    refine j_iast E h30 dX6_make_175 ?_
    refine j_iinc (v := (v6 + (1 : Int32))) (lv' := [(6, .int (v6 + (1 : Int32))), (0, .ref v0), (1, .int v1), (2, .int v2), (4, .int v4), (5, .int v5)]) E 5 dX6_make_176 rfl rfl (by decide) rfl ?_
    refine j_goto (tgt := 141) E dX6_make_179 (by decide) ?_
    exact j_sub [1, 2, 3, 4, 5, 0] rfl (ih _ _ h)
def mX6_make_B52 (fu : Nat)  (v0 : Nat) (v1 : Int32) (v2 : Int32) (v3 : Int32) (v4 : Int32)  (f : jM) : Option (Int32 × jM) :=
    if v4 = (24 : Int32) then (
    some ((-1 : Int32), f)) else (
    (rdR 6 f v0 11).bind fun x6 =>
    (ldI 0 f x6 v1).bind fun x7 =>
    if ((x7 + v3) + (1 : Int32)) ≤ (160 : Int32) then (
    (rdR 6 f v0 5).bind fun x9 =>
    (stI 1 f x9 (((24 : Int32) * v1) + v4) (vp_nar .boolean (1 : Int32))).bind fun f10 =>
    (rdR 6 f10 v0 2).bind fun x11 =>
    (stI 0 f10 x11 (((24 : Int32) * v1) + v4) v3).bind fun f12 =>
    (rdR 6 f12 v0 3).bind fun x13 =>
    (rdR 6 f12 v0 11).bind fun x14 =>
    (ldI 0 f12 x14 v1).bind fun x15 =>
    (stI 0 f12 x13 (((24 : Int32) * v1) + v4) x15).bind fun f16 =>
    (rdR 6 f16 v0 4).bind fun x17 =>
    (stI 0 f16 x17 (((24 : Int32) * v1) + v4) (0 : Int32)).bind fun f18 =>
    (rdR 6 f18 v0 11).bind fun x19 =>
    (ldI 0 f18 x19 v1).bind fun x20 =>
    (stI 0 f18 x19 v1 (x20 + (v3 + (1 : Int32)))).bind fun f21 =>
    mX6_make_L141 fu v0 v1 v2 v4 (((24 : Int32) * v1) + v4) fu (0 : Int32) f21) else (
    some ((-2 : Int32), f)))
set_option maxRecDepth 100000 in
set_option maxHeartbeats 4000000 in
theorem wX6_make_B52 {c : jS} {sz : Nat} {fu : Nat}  {v0 : Nat} {v1 : Int32} {v2 : Int32} {v3 : Int32} {v4 : Int32}  {f : jM} {res : (Int32 × jM)} (E : jOk c cX6_make 7 RX6 (some .int) 2 43)  (h : mX6_make_B52 fu  v0 v1 v2 v3 v4  f = some res) : J c (jZ c (some (.int res.1)) res.2 sz) f sz 0 0 52 [(0, .ref v0), (1, .int v1), (2, .int v2), (3, .int v3), (4, .int v4)] [] := by
  unfold mX6_make_B52 at h
  refine j_iload E 4 dX6_make_52 rfl ?_
  refine j_bipush (v := (24 : Int32)) E dX6_make_54 (by decide) ?_
  refine j_icmp_ne (tgt := 61) E dX6_make_56 (by decide) (fun hc5 => ?_) (fun hc5 => ?_)
  · replace h := jf hc5 h
    refine j_aload_n E 0 dX6_make_61 rfl rfl ?_
    obtain ⟨x6, h6, h⟩ := jb h
    refine j_getR E gX6_42 h6 dX6_make_62 ?_
    refine j_iload_n E 1 dX6_make_65 rfl rfl ?_
    obtain ⟨x7, h7, h⟩ := jb h
    refine j_iald E h7 dX6_make_66 ?_
    refine j_iload_n E 3 dX6_make_67 rfl rfl ?_
    refine j_iadd E dX6_make_68 ?_
    refine j_iconst (v := (1 : Int32)) E dX6_make_69 (by decide) ?_
    refine j_iadd E dX6_make_70 ?_
    refine j_sipush (v := (160 : Int32)) E dX6_make_71 (by decide) ?_
    refine j_icmp_le (tgt := 80) E dX6_make_74 (by decide) (fun hc8 => ?_) (fun hc8 => ?_)
    · replace h := jt hc8 h
      refine j_bipush (v := (24 : Int32)) E dX6_make_80 (by decide) ?_
      refine j_iload_n E 1 dX6_make_82 rfl rfl ?_
      refine j_imul E dX6_make_83 ?_
      refine j_iload E 4 dX6_make_84 rfl ?_
      refine j_iadd E dX6_make_86 ?_
      refine j_istore (lv' := [(5, .int (((24 : Int32) * v1) + v4)), (0, .ref v0), (1, .int v1), (2, .int v2), (3, .int v3), (4, .int v4)]) E dX6_make_87 (by decide) rfl ?_
      refine j_aload_n E 1 dX6_make_89 rfl rfl ?_
      obtain ⟨x9, h9, h⟩ := jb h
      refine j_getR E gX6_23 h9 dX6_make_90 ?_
      refine j_iload E 0 dX6_make_93 rfl ?_
      refine j_iconst (v := (1 : Int32)) E dX6_make_95 (by decide) ?_
      obtain ⟨f10, h10, h⟩ := jb h
      refine j_zast E h10 dX6_make_96 ?_
      refine j_aload_n E 1 dX6_make_97 rfl rfl ?_
      obtain ⟨x11, h11, h⟩ := jb h
      refine j_getR E gX6_13 h11 dX6_make_98 ?_
      refine j_iload E 0 dX6_make_101 rfl ?_
      refine j_iload_n E 4 dX6_make_103 rfl rfl ?_
      obtain ⟨f12, h12, h⟩ := jb h
      refine j_iast E h12 dX6_make_104 ?_
      refine j_aload_n E 1 dX6_make_105 rfl rfl ?_
      obtain ⟨x13, h13, h⟩ := jb h
      refine j_getR E gX6_17 h13 dX6_make_106 ?_
      refine j_iload E 0 dX6_make_109 rfl ?_
      refine j_aload_n E 1 dX6_make_111 rfl rfl ?_
      obtain ⟨x14, h14, h⟩ := jb h
      refine j_getR E gX6_42 h14 dX6_make_112 ?_
      refine j_iload_n E 2 dX6_make_115 rfl rfl ?_
      obtain ⟨x15, h15, h⟩ := jb h
      refine j_iald E h15 dX6_make_116 ?_
      obtain ⟨f16, h16, h⟩ := jb h
      refine j_iast E h16 dX6_make_117 ?_
      refine j_aload_n E 1 dX6_make_118 rfl rfl ?_
      obtain ⟨x17, h17, h⟩ := jb h
      refine j_getR E gX6_20 h17 dX6_make_119 ?_
      refine j_iload E 0 dX6_make_122 rfl ?_
      refine j_iconst (v := (0 : Int32)) E dX6_make_124 (by decide) ?_
      obtain ⟨f18, h18, h⟩ := jb h
      refine j_iast E h18 dX6_make_125 ?_
      refine j_aload_n E 1 dX6_make_126 rfl rfl ?_
      obtain ⟨x19, h19, h⟩ := jb h
      refine j_getR E gX6_42 h19 dX6_make_127 ?_
      refine j_iload_n E 2 dX6_make_130 rfl rfl ?_
      refine j_dup2 E dX6_make_131 rfl rfl ?_
      obtain ⟨x20, h20, h⟩ := jb h
      refine j_iald E h20 dX6_make_132 ?_
      refine j_iload_n E 4 dX6_make_133 rfl rfl ?_
      refine j_iconst (v := (1 : Int32)) E dX6_make_134 (by decide) ?_
      refine j_iadd E dX6_make_135 ?_
      refine j_iadd E dX6_make_136 ?_
      obtain ⟨f21, h21, h⟩ := jb h
      refine j_iast E h21 dX6_make_137 ?_
      refine j_iconst (v := (0 : Int32)) E dX6_make_138 (by decide) ?_
      refine j_istore (lv' := [(6, .int (0 : Int32)), (5, .int (((24 : Int32) * v1) + v4)), (0, .ref v0), (1, .int v1), (2, .int v2), (3, .int v3), (4, .int v4)]) E dX6_make_139 (by decide) rfl ?_
      exact j_sub [2, 3, 4, 6, 1, 0] rfl (wX6_make_L141 E _ _ _ h)
    replace h := jf hc8 h
    refine j_bipush (v := (-2 : Int32)) E dX6_make_77 (by decide) ?_
    cases h
    exact j_iret E dX6_make_79
  replace h := jt hc5 h
  refine j_iconst (v := (-1 : Int32)) E dX6_make_59 (by decide) ?_
  cases h
  exact j_iret E dX6_make_60
def mX6_make_L24 (fu : Nat)  (v0 : Nat) (v1 : Int32) (v2 : Int32) (v3 : Int32) : Nat → Int32 → jM → Option (Int32 × jM)
  | 0, _, _ => none
  | n + 1, v4, f =>
    if (24 : Int32) ≤ v4 then (
    mX6_make_B52 fu v0 v1 v2 v3 v4 f) else (
    (rdR 6 f v0 5).bind fun x2 =>
    (ldI 1 f x2 (((24 : Int32) * v1) + v4)).bind fun x3 =>
    if x3 = 0 then (
    mX6_make_B52 fu v0 v1 v2 v3 v4 f) else (
    mX6_make_L24 fu v0 v1 v2 v3 n (v4 + (1 : Int32)) f))
set_option maxRecDepth 100000 in
set_option maxHeartbeats 4000000 in
theorem wX6_make_L24 {c : jS} {sz : Nat} {fu : Nat}  {v0 : Nat} {v1 : Int32} {v2 : Int32} {v3 : Int32} {res : (Int32 × jM)} (E : jOk c cX6_make 7 RX6 (some .int) 2 43)  : ∀ (n : Nat) (v4 : Int32) (f : jM), mX6_make_L24 fu  v0 v1 v2 v3 n v4 f = some res → J c (jZ c (some (.int res.1)) res.2 sz) f sz 0 0 24 [(0, .ref v0), (1, .int v1), (2, .int v2), (3, .int v3), (4, .int v4)] [] := by
  intro n
  induction n with
  | zero => intro v4 f h; exact jn0 h
  | succ n ih =>
    intro v4 f h
    rw [mX6_make_L24] at h
    refine j_iload E 4 dX6_make_24 rfl ?_
    refine j_bipush (v := (24 : Int32)) E dX6_make_26 (by decide) ?_
    refine j_icmp_ge (tgt := 52) E dX6_make_28 (by decide) (fun hc1 => ?_) (fun hc1 => ?_)
    · replace h := jt hc1 h
      exact j_sub [0, 1, 2, 3, 4] rfl (wX6_make_B52 E  h)
    replace h := jf hc1 h
    refine j_aload_n E 0 dX6_make_31 rfl rfl ?_
    obtain ⟨x2, h2, h⟩ := jb h
    refine j_getR E gX6_23 h2 dX6_make_32 ?_
    refine j_bipush (v := (24 : Int32)) E dX6_make_35 (by decide) ?_
    refine j_iload_n E 1 dX6_make_37 rfl rfl ?_
    refine j_imul E dX6_make_38 ?_
    refine j_iload E 4 dX6_make_39 rfl ?_
    refine j_iadd E dX6_make_41 ?_
    obtain ⟨x3, h3, h⟩ := jb h
    refine j_zald E h3 dX6_make_42 ?_
    refine j_if_eq (tgt := 52) E dX6_make_43 (by decide) (fun hc4 => ?_) (fun hc4 => ?_)
    · replace h := jt hc4 h
      exact j_sub [0, 1, 2, 3, 4] rfl (wX6_make_B52 E  h)
    replace h := jf hc4 h
    refine j_iinc (v := (v4 + (1 : Int32))) (lv' := [(4, .int (v4 + (1 : Int32))), (0, .ref v0), (1, .int v1), (2, .int v2), (3, .int v3)]) E 4 dX6_make_46 rfl rfl (by decide) rfl ?_
    refine j_goto (tgt := 24) E dX6_make_49 (by decide) ?_
    exact j_sub [1, 2, 3, 4, 0] rfl (ih _ _ h)
def mX6_make (fu : Nat) (f : jM) (v0 : Nat) (v1 : Int32) (v2 : Int32) (v3 : Int32) : Option (Int32 × jM) :=
    (chk 6 f v0).bind fun _ =>
    (mX6_isRegister f v0 v1 v2).bind fun r32 =>
    if r32.1 = 0 then (
    some ((-1 : Int32), r32.2)) else (
    if v3 < 0 then (
    some ((-1 : Int32), r32.2)) else (
    if v3 ≤ (12 : Int32) then (
    mX6_make_L24 fu v0 v1 v2 v3 fu (0 : Int32) r32.2) else (
    some ((-1 : Int32), r32.2))))
set_option maxRecDepth 100000 in
set_option maxHeartbeats 4000000 in
theorem sX6_make {l : Launch} {D : jD} {sz : Nat} {fu : Nat} {f : jM} {v0 : Nat} {v1 : Int32} {v2 : Int32} {v3 : Int32} {res : (Int32 × jM)} (h : mX6_make fu f v0 v1 v2 v3 = some res) : jCt l D yX6_make cX6_make 7 (some .int) 2 43 [.ref v0, .int v1, .int v2, .int v3] f sz 0 0 (some (.int res.1)) res.2 sz := by
  refine j_start (by decide +kernel) (Nat.le_of_ble_eq_true rfl) (fun c hcl hcD hcn E => ?_)
  subst hcl
  subst hcD
  replace E : jOk c cX6_make 7 RX6 (some .int) 2 43 := E
  show J c (jZ c (some (.int res.1)) res.2 sz) f sz 0 0 0 [(0, .ref v0), (1, .int v1), (2, .int v2), (3, .int v3)] []
  unfold mX6_make at h
  refine j_aload_n E 0 dX6_make_0 rfl rfl ?_
  refine j_iload_n E 1 dX6_make_1 rfl rfl ?_
  refine j_iload_n E 2 dX6_make_2 rfl rfl ?_
  obtain ⟨u31, h31, h⟩ := jb h
  obtain ⟨fs31, h31⟩ := chk_spec h31
  obtain ⟨r32, h32, h⟩ := jb h
  refine j_callV (As := [.int v1, .int v2]) (b := v0) (rest := []) (rc := 0) (rs := 0) E (sX6_isRegister h32) lwX6_isRegister lkX6_94 imX6_isRegister seX6_isRegister rfl h31 (by decide) rfl (Nat.le_of_ble_eq_true rfl) dX6_make_3 ?_
  refine j_if_eq (tgt := 19) E dX6_make_6 (by decide) (fun hc33 => ?_) (fun hc33 => ?_)
  · replace h := jt hc33 h
    refine j_iconst (v := (-1 : Int32)) E dX6_make_19 (by decide) ?_
    cases h
    exact j_iret E dX6_make_20
  replace h := jf hc33 h
  refine j_iload_n E 3 dX6_make_9 rfl rfl ?_
  refine j_if_lt (tgt := 19) E dX6_make_10 (by decide) (fun hc34 => ?_) (fun hc34 => ?_)
  · replace h := jt hc34 h
    refine j_iconst (v := (-1 : Int32)) E dX6_make_19 (by decide) ?_
    cases h
    exact j_iret E dX6_make_20
  replace h := jf hc34 h
  refine j_iload_n E 3 dX6_make_13 rfl rfl ?_
  refine j_bipush (v := (12 : Int32)) E dX6_make_14 (by decide) ?_
  refine j_icmp_le (tgt := 21) E dX6_make_16 (by decide) (fun hc35 => ?_) (fun hc35 => ?_)
  · replace h := jt hc35 h
    refine j_iconst (v := (0 : Int32)) E dX6_make_21 (by decide) ?_
    refine j_istore (lv' := [(4, .int (0 : Int32)), (0, .ref v0), (1, .int v1), (2, .int v2), (3, .int v3)]) E dX6_make_22 (by decide) rfl ?_
    exact j_sub [1, 2, 3, 4, 0] rfl (wX6_make_L24 E _ _ _ h)
  replace h := jf hc35 h
  refine j_iconst (v := (-1 : Int32)) E dX6_make_19 (by decide) ?_
  cases h
  exact j_iret E dX6_make_20
def mX6_isField (f : jM) (v0 : Nat) (v1 : Int32) (v2 : Int32) (v3 : Int32) : Option (Int32 × jM) :=
    (chk 6 f v0).bind fun _ =>
    (mX6_local f v0 v1 v2).bind fun r2 =>
    if r2.1 = (-1 : Int32) then (
    some ((0 : Int32), r2.2)) else (
    if v3 < 0 then (
    some ((0 : Int32), r2.2)) else (
    (rdR 6 r2.2 v0 2).bind fun x5 =>
    (chk 6 r2.2 v0).bind fun _ =>
    (mX6_local r2.2 v0 v1 v2).bind fun r7 =>
    (ldI 0 r7.2 x5 r7.1).bind fun x8 =>
    if x8 ≤ v3 then (
    some ((0 : Int32), r7.2)) else (
    some ((1 : Int32), r7.2))))
set_option maxRecDepth 100000 in
set_option maxHeartbeats 4000000 in
theorem sX6_isField {l : Launch} {D : jD} {sz : Nat} {f : jM} {v0 : Nat} {v1 : Int32} {v2 : Int32} {v3 : Int32} {res : (Int32 × jM)} (h : mX6_isField f v0 v1 v2 v3 = some res) : jCt l D yX6_isField cX6_isField 4 (some .boolean) 1 23 [.ref v0, .int v1, .int v2, .int v3] f sz 0 0 (some (.int res.1)) res.2 sz := by
  refine j_start (by decide +kernel) (Nat.le_of_ble_eq_true rfl) (fun c hcl hcD hcn E => ?_)
  subst hcl
  subst hcD
  replace E : jOk c cX6_isField 4 RX6 (some .boolean) 1 23 := E
  show J c (jZ c (some (.int res.1)) res.2 sz) f sz 0 0 0 [(0, .ref v0), (1, .int v1), (2, .int v2), (3, .int v3)] []
  unfold mX6_isField at h
  refine j_aload_n E 0 dX6_isField_0 rfl rfl ?_
  refine j_iload_n E 1 dX6_isField_1 rfl rfl ?_
  refine j_iload_n E 2 dX6_isField_2 rfl rfl ?_
  obtain ⟨u1, h1, h⟩ := jb h
  obtain ⟨fs1, h1⟩ := chk_spec h1
  obtain ⟨r2, h2, h⟩ := jb h
  refine j_callV (As := [.int v1, .int v2]) (b := v0) (rest := []) (rc := 0) (rs := 0) E (sX6_local h2) lwX6_local lkX6_98 imX6_local seX6_local rfl h1 (by decide) rfl (Nat.le_of_ble_eq_true rfl) dX6_isField_3 ?_
  refine j_iconst (v := (-1 : Int32)) E dX6_isField_6 (by decide) ?_
  refine j_icmp_eq (tgt := 33) E dX6_isField_7 (by decide) (fun hc3 => ?_) (fun hc3 => ?_)
  · replace h := jt hc3 h
    refine j_iconst (v := (0 : Int32)) E dX6_isField_33 (by decide) ?_
    cases h
    exact j_zret (v := (0 : Int32)) E (by decide +kernel) dX6_isField_34
  replace h := jf hc3 h
  refine j_iload_n E 3 dX6_isField_10 rfl rfl ?_
  refine j_if_lt (tgt := 33) E dX6_isField_11 (by decide) (fun hc4 => ?_) (fun hc4 => ?_)
  · replace h := jt hc4 h
    refine j_iconst (v := (0 : Int32)) E dX6_isField_33 (by decide) ?_
    cases h
    exact j_zret (v := (0 : Int32)) E (by decide +kernel) dX6_isField_34
  replace h := jf hc4 h
  refine j_iload_n E 3 dX6_isField_14 rfl rfl ?_
  refine j_aload_n E 0 dX6_isField_15 rfl rfl ?_
  obtain ⟨x5, h5, h⟩ := jb h
  refine j_getR E gX6_13 h5 dX6_isField_16 ?_
  refine j_aload_n E 0 dX6_isField_19 rfl rfl ?_
  refine j_iload_n E 1 dX6_isField_20 rfl rfl ?_
  refine j_iload_n E 2 dX6_isField_21 rfl rfl ?_
  obtain ⟨u6, h6, h⟩ := jb h
  obtain ⟨fs6, h6⟩ := chk_spec h6
  obtain ⟨r7, h7, h⟩ := jb h
  refine j_callV (As := [.int v1, .int v2]) (b := v0) (rest := [.ref x5, .int v3]) (rc := 0) (rs := 0) E (sX6_local h7) lwX6_local lkX6_98 imX6_local seX6_local rfl h6 (by decide) rfl (Nat.le_of_ble_eq_true rfl) dX6_isField_22 ?_
  obtain ⟨x8, h8, h⟩ := jb h
  refine j_iald E h8 dX6_isField_25 ?_
  refine j_icmp_ge (tgt := 33) E dX6_isField_26 (by decide) (fun hc9 => ?_) (fun hc9 => ?_)
  · replace h := jt hc9 h
    refine j_iconst (v := (0 : Int32)) E dX6_isField_33 (by decide) ?_
    cases h
    exact j_zret (v := (0 : Int32)) E (by decide +kernel) dX6_isField_34
  replace h := jf hc9 h
  refine j_iconst (v := (1 : Int32)) E dX6_isField_29 (by decide) ?_
  refine j_goto (tgt := 34) E dX6_isField_30 (by decide) ?_
  cases h
  exact j_zret (v := (1 : Int32)) E (by decide +kernel) dX6_isField_34
def mX6_set (f : jM) (v0 : Nat) (v1 : Int32) (v2 : Int32) (v3 : Int32) (v4 : Int32) : Option (Int32 × jM) :=
    (chk 6 f v0).bind fun _ =>
    (mX6_isRegister f v0 v1 v2).bind fun r2 =>
    if r2.1 = 0 then (
    some ((0 : Int32), r2.2)) else (
    (chk 6 r2.2 v0).bind fun _ =>
    (mX6_isRegister r2.2 v0 v1 v4).bind fun r5 =>
    if r5.1 = 0 then (
    some ((0 : Int32), r5.2)) else (
    (chk 6 r5.2 v0).bind fun _ =>
    (mX6_isField r5.2 v0 v1 v2 v3).bind fun r8 =>
    if r8.1 = 0 then (
    some ((0 : Int32), r8.2)) else (
    (chk 6 r8.2 v0).bind fun _ =>
    (mX6_local r8.2 v0 v1 v2).bind fun r11 =>
    (rdR 6 r11.2 v0 6).bind fun x12 =>
    (rdR 6 r11.2 v0 8).bind fun x13 =>
    (ldI 0 r11.2 x13 (((6 : Int32) * v1) + v4)).bind fun x14 =>
    (stI 0 r11.2 x12 (((12 : Int32) * r11.1) + v3) x14).bind fun f15 =>
    (rdR 6 f15 v0 7).bind fun x16 =>
    (rdR 6 f15 v0 9).bind fun x17 =>
    (ldI 0 f15 x17 (((6 : Int32) * v1) + v4)).bind fun x18 =>
    (stI 0 f15 x16 (((12 : Int32) * r11.1) + v3) x18).bind fun f19 =>
    some ((1 : Int32), f19))))
set_option maxRecDepth 100000 in
set_option maxHeartbeats 4000000 in
theorem sX6_set {l : Launch} {D : jD} {sz : Nat} {f : jM} {v0 : Nat} {v1 : Int32} {v2 : Int32} {v3 : Int32} {v4 : Int32} {res : (Int32 × jM)} (h : mX6_set f v0 v1 v2 v3 v4 = some res) : jCt l D yX6_set cX6_set 6 (some .boolean) 2 46 [.ref v0, .int v1, .int v2, .int v3, .int v4] f sz 0 0 (some (.int res.1)) res.2 sz := by
  refine j_start (by decide +kernel) (Nat.le_of_ble_eq_true rfl) (fun c hcl hcD hcn E => ?_)
  subst hcl
  subst hcD
  replace E : jOk c cX6_set 6 RX6 (some .boolean) 2 46 := E
  show J c (jZ c (some (.int res.1)) res.2 sz) f sz 0 0 0 [(0, .ref v0), (1, .int v1), (2, .int v2), (3, .int v3), (4, .int v4)] []
  unfold mX6_set at h
  refine j_aload_n E 0 dX6_set_0 rfl rfl ?_
  refine j_iload_n E 1 dX6_set_1 rfl rfl ?_
  refine j_iload_n E 2 dX6_set_2 rfl rfl ?_
  obtain ⟨u1, h1, h⟩ := jb h
  obtain ⟨fs1, h1⟩ := chk_spec h1
  obtain ⟨r2, h2, h⟩ := jb h
  refine j_callV (As := [.int v1, .int v2]) (b := v0) (rest := []) (rc := 0) (rs := 0) E (sX6_isRegister h2) lwX6_isRegister lkX6_94 imX6_isRegister seX6_isRegister rfl h1 (by decide) rfl (Nat.le_of_ble_eq_true rfl) dX6_set_3 ?_
  refine j_if_eq (tgt := 29) E dX6_set_6 (by decide) (fun hc3 => ?_) (fun hc3 => ?_)
  · replace h := jt hc3 h
    refine j_iconst (v := (0 : Int32)) E dX6_set_29 (by decide) ?_
    cases h
    exact j_zret (v := (0 : Int32)) E (by decide +kernel) dX6_set_30
  replace h := jf hc3 h
  refine j_aload_n E 0 dX6_set_9 rfl rfl ?_
  refine j_iload_n E 1 dX6_set_10 rfl rfl ?_
  refine j_iload E 4 dX6_set_11 rfl ?_
  obtain ⟨u4, h4, h⟩ := jb h
  obtain ⟨fs4, h4⟩ := chk_spec h4
  obtain ⟨r5, h5, h⟩ := jb h
  refine j_callV (As := [.int v1, .int v4]) (b := v0) (rest := []) (rc := 0) (rs := 0) E (sX6_isRegister h5) lwX6_isRegister lkX6_94 imX6_isRegister seX6_isRegister rfl h4 (by decide) rfl (Nat.le_of_ble_eq_true rfl) dX6_set_13 ?_
  refine j_if_eq (tgt := 29) E dX6_set_16 (by decide) (fun hc6 => ?_) (fun hc6 => ?_)
  · replace h := jt hc6 h
    refine j_iconst (v := (0 : Int32)) E dX6_set_29 (by decide) ?_
    cases h
    exact j_zret (v := (0 : Int32)) E (by decide +kernel) dX6_set_30
  replace h := jf hc6 h
  refine j_aload_n E 0 dX6_set_19 rfl rfl ?_
  refine j_iload_n E 1 dX6_set_20 rfl rfl ?_
  refine j_iload_n E 2 dX6_set_21 rfl rfl ?_
  refine j_iload_n E 3 dX6_set_22 rfl rfl ?_
  obtain ⟨u7, h7, h⟩ := jb h
  obtain ⟨fs7, h7⟩ := chk_spec h7
  obtain ⟨r8, h8, h⟩ := jb h
  refine j_callV (As := [.int v1, .int v2, .int v3]) (b := v0) (rest := []) (rc := 0) (rs := 0) E (sX6_isField h8) lwX6_isField lkX6_102 imX6_isField seX6_isField rfl h7 (by decide) rfl (Nat.le_of_ble_eq_true rfl) dX6_set_23 ?_
  refine j_if_ne (tgt := 31) E dX6_set_26 (by decide) (fun hc9 => ?_) (fun hc9 => ?_)
  · replace h := jf hc9 h
    refine j_bipush (v := (12 : Int32)) E dX6_set_31 (by decide) ?_
    refine j_aload_n E 0 dX6_set_33 rfl rfl ?_
    refine j_iload_n E 1 dX6_set_34 rfl rfl ?_
    refine j_iload_n E 2 dX6_set_35 rfl rfl ?_
    obtain ⟨u10, h10, h⟩ := jb h
    obtain ⟨fs10, h10⟩ := chk_spec h10
    obtain ⟨r11, h11, h⟩ := jb h
    refine j_callV (As := [.int v1, .int v2]) (b := v0) (rest := [.int (12 : Int32)]) (rc := 0) (rs := 0) E (sX6_local h11) lwX6_local lkX6_98 imX6_local seX6_local rfl h10 (by decide) rfl (Nat.le_of_ble_eq_true rfl) dX6_set_36 ?_
    refine j_imul E dX6_set_39 ?_
    refine j_iload_n E 3 dX6_set_40 rfl rfl ?_
    refine j_iadd E dX6_set_41 ?_
    refine j_istore (lv' := [(5, .int (((12 : Int32) * r11.1) + v3)), (0, .ref v0), (1, .int v1), (2, .int v2), (3, .int v3), (4, .int v4)]) E dX6_set_42 (by decide) rfl ?_
    refine j_aload_n E 1 dX6_set_44 rfl rfl ?_
    obtain ⟨x12, h12, h⟩ := jb h
    refine j_getR E gX6_27 h12 dX6_set_45 ?_
    refine j_iload E 0 dX6_set_48 rfl ?_
    refine j_aload_n E 1 dX6_set_50 rfl rfl ?_
    obtain ⟨x13, h13, h⟩ := jb h
    refine j_getR E gX6_33 h13 dX6_set_51 ?_
    refine j_bipush (v := (6 : Int32)) E dX6_set_54 (by decide) ?_
    refine j_iload_n E 2 dX6_set_56 rfl rfl ?_
    refine j_imul E dX6_set_57 ?_
    refine j_iload E 5 dX6_set_58 rfl ?_
    refine j_iadd E dX6_set_60 ?_
    obtain ⟨x14, h14, h⟩ := jb h
    refine j_iald E h14 dX6_set_61 ?_
    obtain ⟨f15, h15, h⟩ := jb h
    refine j_iast E h15 dX6_set_62 ?_
    refine j_aload_n E 1 dX6_set_63 rfl rfl ?_
    obtain ⟨x16, h16, h⟩ := jb h
    refine j_getR E gX6_30 h16 dX6_set_64 ?_
    refine j_iload E 0 dX6_set_67 rfl ?_
    refine j_aload_n E 1 dX6_set_69 rfl rfl ?_
    obtain ⟨x17, h17, h⟩ := jb h
    refine j_getR E gX6_36 h17 dX6_set_70 ?_
    refine j_bipush (v := (6 : Int32)) E dX6_set_73 (by decide) ?_
    refine j_iload_n E 2 dX6_set_75 rfl rfl ?_
    refine j_imul E dX6_set_76 ?_
    refine j_iload E 5 dX6_set_77 rfl ?_
    refine j_iadd E dX6_set_79 ?_
    obtain ⟨x18, h18, h⟩ := jb h
    refine j_iald E h18 dX6_set_80 ?_
    obtain ⟨f19, h19, h⟩ := jb h
    refine j_iast E h19 dX6_set_81 ?_
    refine j_iconst (v := (1 : Int32)) E dX6_set_82 (by decide) ?_
    cases h
    exact j_zret (v := (1 : Int32)) E (by decide +kernel) dX6_set_83
  replace h := jt hc9 h
  refine j_iconst (v := (0 : Int32)) E dX6_set_29 (by decide) ?_
  cases h
  exact j_zret (v := (0 : Int32)) E (by decide +kernel) dX6_set_30
def mX6_get (f : jM) (v0 : Nat) (v1 : Int32) (v2 : Int32) (v3 : Int32) (v4 : Int32) : Option (Int32 × jM) :=
    (chk 6 f v0).bind fun _ =>
    (mX6_isRegister f v0 v1 v2).bind fun r2 =>
    if r2.1 = 0 then (
    some ((0 : Int32), r2.2)) else (
    (chk 6 r2.2 v0).bind fun _ =>
    (mX6_isRegister r2.2 v0 v1 v4).bind fun r5 =>
    if r5.1 = 0 then (
    some ((0 : Int32), r5.2)) else (
    (chk 6 r5.2 v0).bind fun _ =>
    (mX6_isField r5.2 v0 v1 v2 v3).bind fun r8 =>
    if r8.1 = 0 then (
    some ((0 : Int32), r8.2)) else (
    (chk 6 r8.2 v0).bind fun _ =>
    (mX6_local r8.2 v0 v1 v2).bind fun r11 =>
    (rdR 6 r11.2 v0 8).bind fun x12 =>
    (rdR 6 r11.2 v0 6).bind fun x13 =>
    (ldI 0 r11.2 x13 (((12 : Int32) * r11.1) + v3)).bind fun x14 =>
    (stI 0 r11.2 x12 (((6 : Int32) * v1) + v4) x14).bind fun f15 =>
    (rdR 6 f15 v0 9).bind fun x16 =>
    (rdR 6 f15 v0 7).bind fun x17 =>
    (ldI 0 f15 x17 (((12 : Int32) * r11.1) + v3)).bind fun x18 =>
    (stI 0 f15 x16 (((6 : Int32) * v1) + v4) x18).bind fun f19 =>
    some ((1 : Int32), f19))))
set_option maxRecDepth 100000 in
set_option maxHeartbeats 4000000 in
theorem sX6_get {l : Launch} {D : jD} {sz : Nat} {f : jM} {v0 : Nat} {v1 : Int32} {v2 : Int32} {v3 : Int32} {v4 : Int32} {res : (Int32 × jM)} (h : mX6_get f v0 v1 v2 v3 v4 = some res) : jCt l D yX6_get cX6_get 6 (some .boolean) 2 46 [.ref v0, .int v1, .int v2, .int v3, .int v4] f sz 0 0 (some (.int res.1)) res.2 sz := by
  refine j_start (by decide +kernel) (Nat.le_of_ble_eq_true rfl) (fun c hcl hcD hcn E => ?_)
  subst hcl
  subst hcD
  replace E : jOk c cX6_get 6 RX6 (some .boolean) 2 46 := E
  show J c (jZ c (some (.int res.1)) res.2 sz) f sz 0 0 0 [(0, .ref v0), (1, .int v1), (2, .int v2), (3, .int v3), (4, .int v4)] []
  unfold mX6_get at h
  refine j_aload_n E 0 dX6_get_0 rfl rfl ?_
  refine j_iload_n E 1 dX6_get_1 rfl rfl ?_
  refine j_iload_n E 2 dX6_get_2 rfl rfl ?_
  obtain ⟨u1, h1, h⟩ := jb h
  obtain ⟨fs1, h1⟩ := chk_spec h1
  obtain ⟨r2, h2, h⟩ := jb h
  refine j_callV (As := [.int v1, .int v2]) (b := v0) (rest := []) (rc := 0) (rs := 0) E (sX6_isRegister h2) lwX6_isRegister lkX6_94 imX6_isRegister seX6_isRegister rfl h1 (by decide) rfl (Nat.le_of_ble_eq_true rfl) dX6_get_3 ?_
  refine j_if_eq (tgt := 29) E dX6_get_6 (by decide) (fun hc3 => ?_) (fun hc3 => ?_)
  · replace h := jt hc3 h
    refine j_iconst (v := (0 : Int32)) E dX6_get_29 (by decide) ?_
    cases h
    exact j_zret (v := (0 : Int32)) E (by decide +kernel) dX6_get_30
  replace h := jf hc3 h
  refine j_aload_n E 0 dX6_get_9 rfl rfl ?_
  refine j_iload_n E 1 dX6_get_10 rfl rfl ?_
  refine j_iload E 4 dX6_get_11 rfl ?_
  obtain ⟨u4, h4, h⟩ := jb h
  obtain ⟨fs4, h4⟩ := chk_spec h4
  obtain ⟨r5, h5, h⟩ := jb h
  refine j_callV (As := [.int v1, .int v4]) (b := v0) (rest := []) (rc := 0) (rs := 0) E (sX6_isRegister h5) lwX6_isRegister lkX6_94 imX6_isRegister seX6_isRegister rfl h4 (by decide) rfl (Nat.le_of_ble_eq_true rfl) dX6_get_13 ?_
  refine j_if_eq (tgt := 29) E dX6_get_16 (by decide) (fun hc6 => ?_) (fun hc6 => ?_)
  · replace h := jt hc6 h
    refine j_iconst (v := (0 : Int32)) E dX6_get_29 (by decide) ?_
    cases h
    exact j_zret (v := (0 : Int32)) E (by decide +kernel) dX6_get_30
  replace h := jf hc6 h
  refine j_aload_n E 0 dX6_get_19 rfl rfl ?_
  refine j_iload_n E 1 dX6_get_20 rfl rfl ?_
  refine j_iload_n E 2 dX6_get_21 rfl rfl ?_
  refine j_iload_n E 3 dX6_get_22 rfl rfl ?_
  obtain ⟨u7, h7, h⟩ := jb h
  obtain ⟨fs7, h7⟩ := chk_spec h7
  obtain ⟨r8, h8, h⟩ := jb h
  refine j_callV (As := [.int v1, .int v2, .int v3]) (b := v0) (rest := []) (rc := 0) (rs := 0) E (sX6_isField h8) lwX6_isField lkX6_102 imX6_isField seX6_isField rfl h7 (by decide) rfl (Nat.le_of_ble_eq_true rfl) dX6_get_23 ?_
  refine j_if_ne (tgt := 31) E dX6_get_26 (by decide) (fun hc9 => ?_) (fun hc9 => ?_)
  · replace h := jf hc9 h
    refine j_bipush (v := (12 : Int32)) E dX6_get_31 (by decide) ?_
    refine j_aload_n E 0 dX6_get_33 rfl rfl ?_
    refine j_iload_n E 1 dX6_get_34 rfl rfl ?_
    refine j_iload_n E 2 dX6_get_35 rfl rfl ?_
    obtain ⟨u10, h10, h⟩ := jb h
    obtain ⟨fs10, h10⟩ := chk_spec h10
    obtain ⟨r11, h11, h⟩ := jb h
    refine j_callV (As := [.int v1, .int v2]) (b := v0) (rest := [.int (12 : Int32)]) (rc := 0) (rs := 0) E (sX6_local h11) lwX6_local lkX6_98 imX6_local seX6_local rfl h10 (by decide) rfl (Nat.le_of_ble_eq_true rfl) dX6_get_36 ?_
    refine j_imul E dX6_get_39 ?_
    refine j_iload_n E 3 dX6_get_40 rfl rfl ?_
    refine j_iadd E dX6_get_41 ?_
    refine j_istore (lv' := [(5, .int (((12 : Int32) * r11.1) + v3)), (0, .ref v0), (1, .int v1), (2, .int v2), (3, .int v3), (4, .int v4)]) E dX6_get_42 (by decide) rfl ?_
    refine j_aload_n E 1 dX6_get_44 rfl rfl ?_
    obtain ⟨x12, h12, h⟩ := jb h
    refine j_getR E gX6_33 h12 dX6_get_45 ?_
    refine j_bipush (v := (6 : Int32)) E dX6_get_48 (by decide) ?_
    refine j_iload_n E 2 dX6_get_50 rfl rfl ?_
    refine j_imul E dX6_get_51 ?_
    refine j_iload E 5 dX6_get_52 rfl ?_
    refine j_iadd E dX6_get_54 ?_
    refine j_aload_n E 1 dX6_get_55 rfl rfl ?_
    obtain ⟨x13, h13, h⟩ := jb h
    refine j_getR E gX6_27 h13 dX6_get_56 ?_
    refine j_iload E 0 dX6_get_59 rfl ?_
    obtain ⟨x14, h14, h⟩ := jb h
    refine j_iald E h14 dX6_get_61 ?_
    obtain ⟨f15, h15, h⟩ := jb h
    refine j_iast E h15 dX6_get_62 ?_
    refine j_aload_n E 1 dX6_get_63 rfl rfl ?_
    obtain ⟨x16, h16, h⟩ := jb h
    refine j_getR E gX6_36 h16 dX6_get_64 ?_
    refine j_bipush (v := (6 : Int32)) E dX6_get_67 (by decide) ?_
    refine j_iload_n E 2 dX6_get_69 rfl rfl ?_
    refine j_imul E dX6_get_70 ?_
    refine j_iload E 5 dX6_get_71 rfl ?_
    refine j_iadd E dX6_get_73 ?_
    refine j_aload_n E 1 dX6_get_74 rfl rfl ?_
    obtain ⟨x17, h17, h⟩ := jb h
    refine j_getR E gX6_30 h17 dX6_get_75 ?_
    refine j_iload E 0 dX6_get_78 rfl ?_
    obtain ⟨x18, h18, h⟩ := jb h
    refine j_iald E h18 dX6_get_80 ?_
    obtain ⟨f19, h19, h⟩ := jb h
    refine j_iast E h19 dX6_get_81 ?_
    refine j_iconst (v := (1 : Int32)) E dX6_get_82 (by decide) ?_
    cases h
    exact j_zret (v := (1 : Int32)) E (by decide +kernel) dX6_get_83
  replace h := jt hc9 h
  refine j_iconst (v := (0 : Int32)) E dX6_get_29 (by decide) ?_
  cases h
  exact j_zret (v := (0 : Int32)) E (by decide +kernel) dX6_get_30
