def mX6_collects_L157 (fu : Nat) (k128 : jM → Option (Int32 × jM)) (v0 : Nat) (v1 : Int32) (v2 : Int32) : Nat → Int32 → jM → Option (Int32 × jM)
  | 0, _, _ => none
  | n + 1, v3, f =>
    (rdR 6 f v0 2).bind fun x30 =>
    (ldI 0 f x30 v2).bind fun x31 =>
    if x31 ≤ v3 then (
    k128 f) else (
    (rdR 6 f v0 6).bind fun x33 =>
    (ldI 0 f x33 (((12 : Int32) * v2) + v3)).bind fun x34 =>
    (rdR 6 f v0 7).bind fun x35 =>
    (ldI 0 f x35 (((12 : Int32) * v2) + v3)).bind fun x36 =>
    (chk 6 f v0).bind fun _ =>
    (mX6_marks f v0 v1 x34 x36).bind fun f38 =>
    mX6_collects_L157 fu k128 v0 v1 v2 n (v3 + (1 : Int32)) f38)
set_option maxRecDepth 100000 in
set_option maxHeartbeats 4000000 in
theorem wX6_collects_L157 {c : jS} {sz : Nat} {fu : Nat} {k128 : jM → Option (Int32 × jM)} {v0 : Nat} {v1 : Int32} {v2 : Int32} {res : (Int32 × jM)} (E : jOk c cX6_collects 6 RX6 (some .int) 2 48) (hk128 : ∀  (f : jM), k128  f = some res → J c (jZ c (some (.int res.1)) res.2 sz) f sz 0 0 128 [(0, .ref v0), (1, .int v1)] []) : ∀ (n : Nat) (v3 : Int32) (f : jM), mX6_collects_L157 fu k128 v0 v1 v2 n v3 f = some res → J c (jZ c (some (.int res.1)) res.2 sz) f sz 0 0 157 [(0, .ref v0), (1, .int v1), (2, .int v2), (3, .int v3)] [] := by
  intro n
  induction n with
  | zero => intro v3 f h; exact jn0 h
  | succ n ih =>
    intro v3 f h
    rw [mX6_collects_L157] at h
    refine j_iload_n E 3 dX6_collects_157 rfl rfl ?_
    refine j_aload_n E 0 dX6_collects_158 rfl rfl ?_
    obtain ⟨x30, h30, h⟩ := jb h
    refine j_getR E gX6_13 h30 dX6_collects_159 ?_
    refine j_iload_n E 2 dX6_collects_162 rfl rfl ?_
    obtain ⟨x31, h31, h⟩ := jb h
    refine j_iald E h31 dX6_collects_163 ?_
    refine j_icmp_ge (tgt := 200) E dX6_collects_164 (by decide) (fun hc32 => ?_) (fun hc32 => ?_)
    · replace h := jt hc32 h
      refine j_goto (tgt := 128) E dX6_collects_200 (by decide) ?_
      exact j_sub [0, 1] rfl (hk128 _ h)
    replace h := jf hc32 h
    refine j_aload_n E 0 dX6_collects_167 rfl rfl ?_
    refine j_iload_n E 1 dX6_collects_168 rfl rfl ?_
    refine j_aload_n E 0 dX6_collects_169 rfl rfl ?_
    obtain ⟨x33, h33, h⟩ := jb h
    refine j_getR E gX6_27 h33 dX6_collects_170 ?_
    refine j_bipush (v := (12 : Int32)) E dX6_collects_173 (by decide) ?_
    refine j_iload_n E 2 dX6_collects_175 rfl rfl ?_
    refine j_imul E dX6_collects_176 ?_
    refine j_iload_n E 3 dX6_collects_177 rfl rfl ?_
    refine j_iadd E dX6_collects_178 ?_
    obtain ⟨x34, h34, h⟩ := jb h
    refine j_iald E h34 dX6_collects_179 ?_
    refine j_aload_n E 0 dX6_collects_180 rfl rfl ?_
    obtain ⟨x35, h35, h⟩ := jb h
    refine j_getR E gX6_30 h35 dX6_collects_181 ?_
    refine j_bipush (v := (12 : Int32)) E dX6_collects_184 (by decide) ?_
    refine j_iload_n E 2 dX6_collects_186 rfl rfl ?_
    refine j_imul E dX6_collects_187 ?_
    refine j_iload_n E 3 dX6_collects_188 rfl rfl ?_
    refine j_iadd E dX6_collects_189 ?_
    obtain ⟨x36, h36, h⟩ := jb h
    refine j_iald E h36 dX6_collects_190 ?_
    obtain ⟨u37, h37, h⟩ := jb h
    obtain ⟨fs37, h37⟩ := chk_spec h37
    obtain ⟨f38, h38, h⟩ := jb h
    refine j_callV (As := [.int v1, .int x34, .int x36]) (b := v0) (rest := []) (rc := 0) (rs := 0) E (sX6_marks h38) lwX6_marks lkX6_140 imX6_marks seX6_marks rfl h37 (by decide) rfl (Nat.le_of_ble_eq_true rfl) dX6_collects_191 ?_
    refine j_iinc (v := (v3 + (1 : Int32))) (lv' := [(3, .int (v3 + (1 : Int32))), (0, .ref v0), (1, .int v1), (2, .int v2)]) E 3 dX6_collects_194 rfl rfl (by decide) rfl ?_
    refine j_goto (tgt := 157) E dX6_collects_197 (by decide) ?_
    exact j_sub [1, 2, 3, 0] rfl (ih _ _ h)
def mX6_collects_L328 (fu : Nat)  (v0 : Nat) (v1 : Int32) (v3 : Int32) : Nat → Int32 → jM → Option (Int32 × jM)
  | 0, _, _ => none
  | n + 1, v4, f =>
    if (120 : Int32) ≤ v4 then (
    some (v3, f)) else (
    (rdR 6 f v0 10).bind fun x60 =>
    (ldI 0 f x60 (((120 : Int32) * v1) + v4)).bind fun x61 =>
    if x61 ≤ 0 then (
    mX6_collects_L328 fu v0 v1 v3 n (v4 + (1 : Int32)) f) else (
    (rdR 6 f v0 21).bind fun x63 =>
    (ldI 1 f x63 v4).bind fun x64 =>
    if x64 = 0 then (
    (chk 6 f v0).bind fun _ =>
    (mX6_givesBack f v0 v1 v4).bind fun f67 =>
    mX6_collects_L328 fu v0 v1 v3 n (v4 + (1 : Int32)) f67) else (
    mX6_collects_L328 fu v0 v1 v3 n (v4 + (1 : Int32)) f)))
set_option maxRecDepth 100000 in
set_option maxHeartbeats 4000000 in
theorem wX6_collects_L328 {c : jS} {sz : Nat} {fu : Nat}  {v0 : Nat} {v1 : Int32} {v3 : Int32} {res : (Int32 × jM)} (E : jOk c cX6_collects 6 RX6 (some .int) 2 48)  : ∀ (n : Nat) (v4 : Int32) (f : jM), mX6_collects_L328 fu  v0 v1 v3 n v4 f = some res → J c (jZ c (some (.int res.1)) res.2 sz) f sz 0 0 328 [(0, .ref v0), (1, .int v1), (3, .int v3), (4, .int v4)] [] := by
  intro n
  induction n with
  | zero => intro v4 f h; exact jn0 h
  | succ n ih =>
    intro v4 f h
    rw [mX6_collects_L328] at h
    refine j_iload E 3 dX6_collects_328 rfl ?_
    refine j_bipush (v := (120 : Int32)) E dX6_collects_330 (by decide) ?_
    refine j_icmp_ge (tgt := 373) E dX6_collects_332 (by decide) (fun hc59 => ?_) (fun hc59 => ?_)
    · replace h := jt hc59 h
      refine j_iload_n E 2 dX6_collects_373 rfl rfl ?_
      cases h
      exact j_iret E dX6_collects_374
    replace h := jf hc59 h
    refine j_aload_n E 0 dX6_collects_335 rfl rfl ?_
    obtain ⟨x60, h60, h⟩ := jb h
    refine j_getR E gX6_39 h60 dX6_collects_336 ?_
    refine j_bipush (v := (120 : Int32)) E dX6_collects_339 (by decide) ?_
    refine j_iload_n E 1 dX6_collects_341 rfl rfl ?_
    refine j_imul E dX6_collects_342 ?_
    refine j_iload E 3 dX6_collects_343 rfl ?_
    refine j_iadd E dX6_collects_345 ?_
    obtain ⟨x61, h61, h⟩ := jb h
    refine j_iald E h61 dX6_collects_346 ?_
    refine j_if_le (tgt := 367) E dX6_collects_347 (by decide) (fun hc62 => ?_) (fun hc62 => ?_)
    · replace h := jt hc62 h
      refine j_iinc (v := (v4 + (1 : Int32))) (lv' := [(4, .int (v4 + (1 : Int32))), (0, .ref v0), (1, .int v1), (3, .int v3)]) E 3 dX6_collects_367 rfl rfl (by decide) rfl ?_
      refine j_goto (tgt := 328) E dX6_collects_370 (by decide) ?_
      exact j_sub [1, 2, 3, 0] rfl (ih _ _ h)
    replace h := jf hc62 h
    refine j_aload_n E 0 dX6_collects_350 rfl rfl ?_
    obtain ⟨x63, h63, h⟩ := jb h
    refine j_getR E gX6_69 h63 dX6_collects_351 ?_
    refine j_iload E 3 dX6_collects_354 rfl ?_
    obtain ⟨x64, h64, h⟩ := jb h
    refine j_zald E h64 dX6_collects_356 ?_
    refine j_if_ne (tgt := 367) E dX6_collects_357 (by decide) (fun hc65 => ?_) (fun hc65 => ?_)
    · replace h := jf hc65 h
      refine j_iinc (v := (v4 + (1 : Int32))) (lv' := [(4, .int (v4 + (1 : Int32))), (0, .ref v0), (1, .int v1), (3, .int v3)]) E 3 dX6_collects_367 rfl rfl (by decide) rfl ?_
      refine j_goto (tgt := 328) E dX6_collects_370 (by decide) ?_
      exact j_sub [1, 2, 3, 0] rfl (ih _ _ h)
    replace h := jt hc65 h
    refine j_aload_n E 0 dX6_collects_360 rfl rfl ?_
    refine j_iload_n E 1 dX6_collects_361 rfl rfl ?_
    refine j_iload E 3 dX6_collects_362 rfl ?_
    obtain ⟨u66, h66, h⟩ := jb h
    obtain ⟨fs66, h66⟩ := chk_spec h66
    obtain ⟨f67, h67, h⟩ := jb h
    refine j_callV (As := [.int v1, .int v4]) (b := v0) (rest := []) (rc := 0) (rs := 0) E (sX6_givesBack h67) lwX6_givesBack lkX6_147 imX6_givesBack seX6_givesBack rfl h66 (by decide) rfl (Nat.le_of_ble_eq_true rfl) dX6_collects_364 ?_
    refine j_iinc (v := (v4 + (1 : Int32))) (lv' := [(4, .int (v4 + (1 : Int32))), (0, .ref v0), (1, .int v1), (3, .int v3)]) E 3 dX6_collects_367 rfl rfl (by decide) rfl ?_
    refine j_goto (tgt := 328) E dX6_collects_370 (by decide) ?_
    exact j_sub [1, 2, 3, 0] rfl (ih _ _ h)
def mX6_collects_L264 (fu : Nat)  (v0 : Nat) (v1 : Int32) : Nat → Int32 → Int32 → jM → Option (Int32 × jM)
  | 0, _, _, _ => none
  | n + 1, v3, v4, f =>
    if (24 : Int32) ≤ v4 then (
    (chk 6 f v0).bind fun _ =>
    (mX6_slides fu f v0 v1).bind fun f50 =>
    mX6_collects_L328 fu v0 v1 v3 fu (0 : Int32) f50) else (
    (rdR 6 f v0 5).bind fun x51 =>
    (ldI 1 f x51 (((24 : Int32) * v1) + v4)).bind fun x52 =>
    if x52 = 0 then (
    mX6_collects_L264 fu v0 v1 n v3 (v4 + (1 : Int32)) f) else (
    (rdR 6 f v0 20).bind fun x54 =>
    (ldI 1 f x54 (((24 : Int32) * v1) + v4)).bind fun x55 =>
    if x55 = 0 then (
    (rdR 6 f v0 5).bind fun x57 =>
    (stI 1 f x57 (((24 : Int32) * v1) + v4) (vp_nar .boolean (0 : Int32))).bind fun f58 =>
    mX6_collects_L264 fu v0 v1 n (v3 + (1 : Int32)) (v4 + (1 : Int32)) f58) else (
    mX6_collects_L264 fu v0 v1 n v3 (v4 + (1 : Int32)) f)))
set_option maxRecDepth 100000 in
set_option maxHeartbeats 4000000 in
theorem wX6_collects_L264 {c : jS} {sz : Nat} {fu : Nat}  {v0 : Nat} {v1 : Int32} {res : (Int32 × jM)} (E : jOk c cX6_collects 6 RX6 (some .int) 2 48)  : ∀ (n : Nat) (v3 : Int32) (v4 : Int32) (f : jM), mX6_collects_L264 fu  v0 v1 n v3 v4 f = some res → J c (jZ c (some (.int res.1)) res.2 sz) f sz 0 0 264 [(0, .ref v0), (1, .int v1), (3, .int v3), (4, .int v4)] [] := by
  intro n
  induction n with
  | zero => intro v3 v4 f h; exact jn0 h
  | succ n ih =>
    intro v3 v4 f h
    rw [mX6_collects_L264] at h
    refine j_iload E 3 dX6_collects_264 rfl ?_
    refine j_bipush (v := (24 : Int32)) E dX6_collects_266 (by decide) ?_
    refine j_icmp_ge (tgt := 320) E dX6_collects_268 (by decide) (fun hc48 => ?_) (fun hc48 => ?_)
    · replace h := jt hc48 h
      refine j_aload_n E 0 dX6_collects_320 rfl rfl ?_
      refine j_iload_n E 1 dX6_collects_321 rfl rfl ?_
      obtain ⟨u49, h49, h⟩ := jb h
      obtain ⟨fs49, h49⟩ := chk_spec h49
      obtain ⟨f50, h50, h⟩ := jb h
      refine j_callV (As := [.int v1]) (b := v0) (rest := []) (rc := 0) (rs := 0) E (sX6_slides h50) lwX6_slides lkX6_144 imX6_slides seX6_slides rfl h49 (by decide) rfl (Nat.le_of_ble_eq_true rfl) dX6_collects_322 ?_
      refine j_iconst (v := (0 : Int32)) E dX6_collects_325 (by decide) ?_
      refine j_istore (lv' := [(4, .int (0 : Int32)), (0, .ref v0), (1, .int v1), (3, .int v3)]) E dX6_collects_326 (by decide) rfl ?_
      exact j_sub [1, 2, 3, 0] rfl (wX6_collects_L328 E _ _ _ h)
    replace h := jf hc48 h
    refine j_bipush (v := (24 : Int32)) E dX6_collects_271 (by decide) ?_
    refine j_iload_n E 1 dX6_collects_273 rfl rfl ?_
    refine j_imul E dX6_collects_274 ?_
    refine j_iload E 3 dX6_collects_275 rfl ?_
    refine j_iadd E dX6_collects_277 ?_
    refine j_istore (lv' := [(5, .int (((24 : Int32) * v1) + v4)), (0, .ref v0), (1, .int v1), (3, .int v3), (4, .int v4)]) E dX6_collects_278 (by decide) rfl ?_
    refine j_aload_n E 1 dX6_collects_280 rfl rfl ?_
    obtain ⟨x51, h51, h⟩ := jb h
    refine j_getR E gX6_23 h51 dX6_collects_281 ?_
    refine j_iload E 0 dX6_collects_284 rfl ?_
    obtain ⟨x52, h52, h⟩ := jb h
    refine j_zald E h52 dX6_collects_286 ?_
    refine j_if_eq (tgt := 314) E dX6_collects_287 (by decide) (fun hc53 => ?_) (fun hc53 => ?_)
    · replace h := jt hc53 h
      refine j_iinc (v := (v4 + (1 : Int32))) (lv' := [(4, .int (v4 + (1 : Int32))), (5, .int (((24 : Int32) * v1) + v4)), (0, .ref v0), (1, .int v1), (3, .int v3)]) E 4 dX6_collects_314 rfl rfl (by decide) rfl ?_
      refine j_goto (tgt := 264) E dX6_collects_317 (by decide) ?_
      exact j_sub [2, 3, 4, 0] rfl (ih _ _ _ h)
    replace h := jf hc53 h
    refine j_aload_n E 1 dX6_collects_290 rfl rfl ?_
    obtain ⟨x54, h54, h⟩ := jb h
    refine j_getR E gX6_66 h54 dX6_collects_291 ?_
    refine j_iload E 0 dX6_collects_294 rfl ?_
    obtain ⟨x55, h55, h⟩ := jb h
    refine j_zald E h55 dX6_collects_296 ?_
    refine j_if_eq (tgt := 303) E dX6_collects_297 (by decide) (fun hc56 => ?_) (fun hc56 => ?_)
    · replace h := jt hc56 h
      refine j_aload_n E 1 dX6_collects_303 rfl rfl ?_
      obtain ⟨x57, h57, h⟩ := jb h
      refine j_getR E gX6_23 h57 dX6_collects_304 ?_
      refine j_iload E 0 dX6_collects_307 rfl ?_
      refine j_iconst (v := (0 : Int32)) E dX6_collects_309 (by decide) ?_
      obtain ⟨f58, h58, h⟩ := jb h
      refine j_zast E h58 dX6_collects_310 ?_
      refine j_iinc (v := (v3 + (1 : Int32))) (lv' := [(3, .int (v3 + (1 : Int32))), (5, .int (((24 : Int32) * v1) + v4)), (0, .ref v0), (1, .int v1), (4, .int v4)]) E 3 dX6_collects_311 rfl rfl (by decide) rfl ?_
      refine j_iinc (v := (v4 + (1 : Int32))) (lv' := [(4, .int (v4 + (1 : Int32))), (3, .int (v3 + (1 : Int32))), (5, .int (((24 : Int32) * v1) + v4)), (0, .ref v0), (1, .int v1)]) E 4 dX6_collects_314 rfl rfl (by decide) rfl ?_
      refine j_goto (tgt := 264) E dX6_collects_317 (by decide) ?_
      exact j_sub [3, 4, 1, 0] rfl (ih _ _ _ h)
    replace h := jf hc56 h
    refine j_goto (tgt := 314) E dX6_collects_300 (by decide) ?_
    refine j_iinc (v := (v4 + (1 : Int32))) (lv' := [(4, .int (v4 + (1 : Int32))), (5, .int (((24 : Int32) * v1) + v4)), (0, .ref v0), (1, .int v1), (3, .int v3)]) E 4 dX6_collects_314 rfl rfl (by decide) rfl ?_
    refine j_goto (tgt := 264) E dX6_collects_317 (by decide) ?_
    exact j_sub [2, 3, 4, 0] rfl (ih _ _ _ h)
def mX6_collects_L207 (fu : Nat)  (v0 : Nat) (v1 : Int32) : Nat → Int32 → Int32 → jM → Option (Int32 × jM)
  | 0, _, _, _ => none
  | n + 1, v2, v3, f =>
    if (120 : Int32) ≤ v3 then (
    (rdI 6 f v0 13).bind fun x40 =>
    if (x40 + v2) ≤ (60 : Int32) then (
    mX6_collects_L264 fu v0 v1 fu (0 : Int32) (0 : Int32) f) else (
    some ((-2 : Int32), f))) else (
    (rdR 6 f v0 10).bind fun x42 =>
    (ldI 0 f x42 (((120 : Int32) * v1) + v3)).bind fun x43 =>
    if x43 ≤ 0 then (
    mX6_collects_L207 fu v0 v1 n v2 (v3 + (1 : Int32)) f) else (
    (rdR 6 f v0 21).bind fun x45 =>
    (ldI 1 f x45 v3).bind fun x46 =>
    if x46 = 0 then (
    mX6_collects_L207 fu v0 v1 n (v2 + (1 : Int32)) (v3 + (1 : Int32)) f) else (
    mX6_collects_L207 fu v0 v1 n v2 (v3 + (1 : Int32)) f)))
set_option maxRecDepth 100000 in
set_option maxHeartbeats 4000000 in
theorem wX6_collects_L207 {c : jS} {sz : Nat} {fu : Nat}  {v0 : Nat} {v1 : Int32} {res : (Int32 × jM)} (E : jOk c cX6_collects 6 RX6 (some .int) 2 48)  : ∀ (n : Nat) (v2 : Int32) (v3 : Int32) (f : jM), mX6_collects_L207 fu  v0 v1 n v2 v3 f = some res → J c (jZ c (some (.int res.1)) res.2 sz) f sz 0 0 207 [(0, .ref v0), (1, .int v1), (2, .int v2), (3, .int v3)] [] := by
  intro n
  induction n with
  | zero => intro v2 v3 f h; exact jn0 h
  | succ n ih =>
    intro v2 v3 f h
    rw [mX6_collects_L207] at h
    refine j_iload_n E 3 dX6_collects_207 rfl rfl ?_
    refine j_bipush (v := (120 : Int32)) E dX6_collects_208 (by decide) ?_
    refine j_icmp_ge (tgt := 245) E dX6_collects_210 (by decide) (fun hc39 => ?_) (fun hc39 => ?_)
    · replace h := jt hc39 h
      refine j_aload_n E 0 dX6_collects_245 rfl rfl ?_
      obtain ⟨x40, h40, h⟩ := jb h
      refine j_getI E gX6_110 h40 dX6_collects_246 ?_
      refine j_iload_n E 2 dX6_collects_249 rfl rfl ?_
      refine j_iadd E dX6_collects_250 ?_
      refine j_bipush (v := (60 : Int32)) E dX6_collects_251 (by decide) ?_
      refine j_icmp_le (tgt := 259) E dX6_collects_253 (by decide) (fun hc41 => ?_) (fun hc41 => ?_)
      · replace h := jt hc41 h
        refine j_iconst (v := (0 : Int32)) E dX6_collects_259 (by decide) ?_
        refine j_istore_n (lv' := [(3, .int (0 : Int32)), (0, .ref v0), (1, .int v1), (2, .int v2)]) E dX6_collects_260 rfl (by decide) rfl ?_
        refine j_iconst (v := (0 : Int32)) E dX6_collects_261 (by decide) ?_
        refine j_istore (lv' := [(4, .int (0 : Int32)), (3, .int (0 : Int32)), (0, .ref v0), (1, .int v1), (2, .int v2)]) E dX6_collects_262 (by decide) rfl ?_
        exact j_sub [2, 3, 1, 0] rfl (wX6_collects_L264 E _ _ _ _ h)
      replace h := jf hc41 h
      refine j_bipush (v := (-2 : Int32)) E dX6_collects_256 (by decide) ?_
      cases h
      exact j_iret E dX6_collects_258
    replace h := jf hc39 h
    refine j_aload_n E 0 dX6_collects_213 rfl rfl ?_
    obtain ⟨x42, h42, h⟩ := jb h
    refine j_getR E gX6_39 h42 dX6_collects_214 ?_
    refine j_bipush (v := (120 : Int32)) E dX6_collects_217 (by decide) ?_
    refine j_iload_n E 1 dX6_collects_219 rfl rfl ?_
    refine j_imul E dX6_collects_220 ?_
    refine j_iload_n E 3 dX6_collects_221 rfl rfl ?_
    refine j_iadd E dX6_collects_222 ?_
    obtain ⟨x43, h43, h⟩ := jb h
    refine j_iald E h43 dX6_collects_223 ?_
    refine j_if_le (tgt := 239) E dX6_collects_224 (by decide) (fun hc44 => ?_) (fun hc44 => ?_)
    · replace h := jt hc44 h
      refine j_iinc (v := (v3 + (1 : Int32))) (lv' := [(3, .int (v3 + (1 : Int32))), (0, .ref v0), (1, .int v1), (2, .int v2)]) E 3 dX6_collects_239 rfl rfl (by decide) rfl ?_
      refine j_goto (tgt := 207) E dX6_collects_242 (by decide) ?_
      exact j_sub [1, 2, 3, 0] rfl (ih _ _ _ h)
    replace h := jf hc44 h
    refine j_aload_n E 0 dX6_collects_227 rfl rfl ?_
    obtain ⟨x45, h45, h⟩ := jb h
    refine j_getR E gX6_69 h45 dX6_collects_228 ?_
    refine j_iload_n E 3 dX6_collects_231 rfl rfl ?_
    obtain ⟨x46, h46, h⟩ := jb h
    refine j_zald E h46 dX6_collects_232 ?_
    refine j_if_ne (tgt := 239) E dX6_collects_233 (by decide) (fun hc47 => ?_) (fun hc47 => ?_)
    · replace h := jf hc47 h
      refine j_iinc (v := (v3 + (1 : Int32))) (lv' := [(3, .int (v3 + (1 : Int32))), (0, .ref v0), (1, .int v1), (2, .int v2)]) E 3 dX6_collects_239 rfl rfl (by decide) rfl ?_
      refine j_goto (tgt := 207) E dX6_collects_242 (by decide) ?_
      exact j_sub [1, 2, 3, 0] rfl (ih _ _ _ h)
    replace h := jt hc47 h
    refine j_iinc (v := (v2 + (1 : Int32))) (lv' := [(2, .int (v2 + (1 : Int32))), (0, .ref v0), (1, .int v1), (3, .int v3)]) E 2 dX6_collects_236 rfl rfl (by decide) rfl ?_
    refine j_iinc (v := (v3 + (1 : Int32))) (lv' := [(3, .int (v3 + (1 : Int32))), (2, .int (v2 + (1 : Int32))), (0, .ref v0), (1, .int v1)]) E 3 dX6_collects_239 rfl rfl (by decide) rfl ?_
    refine j_goto (tgt := 207) E dX6_collects_242 (by decide) ?_
    exact j_sub [2, 3, 1, 0] rfl (ih _ _ _ h)
def mX6_collects_L128 (fu : Nat)  (v0 : Nat) (v1 : Int32) : Nat → jM → Option (Int32 × jM)
  | 0, _ => none
  | n + 1, f =>
    (rdI 6 f v0 22).bind fun x23 =>
    if x23 ≤ 0 then (
    mX6_collects_L207 fu v0 v1 fu (0 : Int32) (0 : Int32) f) else (
    (rdI 6 f v0 22).bind fun x25 =>
    (wrV 6 f v0 22 (.int (x25 - (1 : Int32)))).bind fun f26 =>
    (rdR 6 f26 v0 23).bind fun x27 =>
    (rdI 6 f26 v0 22).bind fun x28 =>
    (ldI 0 f26 x27 x28).bind fun x29 =>
    mX6_collects_L157 fu (mX6_collects_L128 fu v0 v1 n) v0 v1 x29 fu (0 : Int32) f26)
set_option maxRecDepth 100000 in
set_option maxHeartbeats 4000000 in
theorem wX6_collects_L128 {c : jS} {sz : Nat} {fu : Nat}  {v0 : Nat} {v1 : Int32} {res : (Int32 × jM)} (E : jOk c cX6_collects 6 RX6 (some .int) 2 48)  : ∀ (n : Nat)  (f : jM), mX6_collects_L128 fu  v0 v1 n  f = some res → J c (jZ c (some (.int res.1)) res.2 sz) f sz 0 0 128 [(0, .ref v0), (1, .int v1)] [] := by
  intro n
  induction n with
  | zero => intro  f h; exact jn0 h
  | succ n ih =>
    intro  f h
    rw [mX6_collects_L128] at h
    refine j_aload_n E 0 dX6_collects_128 rfl rfl ?_
    obtain ⟨x23, h23, h⟩ := jb h
    refine j_getI E gX6_137 h23 dX6_collects_129 ?_
    refine j_if_le (tgt := 203) E dX6_collects_132 (by decide) (fun hc24 => ?_) (fun hc24 => ?_)
    · replace h := jt hc24 h
      refine j_iconst (v := (0 : Int32)) E dX6_collects_203 (by decide) ?_
      refine j_istore_n (lv' := [(2, .int (0 : Int32)), (0, .ref v0), (1, .int v1)]) E dX6_collects_204 rfl (by decide) rfl ?_
      refine j_iconst (v := (0 : Int32)) E dX6_collects_205 (by decide) ?_
      refine j_istore_n (lv' := [(3, .int (0 : Int32)), (2, .int (0 : Int32)), (0, .ref v0), (1, .int v1)]) E dX6_collects_206 rfl (by decide) rfl ?_
      exact j_sub [2, 3, 1, 0] rfl (wX6_collects_L207 E _ _ _ _ h)
    replace h := jf hc24 h
    refine j_aload_n E 0 dX6_collects_135 rfl rfl ?_
    refine j_dup E dX6_collects_136 rfl ?_
    obtain ⟨x25, h25, h⟩ := jb h
    refine j_getI E gX6_137 h25 dX6_collects_137 ?_
    refine j_iconst (v := (1 : Int32)) E dX6_collects_140 (by decide) ?_
    refine j_isub E dX6_collects_141 ?_
    obtain ⟨f26, h26, h⟩ := jb h
    refine j_putV E gpX6_137 h26 rfl rfl dX6_collects_142 ?_
    refine j_aload_n E 0 dX6_collects_145 rfl rfl ?_
    obtain ⟨x27, h27, h⟩ := jb h
    refine j_getR E gX6_72 h27 dX6_collects_146 ?_
    refine j_aload_n E 0 dX6_collects_149 rfl rfl ?_
    obtain ⟨x28, h28, h⟩ := jb h
    refine j_getI E gX6_137 h28 dX6_collects_150 ?_
    obtain ⟨x29, h29, h⟩ := jb h
    refine j_iald E h29 dX6_collects_153 ?_
    refine j_istore_n (lv' := [(2, .int x29), (0, .ref v0), (1, .int v1)]) E dX6_collects_154 rfl (by decide) rfl ?_
    refine j_iconst (v := (0 : Int32)) E dX6_collects_155 (by decide) ?_
    refine j_istore_n (lv' := [(3, .int (0 : Int32)), (2, .int x29), (0, .ref v0), (1, .int v1)]) E dX6_collects_156 rfl (by decide) rfl ?_
    exact j_sub [2, 3, 1, 0] rfl (wX6_collects_L157 E ih _ _ _ h)
def mX6_collects_L76 (fu : Nat)  (v0 : Nat) (v1 : Int32) : Nat → Int32 → jM → Option (Int32 × jM)
  | 0, _, _ => none
  | n + 1, v2, f =>
    if (24 : Int32) ≤ v2 then (
    mX6_collects_L128 fu v0 v1 fu f) else (
    (rdR 6 f v0 5).bind fun x15 =>
    (ldI 1 f x15 (((24 : Int32) * v1) + v2)).bind fun x16 =>
    if x16 = 0 then (
    mX6_collects_L76 fu v0 v1 n (v2 + (1 : Int32)) f) else (
    (rdR 6 f v0 4).bind fun x18 =>
    (ldI 0 f x18 (((24 : Int32) * v1) + v2)).bind fun x19 =>
    if x19 ≤ 0 then (
    mX6_collects_L76 fu v0 v1 n (v2 + (1 : Int32)) f) else (
    (chk 6 f v0).bind fun _ =>
    (mX6_marks f v0 v1 (2 : Int32) (((24 : Int32) * v1) + v2)).bind fun f22 =>
    mX6_collects_L76 fu v0 v1 n (v2 + (1 : Int32)) f22)))
set_option maxRecDepth 100000 in
set_option maxHeartbeats 4000000 in
theorem wX6_collects_L76 {c : jS} {sz : Nat} {fu : Nat}  {v0 : Nat} {v1 : Int32} {res : (Int32 × jM)} (E : jOk c cX6_collects 6 RX6 (some .int) 2 48)  : ∀ (n : Nat) (v2 : Int32) (f : jM), mX6_collects_L76 fu  v0 v1 n v2 f = some res → J c (jZ c (some (.int res.1)) res.2 sz) f sz 0 0 76 [(0, .ref v0), (1, .int v1), (2, .int v2)] [] := by
  intro n
  induction n with
  | zero => intro v2 f h; exact jn0 h
  | succ n ih =>
    intro v2 f h
    rw [mX6_collects_L76] at h
    refine j_iload_n E 2 dX6_collects_76 rfl rfl ?_
    refine j_bipush (v := (24 : Int32)) E dX6_collects_77 (by decide) ?_
    refine j_icmp_ge (tgt := 128) E dX6_collects_79 (by decide) (fun hc14 => ?_) (fun hc14 => ?_)
    · replace h := jt hc14 h
      exact j_sub [0, 1] rfl (wX6_collects_L128 E _ _ h)
    replace h := jf hc14 h
    refine j_aload_n E 0 dX6_collects_82 rfl rfl ?_
    obtain ⟨x15, h15, h⟩ := jb h
    refine j_getR E gX6_23 h15 dX6_collects_83 ?_
    refine j_bipush (v := (24 : Int32)) E dX6_collects_86 (by decide) ?_
    refine j_iload_n E 1 dX6_collects_88 rfl rfl ?_
    refine j_imul E dX6_collects_89 ?_
    refine j_iload_n E 2 dX6_collects_90 rfl rfl ?_
    refine j_iadd E dX6_collects_91 ?_
    obtain ⟨x16, h16, h⟩ := jb h
    refine j_zald E h16 dX6_collects_92 ?_
    refine j_if_eq (tgt := 122) E dX6_collects_93 (by decide) (fun hc17 => ?_) (fun hc17 => ?_)
    · replace h := jt hc17 h
      refine j_iinc (v := (v2 + (1 : Int32))) (lv' := [(2, .int (v2 + (1 : Int32))), (0, .ref v0), (1, .int v1)]) E 2 dX6_collects_122 rfl rfl (by decide) rfl ?_
      refine j_goto (tgt := 76) E dX6_collects_125 (by decide) ?_
      exact j_sub [1, 2, 0] rfl (ih _ _ h)
    replace h := jf hc17 h
    refine j_aload_n E 0 dX6_collects_96 rfl rfl ?_
    obtain ⟨x18, h18, h⟩ := jb h
    refine j_getR E gX6_20 h18 dX6_collects_97 ?_
    refine j_bipush (v := (24 : Int32)) E dX6_collects_100 (by decide) ?_
    refine j_iload_n E 1 dX6_collects_102 rfl rfl ?_
    refine j_imul E dX6_collects_103 ?_
    refine j_iload_n E 2 dX6_collects_104 rfl rfl ?_
    refine j_iadd E dX6_collects_105 ?_
    obtain ⟨x19, h19, h⟩ := jb h
    refine j_iald E h19 dX6_collects_106 ?_
    refine j_if_le (tgt := 122) E dX6_collects_107 (by decide) (fun hc20 => ?_) (fun hc20 => ?_)
    · replace h := jt hc20 h
      refine j_iinc (v := (v2 + (1 : Int32))) (lv' := [(2, .int (v2 + (1 : Int32))), (0, .ref v0), (1, .int v1)]) E 2 dX6_collects_122 rfl rfl (by decide) rfl ?_
      refine j_goto (tgt := 76) E dX6_collects_125 (by decide) ?_
      exact j_sub [1, 2, 0] rfl (ih _ _ h)
    replace h := jf hc20 h
    refine j_aload_n E 0 dX6_collects_110 rfl rfl ?_
    refine j_iload_n E 1 dX6_collects_111 rfl rfl ?_
    refine j_iconst (v := (2 : Int32)) E dX6_collects_112 (by decide) ?_
    refine j_bipush (v := (24 : Int32)) E dX6_collects_113 (by decide) ?_
    refine j_iload_n E 1 dX6_collects_115 rfl rfl ?_
    refine j_imul E dX6_collects_116 ?_
    refine j_iload_n E 2 dX6_collects_117 rfl rfl ?_
    refine j_iadd E dX6_collects_118 ?_
    obtain ⟨u21, h21, h⟩ := jb h
    obtain ⟨fs21, h21⟩ := chk_spec h21
    obtain ⟨f22, h22, h⟩ := jb h
    refine j_callV (As := [.int v1, .int (2 : Int32), .int (((24 : Int32) * v1) + v2)]) (b := v0) (rest := []) (rc := 0) (rs := 0) E (sX6_marks h22) lwX6_marks lkX6_140 imX6_marks seX6_marks rfl h21 (by decide) rfl (Nat.le_of_ble_eq_true rfl) dX6_collects_119 ?_
    refine j_iinc (v := (v2 + (1 : Int32))) (lv' := [(2, .int (v2 + (1 : Int32))), (0, .ref v0), (1, .int v1)]) E 2 dX6_collects_122 rfl rfl (by decide) rfl ?_
    refine j_goto (tgt := 76) E dX6_collects_125 (by decide) ?_
    exact j_sub [1, 2, 0] rfl (ih _ _ h)
def mX6_collects_L35 (fu : Nat)  (v0 : Nat) (v1 : Int32) : Nat → Int32 → jM → Option (Int32 × jM)
  | 0, _, _ => none
  | n + 1, v2, f =>
    if (6 : Int32) ≤ v2 then (
    mX6_collects_L76 fu v0 v1 fu (0 : Int32) f) else (
    (rdR 6 f v0 8).bind fun x8 =>
    (ldI 0 f x8 (((6 : Int32) * v1) + v2)).bind fun x9 =>
    (rdR 6 f v0 9).bind fun x10 =>
    (ldI 0 f x10 (((6 : Int32) * v1) + v2)).bind fun x11 =>
    (chk 6 f v0).bind fun _ =>
    (mX6_marks f v0 v1 x9 x11).bind fun f13 =>
    mX6_collects_L35 fu v0 v1 n (v2 + (1 : Int32)) f13)
set_option maxRecDepth 100000 in
set_option maxHeartbeats 4000000 in
theorem wX6_collects_L35 {c : jS} {sz : Nat} {fu : Nat}  {v0 : Nat} {v1 : Int32} {res : (Int32 × jM)} (E : jOk c cX6_collects 6 RX6 (some .int) 2 48)  : ∀ (n : Nat) (v2 : Int32) (f : jM), mX6_collects_L35 fu  v0 v1 n v2 f = some res → J c (jZ c (some (.int res.1)) res.2 sz) f sz 0 0 35 [(0, .ref v0), (1, .int v1), (2, .int v2)] [] := by
  intro n
  induction n with
  | zero => intro v2 f h; exact jn0 h
  | succ n ih =>
    intro v2 f h
    rw [mX6_collects_L35] at h
    refine j_iload_n E 2 dX6_collects_35 rfl rfl ?_
    refine j_bipush (v := (6 : Int32)) E dX6_collects_36 (by decide) ?_
    refine j_icmp_ge (tgt := 74) E dX6_collects_38 (by decide) (fun hc7 => ?_) (fun hc7 => ?_)
    · replace h := jt hc7 h
      refine j_iconst (v := (0 : Int32)) E dX6_collects_74 (by decide) ?_
      refine j_istore_n (lv' := [(2, .int (0 : Int32)), (0, .ref v0), (1, .int v1)]) E dX6_collects_75 rfl (by decide) rfl ?_
      exact j_sub [1, 2, 0] rfl (wX6_collects_L76 E _ _ _ h)
    replace h := jf hc7 h
    refine j_aload_n E 0 dX6_collects_41 rfl rfl ?_
    refine j_iload_n E 1 dX6_collects_42 rfl rfl ?_
    refine j_aload_n E 0 dX6_collects_43 rfl rfl ?_
    obtain ⟨x8, h8, h⟩ := jb h
    refine j_getR E gX6_33 h8 dX6_collects_44 ?_
    refine j_bipush (v := (6 : Int32)) E dX6_collects_47 (by decide) ?_
    refine j_iload_n E 1 dX6_collects_49 rfl rfl ?_
    refine j_imul E dX6_collects_50 ?_
    refine j_iload_n E 2 dX6_collects_51 rfl rfl ?_
    refine j_iadd E dX6_collects_52 ?_
    obtain ⟨x9, h9, h⟩ := jb h
    refine j_iald E h9 dX6_collects_53 ?_
    refine j_aload_n E 0 dX6_collects_54 rfl rfl ?_
    obtain ⟨x10, h10, h⟩ := jb h
    refine j_getR E gX6_36 h10 dX6_collects_55 ?_
    refine j_bipush (v := (6 : Int32)) E dX6_collects_58 (by decide) ?_
    refine j_iload_n E 1 dX6_collects_60 rfl rfl ?_
    refine j_imul E dX6_collects_61 ?_
    refine j_iload_n E 2 dX6_collects_62 rfl rfl ?_
    refine j_iadd E dX6_collects_63 ?_
    obtain ⟨x11, h11, h⟩ := jb h
    refine j_iald E h11 dX6_collects_64 ?_
    obtain ⟨u12, h12, h⟩ := jb h
    obtain ⟨fs12, h12⟩ := chk_spec h12
    obtain ⟨f13, h13, h⟩ := jb h
    refine j_callV (As := [.int v1, .int x9, .int x11]) (b := v0) (rest := []) (rc := 0) (rs := 0) E (sX6_marks h13) lwX6_marks lkX6_140 imX6_marks seX6_marks rfl h12 (by decide) rfl (Nat.le_of_ble_eq_true rfl) dX6_collects_65 ?_
    refine j_iinc (v := (v2 + (1 : Int32))) (lv' := [(2, .int (v2 + (1 : Int32))), (0, .ref v0), (1, .int v1)]) E 2 dX6_collects_68 rfl rfl (by decide) rfl ?_
    refine j_goto (tgt := 35) E dX6_collects_71 (by decide) ?_
    exact j_sub [1, 2, 0] rfl (ih _ _ h)
def mX6_collects_L2 (fu : Nat)  (v0 : Nat) (v1 : Int32) : Nat → Int32 → jM → Option (Int32 × jM)
  | 0, _, _ => none
  | n + 1, v2, f =>
    if (120 : Int32) ≤ v2 then (
    (wrV 6 f v0 22 (.int (0 : Int32))).bind fun f2 =>
    mX6_collects_L35 fu v0 v1 fu (0 : Int32) f2) else (
    (rdR 6 f v0 20).bind fun x3 =>
    (stI 1 f x3 v2 (vp_nar .boolean (0 : Int32))).bind fun f4 =>
    (rdR 6 f4 v0 21).bind fun x5 =>
    (stI 1 f4 x5 v2 (vp_nar .boolean (0 : Int32))).bind fun f6 =>
    mX6_collects_L2 fu v0 v1 n (v2 + (1 : Int32)) f6)
set_option maxRecDepth 100000 in
set_option maxHeartbeats 4000000 in
theorem wX6_collects_L2 {c : jS} {sz : Nat} {fu : Nat}  {v0 : Nat} {v1 : Int32} {res : (Int32 × jM)} (E : jOk c cX6_collects 6 RX6 (some .int) 2 48)  : ∀ (n : Nat) (v2 : Int32) (f : jM), mX6_collects_L2 fu  v0 v1 n v2 f = some res → J c (jZ c (some (.int res.1)) res.2 sz) f sz 0 0 2 [(0, .ref v0), (1, .int v1), (2, .int v2)] [] := by
  intro n
  induction n with
  | zero => intro v2 f h; exact jn0 h
  | succ n ih =>
    intro v2 f h
    rw [mX6_collects_L2] at h
    refine j_iload_n E 2 dX6_collects_2 rfl rfl ?_
    refine j_bipush (v := (120 : Int32)) E dX6_collects_3 (by decide) ?_
    refine j_icmp_ge (tgt := 28) E dX6_collects_5 (by decide) (fun hc1 => ?_) (fun hc1 => ?_)
    · replace h := jt hc1 h
      refine j_aload_n E 0 dX6_collects_28 rfl rfl ?_
      refine j_iconst (v := (0 : Int32)) E dX6_collects_29 (by decide) ?_
      obtain ⟨f2, h2, h⟩ := jb h
      refine j_putV E gpX6_137 h2 rfl rfl dX6_collects_30 ?_
      refine j_iconst (v := (0 : Int32)) E dX6_collects_33 (by decide) ?_
      refine j_istore_n (lv' := [(2, .int (0 : Int32)), (0, .ref v0), (1, .int v1)]) E dX6_collects_34 rfl (by decide) rfl ?_
      exact j_sub [1, 2, 0] rfl (wX6_collects_L35 E _ _ _ h)
    replace h := jf hc1 h
    refine j_aload_n E 0 dX6_collects_8 rfl rfl ?_
    obtain ⟨x3, h3, h⟩ := jb h
    refine j_getR E gX6_66 h3 dX6_collects_9 ?_
    refine j_iload_n E 2 dX6_collects_12 rfl rfl ?_
    refine j_iconst (v := (0 : Int32)) E dX6_collects_13 (by decide) ?_
    obtain ⟨f4, h4, h⟩ := jb h
    refine j_zast E h4 dX6_collects_14 ?_
    refine j_aload_n E 0 dX6_collects_15 rfl rfl ?_
    obtain ⟨x5, h5, h⟩ := jb h
    refine j_getR E gX6_69 h5 dX6_collects_16 ?_
    refine j_iload_n E 2 dX6_collects_19 rfl rfl ?_
    refine j_iconst (v := (0 : Int32)) E dX6_collects_20 (by decide) ?_
    obtain ⟨f6, h6, h⟩ := jb h
    refine j_zast E h6 dX6_collects_21 ?_
    refine j_iinc (v := (v2 + (1 : Int32))) (lv' := [(2, .int (v2 + (1 : Int32))), (0, .ref v0), (1, .int v1)]) E 2 dX6_collects_22 rfl rfl (by decide) rfl ?_
    refine j_goto (tgt := 2) E dX6_collects_25 (by decide) ?_
    exact j_sub [1, 2, 0] rfl (ih _ _ h)
def mX6_collects (fu : Nat) (f : jM) (v0 : Nat) (v1 : Int32) : Option (Int32 × jM) :=
    mX6_collects_L2 fu v0 v1 fu (0 : Int32) f
set_option maxRecDepth 100000 in
set_option maxHeartbeats 4000000 in
theorem sX6_collects {l : Launch} {D : jD} {sz : Nat} {fu : Nat} {f : jM} {v0 : Nat} {v1 : Int32} {res : (Int32 × jM)} (h : mX6_collects fu f v0 v1 = some res) : jCt l D yX6_collects cX6_collects 6 (some .int) 2 48 [.ref v0, .int v1] f sz 0 0 (some (.int res.1)) res.2 sz := by
  refine j_start (by decide +kernel) (Nat.le_of_ble_eq_true rfl) (fun c hcl hcD hcn E => ?_)
  subst hcl
  subst hcD
  replace E : jOk c cX6_collects 6 RX6 (some .int) 2 48 := E
  show J c (jZ c (some (.int res.1)) res.2 sz) f sz 0 0 0 [(0, .ref v0), (1, .int v1)] []
  unfold mX6_collects at h
  refine j_iconst (v := (0 : Int32)) E dX6_collects_0 (by decide) ?_
  refine j_istore_n (lv' := [(2, .int (0 : Int32)), (0, .ref v0), (1, .int v1)]) E dX6_collects_1 rfl (by decide) rfl ?_
  exact j_sub [1, 2, 0] rfl (wX6_collects_L2 E _ _ _ h)
def mX6_collect (fu : Nat) (f : jM) (v0 : Nat) (v1 : Int32) : Option (Int32 × jM) :=
    (chk 6 f v0).bind fun _ =>
    (mX6_isNode f v0 v1).bind fun r2 =>
    if r2.1 = 0 then (
    some ((-1 : Int32), r2.2)) else (
    (chk 6 r2.2 v0).bind fun _ =>
    (mX6_collects fu r2.2 v0 v1).bind fun r5 =>
    some (r5.1, r5.2))
set_option maxRecDepth 100000 in
set_option maxHeartbeats 4000000 in
theorem sX6_collect {l : Launch} {D : jD} {sz : Nat} {fu : Nat} {f : jM} {v0 : Nat} {v1 : Int32} {res : (Int32 × jM)} (h : mX6_collect fu f v0 v1 = some res) : jCt l D yX6_collect cX6_collect 2 (some .int) 3 73 [.ref v0, .int v1] f sz 0 0 (some (.int res.1)) res.2 sz := by
  refine j_start (by decide +kernel) (Nat.le_of_ble_eq_true rfl) (fun c hcl hcD hcn E => ?_)
  subst hcl
  subst hcD
  replace E : jOk c cX6_collect 2 RX6 (some .int) 3 73 := E
  show J c (jZ c (some (.int res.1)) res.2 sz) f sz 0 0 0 [(0, .ref v0), (1, .int v1)] []
  unfold mX6_collect at h
  refine j_aload_n E 0 dX6_collect_0 rfl rfl ?_
  refine j_iload_n E 1 dX6_collect_1 rfl rfl ?_
  obtain ⟨u1, h1, h⟩ := jb h
  obtain ⟨fs1, h1⟩ := chk_spec h1
  obtain ⟨r2, h2, h⟩ := jb h
  refine j_callV (As := [.int v1]) (b := v0) (rest := []) (rc := 0) (rs := 0) E (sX6_isNode h2) lwX6_isNode lkX6_90 imX6_isNode seX6_isNode rfl h1 (by decide) rfl (Nat.le_of_ble_eq_true rfl) dX6_collect_2 ?_
  refine j_if_eq (tgt := 16) E dX6_collect_5 (by decide) (fun hc3 => ?_) (fun hc3 => ?_)
  · replace h := jt hc3 h
    refine j_iconst (v := (-1 : Int32)) E dX6_collect_16 (by decide) ?_
    cases h
    exact j_iret E dX6_collect_17
  replace h := jf hc3 h
  refine j_aload_n E 0 dX6_collect_8 rfl rfl ?_
  refine j_iload_n E 1 dX6_collect_9 rfl rfl ?_
  obtain ⟨u4, h4, h⟩ := jb h
  obtain ⟨fs4, h4⟩ := chk_spec h4
  obtain ⟨r5, h5, h⟩ := jb h
  refine j_callV (As := [.int v1]) (b := v0) (rest := []) (rc := 0) (rs := 0) E (sX6_collects h5) lwX6_collects lkX6_151 imX6_collects seX6_collects rfl h4 (by decide) rfl (Nat.le_of_ble_eq_true rfl) dX6_collect_10 ?_
  refine j_goto (tgt := 17) E dX6_collect_13 (by decide) ?_
  cases h
  exact j_iret E dX6_collect_17
def mX6_grays (f : jM) (v0 : Nat) (v1 : Int32) : Option jM :=
    (rdR 6 f v0 24).bind fun x1 =>
    (ldI 1 f x1 v1).bind fun x2 =>
    if x2 = 0 then (
    (rdR 6 f v0 24).bind fun x4 =>
    (stI 1 f x4 v1 (vp_nar .boolean (1 : Int32))).bind fun f5 =>
    (rdR 6 f5 v0 23).bind fun x6 =>
    (rdI 6 f5 v0 22).bind fun x7 =>
    (stI 0 f5 x6 x7 v1).bind fun f8 =>
    (rdI 6 f8 v0 22).bind fun x9 =>
    (wrV 6 f8 v0 22 (.int (x9 + (1 : Int32)))).bind fun f10 =>
    some f10) else (
    some f)
set_option maxRecDepth 100000 in
set_option maxHeartbeats 4000000 in
theorem sX6_grays {l : Launch} {D : jD} {sz : Nat} {f : jM} {v0 : Nat} {v1 : Int32} {res : jM} (h : mX6_grays f v0 v1 = some res) : jCt l D yX6_grays cX6_grays 2 none 0 0 [.ref v0, .int v1] f sz 0 0 none res sz := by
  refine j_start (by decide +kernel) (Nat.le_of_ble_eq_true rfl) (fun c hcl hcD hcn E => ?_)
  subst hcl
  subst hcD
  replace E : jOk c cX6_grays 2 RX6 none 0 0 := E
  show J c (jZ c none res sz) f sz 0 0 0 [(0, .ref v0), (1, .int v1)] []
  unfold mX6_grays at h
  refine j_aload_n E 0 dX6_grays_0 rfl rfl ?_
  obtain ⟨x1, h1, h⟩ := jb h
  refine j_getR E gX6_75 h1 dX6_grays_1 ?_
  refine j_iload_n E 1 dX6_grays_4 rfl rfl ?_
  obtain ⟨x2, h2, h⟩ := jb h
  refine j_zald E h2 dX6_grays_5 ?_
  refine j_if_eq (tgt := 10) E dX6_grays_6 (by decide) (fun hc3 => ?_) (fun hc3 => ?_)
  · replace h := jt hc3 h
    refine j_aload_n E 0 dX6_grays_10 rfl rfl ?_
    obtain ⟨x4, h4, h⟩ := jb h
    refine j_getR E gX6_75 h4 dX6_grays_11 ?_
    refine j_iload_n E 1 dX6_grays_14 rfl rfl ?_
    refine j_iconst (v := (1 : Int32)) E dX6_grays_15 (by decide) ?_
    obtain ⟨f5, h5, h⟩ := jb h
    refine j_zast E h5 dX6_grays_16 ?_
    refine j_aload_n E 0 dX6_grays_17 rfl rfl ?_
    obtain ⟨x6, h6, h⟩ := jb h
    refine j_getR E gX6_72 h6 dX6_grays_18 ?_
    refine j_aload_n E 0 dX6_grays_21 rfl rfl ?_
    obtain ⟨x7, h7, h⟩ := jb h
    refine j_getI E gX6_137 h7 dX6_grays_22 ?_
    refine j_iload_n E 1 dX6_grays_25 rfl rfl ?_
    obtain ⟨f8, h8, h⟩ := jb h
    refine j_iast E h8 dX6_grays_26 ?_
    refine j_aload_n E 0 dX6_grays_27 rfl rfl ?_
    refine j_dup E dX6_grays_28 rfl ?_
    obtain ⟨x9, h9, h⟩ := jb h
    refine j_getI E gX6_137 h9 dX6_grays_29 ?_
    refine j_iconst (v := (1 : Int32)) E dX6_grays_32 (by decide) ?_
    refine j_iadd E dX6_grays_33 ?_
    obtain ⟨f10, h10, h⟩ := jb h
    refine j_putV E gpX6_137 h10 rfl rfl dX6_grays_34 ?_
    cases h
    exact j_vret E dX6_grays_37
  replace h := jf hc3 h
  cases h
  exact j_vret E dX6_grays_9
def mX6_judges_L62 (fu : Nat) (k24 : Int32 → jM → Option jM) (v0 : Nat) (v1 : Int32) : Nat → Int32 → jM → Option jM
  | 0, _, _ => none
  | n + 1, v2, f =>
    (rdR 6 f v0 2).bind fun x14 =>
    (ldI 0 f x14 v1).bind fun x15 =>
    if x15 ≤ v2 then (
    k24 (v1 + (1 : Int32)) f) else (
    (rdR 6 f v0 6).bind fun x17 =>
    (ldI 0 f x17 (((12 : Int32) * v1) + v2)).bind fun x18 =>
    if x18 = (2 : Int32) then (
    (rdR 6 f v0 7).bind fun x20 =>
    (ldI 0 f x20 (((12 : Int32) * v1) + v2)).bind fun x21 =>
    if (x21 / (24 : Int32)) = (v1 / (24 : Int32)) then (
    mX6_judges_L62 fu k24 v0 v1 n (v2 + (1 : Int32)) f) else (
    (rdR 6 f v0 25).bind fun x23 =>
    (rdR 6 f v0 7).bind fun x24 =>
    (ldI 0 f x24 (((12 : Int32) * v1) + v2)).bind fun x25 =>
    (stI 1 f x23 (((120 : Int32) * (v1 / (24 : Int32))) + x25) (vp_nar .boolean (1 : Int32))).bind fun f26 =>
    mX6_judges_L62 fu k24 v0 v1 n (v2 + (1 : Int32)) f26)) else (
    mX6_judges_L62 fu k24 v0 v1 n (v2 + (1 : Int32)) f))
set_option maxRecDepth 100000 in
set_option maxHeartbeats 4000000 in
theorem wX6_judges_L62 {c : jS} {sz : Nat} {fu : Nat} {k24 : Int32 → jM → Option jM} {v0 : Nat} {v1 : Int32} {res : jM} (E : jOk c cX6_judges 3 RX6 none 0 0) (hk24 : ∀ (v1 : Int32) (f : jM), k24 v1 f = some res → J c (jZ c none res sz) f sz 0 0 24 [(0, .ref v0), (1, .int v1)] []) : ∀ (n : Nat) (v2 : Int32) (f : jM), mX6_judges_L62 fu k24 v0 v1 n v2 f = some res → J c (jZ c none res sz) f sz 0 0 62 [(0, .ref v0), (1, .int v1), (2, .int v2)] [] := by
  intro n
  induction n with
  | zero => intro v2 f h; exact jn0 h
  | succ n ih =>
    intro v2 f h
    rw [mX6_judges_L62] at h
    refine j_iload_n E 2 dX6_judges_62 rfl rfl ?_
    refine j_aload_n E 0 dX6_judges_63 rfl rfl ?_
    obtain ⟨x14, h14, h⟩ := jb h
    refine j_getR E gX6_13 h14 dX6_judges_64 ?_
    refine j_iload_n E 1 dX6_judges_67 rfl rfl ?_
    obtain ⟨x15, h15, h⟩ := jb h
    refine j_iald E h15 dX6_judges_68 ?_
    refine j_icmp_ge (tgt := 139) E dX6_judges_69 (by decide) (fun hc16 => ?_) (fun hc16 => ?_)
    · replace h := jt hc16 h
      refine j_iinc (v := (v1 + (1 : Int32))) (lv' := [(1, .int (v1 + (1 : Int32))), (0, .ref v0), (2, .int v2)]) E 1 dX6_judges_139 rfl rfl (by decide) rfl ?_
      refine j_goto (tgt := 24) E dX6_judges_142 (by decide) ?_
      exact j_sub [1, 0] rfl (hk24 _ _ h)
    replace h := jf hc16 h
    refine j_aload_n E 0 dX6_judges_72 rfl rfl ?_
    obtain ⟨x17, h17, h⟩ := jb h
    refine j_getR E gX6_27 h17 dX6_judges_73 ?_
    refine j_bipush (v := (12 : Int32)) E dX6_judges_76 (by decide) ?_
    refine j_iload_n E 1 dX6_judges_78 rfl rfl ?_
    refine j_imul E dX6_judges_79 ?_
    refine j_iload_n E 2 dX6_judges_80 rfl rfl ?_
    refine j_iadd E dX6_judges_81 ?_
    obtain ⟨x18, h18, h⟩ := jb h
    refine j_iald E h18 dX6_judges_82 ?_
    refine j_iconst (v := (2 : Int32)) E dX6_judges_83 (by decide) ?_
    refine j_icmp_ne (tgt := 133) E dX6_judges_84 (by decide) (fun hc19 => ?_) (fun hc19 => ?_)
    · replace h := jf hc19 h
      refine j_iinc (v := (v2 + (1 : Int32))) (lv' := [(2, .int (v2 + (1 : Int32))), (0, .ref v0), (1, .int v1)]) E 2 dX6_judges_133 rfl rfl (by decide) rfl ?_
      refine j_goto (tgt := 62) E dX6_judges_136 (by decide) ?_
      exact j_sub [1, 2, 0] rfl (ih _ _ h)
    replace h := jt hc19 h
    refine j_aload_n E 0 dX6_judges_87 rfl rfl ?_
    obtain ⟨x20, h20, h⟩ := jb h
    refine j_getR E gX6_30 h20 dX6_judges_88 ?_
    refine j_bipush (v := (12 : Int32)) E dX6_judges_91 (by decide) ?_
    refine j_iload_n E 1 dX6_judges_93 rfl rfl ?_
    refine j_imul E dX6_judges_94 ?_
    refine j_iload_n E 2 dX6_judges_95 rfl rfl ?_
    refine j_iadd E dX6_judges_96 ?_
    obtain ⟨x21, h21, h⟩ := jb h
    refine j_iald E h21 dX6_judges_97 ?_
    refine j_bipush (v := (24 : Int32)) E dX6_judges_98 (by decide) ?_
    refine j_idiv E dX6_judges_100 (by decide) ?_
    refine j_iload_n E 1 dX6_judges_101 rfl rfl ?_
    refine j_bipush (v := (24 : Int32)) E dX6_judges_102 (by decide) ?_
    refine j_idiv E dX6_judges_104 (by decide) ?_
    refine j_icmp_eq (tgt := 133) E dX6_judges_105 (by decide) (fun hc22 => ?_) (fun hc22 => ?_)
    · replace h := jt hc22 h
      refine j_iinc (v := (v2 + (1 : Int32))) (lv' := [(2, .int (v2 + (1 : Int32))), (0, .ref v0), (1, .int v1)]) E 2 dX6_judges_133 rfl rfl (by decide) rfl ?_
      refine j_goto (tgt := 62) E dX6_judges_136 (by decide) ?_
      exact j_sub [1, 2, 0] rfl (ih _ _ h)
    replace h := jf hc22 h
    refine j_aload_n E 0 dX6_judges_108 rfl rfl ?_
    obtain ⟨x23, h23, h⟩ := jb h
    refine j_getR E gX6_78 h23 dX6_judges_109 ?_
    refine j_bipush (v := (120 : Int32)) E dX6_judges_112 (by decide) ?_
    refine j_iload_n E 1 dX6_judges_114 rfl rfl ?_
    refine j_bipush (v := (24 : Int32)) E dX6_judges_115 (by decide) ?_
    refine j_idiv E dX6_judges_117 (by decide) ?_
    refine j_imul E dX6_judges_118 ?_
    refine j_aload_n E 0 dX6_judges_119 rfl rfl ?_
    obtain ⟨x24, h24, h⟩ := jb h
    refine j_getR E gX6_30 h24 dX6_judges_120 ?_
    refine j_bipush (v := (12 : Int32)) E dX6_judges_123 (by decide) ?_
    refine j_iload_n E 1 dX6_judges_125 rfl rfl ?_
    refine j_imul E dX6_judges_126 ?_
    refine j_iload_n E 2 dX6_judges_127 rfl rfl ?_
    refine j_iadd E dX6_judges_128 ?_
    obtain ⟨x25, h25, h⟩ := jb h
    refine j_iald E h25 dX6_judges_129 ?_
    refine j_iadd E dX6_judges_130 ?_
    refine j_iconst (v := (1 : Int32)) E dX6_judges_131 (by decide) ?_
    obtain ⟨f26, h26, h⟩ := jb h
    refine j_zast E h26 dX6_judges_132 ?_
    refine j_iinc (v := (v2 + (1 : Int32))) (lv' := [(2, .int (v2 + (1 : Int32))), (0, .ref v0), (1, .int v1)]) E 2 dX6_judges_133 rfl rfl (by decide) rfl ?_
    refine j_goto (tgt := 62) E dX6_judges_136 (by decide) ?_
    exact j_sub [1, 2, 0] rfl (ih _ _ h)
def mX6_judges_L185 (fu : Nat) (k147 : Int32 → jM → Option jM) (v0 : Nat) (v1 : Int32) : Nat → Int32 → jM → Option jM
  | 0, _, _ => none
  | n + 1, v2, f =>
    (rdR 6 f v0 2).bind fun x37 =>
    (ldI 0 f x37 v1).bind fun x38 =>
    if x38 ≤ v2 then (
    k147 (v1 + (1 : Int32)) f) else (
    (rdR 6 f v0 6).bind fun x40 =>
    (ldI 0 f x40 (((12 : Int32) * v1) + v2)).bind fun x41 =>
    if x41 = (2 : Int32) then (
    (rdR 6 f v0 25).bind fun x43 =>
    (rdR 6 f v0 7).bind fun x44 =>
    (ldI 0 f x44 (((12 : Int32) * v1) + v2)).bind fun x45 =>
    (stI 1 f x43 (((120 : Int32) * (v1 / (24 : Int32))) + x45) (vp_nar .boolean (0 : Int32))).bind fun f46 =>
    mX6_judges_L185 fu k147 v0 v1 n (v2 + (1 : Int32)) f46) else (
    mX6_judges_L185 fu k147 v0 v1 n (v2 + (1 : Int32)) f))
set_option maxRecDepth 100000 in
set_option maxHeartbeats 4000000 in
theorem wX6_judges_L185 {c : jS} {sz : Nat} {fu : Nat} {k147 : Int32 → jM → Option jM} {v0 : Nat} {v1 : Int32} {res : jM} (E : jOk c cX6_judges 3 RX6 none 0 0) (hk147 : ∀ (v1 : Int32) (f : jM), k147 v1 f = some res → J c (jZ c none res sz) f sz 0 0 147 [(0, .ref v0), (1, .int v1)] []) : ∀ (n : Nat) (v2 : Int32) (f : jM), mX6_judges_L185 fu k147 v0 v1 n v2 f = some res → J c (jZ c none res sz) f sz 0 0 185 [(0, .ref v0), (1, .int v1), (2, .int v2)] [] := by
  intro n
  induction n with
  | zero => intro v2 f h; exact jn0 h
  | succ n ih =>
    intro v2 f h
    rw [mX6_judges_L185] at h
    refine j_iload_n E 2 dX6_judges_185 rfl rfl ?_
    refine j_aload_n E 0 dX6_judges_186 rfl rfl ?_
    obtain ⟨x37, h37, h⟩ := jb h
    refine j_getR E gX6_13 h37 dX6_judges_187 ?_
    refine j_iload_n E 1 dX6_judges_190 rfl rfl ?_
    obtain ⟨x38, h38, h⟩ := jb h
    refine j_iald E h38 dX6_judges_191 ?_
    refine j_icmp_ge (tgt := 241) E dX6_judges_192 (by decide) (fun hc39 => ?_) (fun hc39 => ?_)
    · replace h := jt hc39 h
      refine j_iinc (v := (v1 + (1 : Int32))) (lv' := [(1, .int (v1 + (1 : Int32))), (0, .ref v0), (2, .int v2)]) E 1 dX6_judges_241 rfl rfl (by decide) rfl ?_
      refine j_goto (tgt := 147) E dX6_judges_244 (by decide) ?_
      exact j_sub [1, 0] rfl (hk147 _ _ h)
    replace h := jf hc39 h
    refine j_aload_n E 0 dX6_judges_195 rfl rfl ?_
    obtain ⟨x40, h40, h⟩ := jb h
    refine j_getR E gX6_27 h40 dX6_judges_196 ?_
    refine j_bipush (v := (12 : Int32)) E dX6_judges_199 (by decide) ?_
    refine j_iload_n E 1 dX6_judges_201 rfl rfl ?_
    refine j_imul E dX6_judges_202 ?_
    refine j_iload_n E 2 dX6_judges_203 rfl rfl ?_
    refine j_iadd E dX6_judges_204 ?_
    obtain ⟨x41, h41, h⟩ := jb h
    refine j_iald E h41 dX6_judges_205 ?_
    refine j_iconst (v := (2 : Int32)) E dX6_judges_206 (by decide) ?_
    refine j_icmp_ne (tgt := 235) E dX6_judges_207 (by decide) (fun hc42 => ?_) (fun hc42 => ?_)
    · replace h := jf hc42 h
      refine j_iinc (v := (v2 + (1 : Int32))) (lv' := [(2, .int (v2 + (1 : Int32))), (0, .ref v0), (1, .int v1)]) E 2 dX6_judges_235 rfl rfl (by decide) rfl ?_
      refine j_goto (tgt := 185) E dX6_judges_238 (by decide) ?_
      exact j_sub [1, 2, 0] rfl (ih _ _ h)
    replace h := jt hc42 h
    refine j_aload_n E 0 dX6_judges_210 rfl rfl ?_
    obtain ⟨x43, h43, h⟩ := jb h
    refine j_getR E gX6_78 h43 dX6_judges_211 ?_
    refine j_bipush (v := (120 : Int32)) E dX6_judges_214 (by decide) ?_
    refine j_iload_n E 1 dX6_judges_216 rfl rfl ?_
    refine j_bipush (v := (24 : Int32)) E dX6_judges_217 (by decide) ?_
    refine j_idiv E dX6_judges_219 (by decide) ?_
    refine j_imul E dX6_judges_220 ?_
    refine j_aload_n E 0 dX6_judges_221 rfl rfl ?_
    obtain ⟨x44, h44, h⟩ := jb h
    refine j_getR E gX6_30 h44 dX6_judges_222 ?_
    refine j_bipush (v := (12 : Int32)) E dX6_judges_225 (by decide) ?_
    refine j_iload_n E 1 dX6_judges_227 rfl rfl ?_
    refine j_imul E dX6_judges_228 ?_
    refine j_iload_n E 2 dX6_judges_229 rfl rfl ?_
    refine j_iadd E dX6_judges_230 ?_
    obtain ⟨x45, h45, h⟩ := jb h
    refine j_iald E h45 dX6_judges_231 ?_
    refine j_iadd E dX6_judges_232 ?_
    refine j_iconst (v := (0 : Int32)) E dX6_judges_233 (by decide) ?_
    obtain ⟨f46, h46, h⟩ := jb h
    refine j_zast E h46 dX6_judges_234 ?_
    refine j_iinc (v := (v2 + (1 : Int32))) (lv' := [(2, .int (v2 + (1 : Int32))), (0, .ref v0), (1, .int v1)]) E 2 dX6_judges_235 rfl rfl (by decide) rfl ?_
    refine j_goto (tgt := 185) E dX6_judges_238 (by decide) ?_
    exact j_sub [1, 2, 0] rfl (ih _ _ h)
def mX6_judges_B183 (fu : Nat) (k147 : Int32 → jM → Option jM) (v0 : Nat) (v1 : Int32)  (f : jM) : Option jM :=
    mX6_judges_L185 fu k147 v0 v1 fu (0 : Int32) f
set_option maxRecDepth 100000 in
set_option maxHeartbeats 4000000 in
theorem wX6_judges_B183 {c : jS} {sz : Nat} {fu : Nat} {k147 : Int32 → jM → Option jM} {v0 : Nat} {v1 : Int32}  {f : jM} {res : jM} (E : jOk c cX6_judges 3 RX6 none 0 0) (hk147 : ∀ (v1 : Int32) (f : jM), k147 v1 f = some res → J c (jZ c none res sz) f sz 0 0 147 [(0, .ref v0), (1, .int v1)] []) (h : mX6_judges_B183 fu k147 v0 v1  f = some res) : J c (jZ c none res sz) f sz 0 0 183 [(0, .ref v0), (1, .int v1)] [] := by
  unfold mX6_judges_B183 at h
  refine j_iconst (v := (0 : Int32)) E dX6_judges_183 (by decide) ?_
  refine j_istore_n (lv' := [(2, .int (0 : Int32)), (0, .ref v0), (1, .int v1)]) E dX6_judges_184 rfl (by decide) rfl ?_
  exact j_sub [1, 2, 0] rfl (wX6_judges_L185 E hk147 _ _ _ h)
def mX6_judges_L249 (fu : Nat)  (v0 : Nat) : Nat → Int32 → jM → Option jM
  | 0, _, _ => none
  | n + 1, v1, f =>
    (rdI 6 f v0 1).bind fun x47 =>
    if ((6 : Int32) * x47) ≤ v1 then (
    some f) else (
    (rdR 6 f v0 8).bind fun x49 =>
    (ldI 0 f x49 v1).bind fun x50 =>
    if x50 = (2 : Int32) then (
    (rdR 6 f v0 25).bind fun x52 =>
    (rdR 6 f v0 9).bind fun x53 =>
    (ldI 0 f x53 v1).bind fun x54 =>
    (stI 1 f x52 (((120 : Int32) * (v1 / (6 : Int32))) + x54) (vp_nar .boolean (0 : Int32))).bind fun f55 =>
    mX6_judges_L249 fu v0 n (v1 + (1 : Int32)) f55) else (
    mX6_judges_L249 fu v0 n (v1 + (1 : Int32)) f))
set_option maxRecDepth 100000 in
set_option maxHeartbeats 4000000 in
theorem wX6_judges_L249 {c : jS} {sz : Nat} {fu : Nat}  {v0 : Nat} {res : jM} (E : jOk c cX6_judges 3 RX6 none 0 0)  : ∀ (n : Nat) (v1 : Int32) (f : jM), mX6_judges_L249 fu  v0 n v1 f = some res → J c (jZ c none res sz) f sz 0 0 249 [(0, .ref v0), (1, .int v1)] [] := by
  intro n
  induction n with
  | zero => intro v1 f h; exact jn0 h
  | succ n ih =>
    intro v1 f h
    rw [mX6_judges_L249] at h
    refine j_iload_n E 1 dX6_judges_249 rfl rfl ?_
    refine j_bipush (v := (6 : Int32)) E dX6_judges_250 (by decide) ?_
    refine j_aload_n E 0 dX6_judges_252 rfl rfl ?_
    obtain ⟨x47, h47, h⟩ := jb h
    refine j_getI E gX6_87 h47 dX6_judges_253 ?_
    refine j_imul E dX6_judges_256 ?_
    refine j_icmp_ge (tgt := 296) E dX6_judges_257 (by decide) (fun hc48 => ?_) (fun hc48 => ?_)
    · replace h := jt hc48 h
      cases h
      exact j_vret E dX6_judges_296
    replace h := jf hc48 h
    refine j_aload_n E 0 dX6_judges_260 rfl rfl ?_
    obtain ⟨x49, h49, h⟩ := jb h
    refine j_getR E gX6_33 h49 dX6_judges_261 ?_
    refine j_iload_n E 1 dX6_judges_264 rfl rfl ?_
    obtain ⟨x50, h50, h⟩ := jb h
    refine j_iald E h50 dX6_judges_265 ?_
    refine j_iconst (v := (2 : Int32)) E dX6_judges_266 (by decide) ?_
    refine j_icmp_ne (tgt := 290) E dX6_judges_267 (by decide) (fun hc51 => ?_) (fun hc51 => ?_)
    · replace h := jf hc51 h
      refine j_iinc (v := (v1 + (1 : Int32))) (lv' := [(1, .int (v1 + (1 : Int32))), (0, .ref v0)]) E 1 dX6_judges_290 rfl rfl (by decide) rfl ?_
      refine j_goto (tgt := 249) E dX6_judges_293 (by decide) ?_
      exact j_sub [1, 0] rfl (ih _ _ h)
    replace h := jt hc51 h
    refine j_aload_n E 0 dX6_judges_270 rfl rfl ?_
    obtain ⟨x52, h52, h⟩ := jb h
    refine j_getR E gX6_78 h52 dX6_judges_271 ?_
    refine j_bipush (v := (120 : Int32)) E dX6_judges_274 (by decide) ?_
    refine j_iload_n E 1 dX6_judges_276 rfl rfl ?_
    refine j_bipush (v := (6 : Int32)) E dX6_judges_277 (by decide) ?_
    refine j_idiv E dX6_judges_279 (by decide) ?_
    refine j_imul E dX6_judges_280 ?_
    refine j_aload_n E 0 dX6_judges_281 rfl rfl ?_
    obtain ⟨x53, h53, h⟩ := jb h
    refine j_getR E gX6_36 h53 dX6_judges_282 ?_
    refine j_iload_n E 1 dX6_judges_285 rfl rfl ?_
    obtain ⟨x54, h54, h⟩ := jb h
    refine j_iald E h54 dX6_judges_286 ?_
    refine j_iadd E dX6_judges_287 ?_
    refine j_iconst (v := (0 : Int32)) E dX6_judges_288 (by decide) ?_
    obtain ⟨f55, h55, h⟩ := jb h
    refine j_zast E h55 dX6_judges_289 ?_
    refine j_iinc (v := (v1 + (1 : Int32))) (lv' := [(1, .int (v1 + (1 : Int32))), (0, .ref v0)]) E 1 dX6_judges_290 rfl rfl (by decide) rfl ?_
    refine j_goto (tgt := 249) E dX6_judges_293 (by decide) ?_
    exact j_sub [1, 0] rfl (ih _ _ h)
def mX6_judges_L147 (fu : Nat)  (v0 : Nat) : Nat → Int32 → jM → Option jM
  | 0, _, _ => none
  | n + 1, v1, f =>
    if (120 : Int32) ≤ v1 then (
    mX6_judges_L249 fu v0 fu (0 : Int32) f) else (
    (rdR 6 f v0 5).bind fun x28 =>
    (ldI 1 f x28 v1).bind fun x29 =>
    if x29 = 0 then (
    mX6_judges_L147 fu v0 n (v1 + (1 : Int32)) f) else (
    (rdR 6 f v0 24).bind fun x31 =>
    (ldI 1 f x31 v1).bind fun x32 =>
    if x32 = 0 then (
    mX6_judges_B183 fu (mX6_judges_L147 fu v0 n) v0 v1 f) else (
    (rdR 6 f v0 26).bind fun x34 =>
    (ldI 1 f x34 v1).bind fun x35 =>
    if x35 = 0 then (
    mX6_judges_L147 fu v0 n (v1 + (1 : Int32)) f) else (
    mX6_judges_B183 fu (mX6_judges_L147 fu v0 n) v0 v1 f))))
set_option maxRecDepth 100000 in
set_option maxHeartbeats 4000000 in
theorem wX6_judges_L147 {c : jS} {sz : Nat} {fu : Nat}  {v0 : Nat} {res : jM} (E : jOk c cX6_judges 3 RX6 none 0 0)  : ∀ (n : Nat) (v1 : Int32) (f : jM), mX6_judges_L147 fu  v0 n v1 f = some res → J c (jZ c none res sz) f sz 0 0 147 [(0, .ref v0), (1, .int v1)] [] := by
  intro n
  induction n with
  | zero => intro v1 f h; exact jn0 h
  | succ n ih =>
    intro v1 f h
    rw [mX6_judges_L147] at h
    refine j_iload_n E 1 dX6_judges_147 rfl rfl ?_
    refine j_bipush (v := (120 : Int32)) E dX6_judges_148 (by decide) ?_
    refine j_icmp_ge (tgt := 247) E dX6_judges_150 (by decide) (fun hc27 => ?_) (fun hc27 => ?_)
    · replace h := jt hc27 h
      refine j_iconst (v := (0 : Int32)) E dX6_judges_247 (by decide) ?_
      refine j_istore_n (lv' := [(1, .int (0 : Int32)), (0, .ref v0)]) E dX6_judges_248 rfl (by decide) rfl ?_
      exact j_sub [1, 0] rfl (wX6_judges_L249 E _ _ _ h)
    replace h := jf hc27 h
    refine j_aload_n E 0 dX6_judges_153 rfl rfl ?_
    obtain ⟨x28, h28, h⟩ := jb h
    refine j_getR E gX6_23 h28 dX6_judges_154 ?_
    refine j_iload_n E 1 dX6_judges_157 rfl rfl ?_
    obtain ⟨x29, h29, h⟩ := jb h
    refine j_zald E h29 dX6_judges_158 ?_
    refine j_if_eq (tgt := 241) E dX6_judges_159 (by decide) (fun hc30 => ?_) (fun hc30 => ?_)
    · replace h := jt hc30 h
      refine j_iinc (v := (v1 + (1 : Int32))) (lv' := [(1, .int (v1 + (1 : Int32))), (0, .ref v0)]) E 1 dX6_judges_241 rfl rfl (by decide) rfl ?_
      refine j_goto (tgt := 147) E dX6_judges_244 (by decide) ?_
      exact j_sub [1, 0] rfl (ih _ _ h)
    replace h := jf hc30 h
    refine j_aload_n E 0 dX6_judges_162 rfl rfl ?_
    obtain ⟨x31, h31, h⟩ := jb h
    refine j_getR E gX6_75 h31 dX6_judges_163 ?_
    refine j_iload_n E 1 dX6_judges_166 rfl rfl ?_
    obtain ⟨x32, h32, h⟩ := jb h
    refine j_zald E h32 dX6_judges_167 ?_
    refine j_if_eq (tgt := 183) E dX6_judges_168 (by decide) (fun hc33 => ?_) (fun hc33 => ?_)
    · replace h := jt hc33 h
      exact j_sub [0, 1] rfl (wX6_judges_B183 E ih h)
    replace h := jf hc33 h
    refine j_aload_n E 0 dX6_judges_171 rfl rfl ?_
    obtain ⟨x34, h34, h⟩ := jb h
    refine j_getR E gX6_81 h34 dX6_judges_172 ?_
    refine j_iload_n E 1 dX6_judges_175 rfl rfl ?_
    obtain ⟨x35, h35, h⟩ := jb h
    refine j_zald E h35 dX6_judges_176 ?_
    refine j_if_ne (tgt := 183) E dX6_judges_177 (by decide) (fun hc36 => ?_) (fun hc36 => ?_)
    · replace h := jf hc36 h
      exact j_sub [0, 1] rfl (wX6_judges_B183 E ih h)
    replace h := jt hc36 h
    refine j_goto (tgt := 241) E dX6_judges_180 (by decide) ?_
    refine j_iinc (v := (v1 + (1 : Int32))) (lv' := [(1, .int (v1 + (1 : Int32))), (0, .ref v0)]) E 1 dX6_judges_241 rfl rfl (by decide) rfl ?_
    refine j_goto (tgt := 147) E dX6_judges_244 (by decide) ?_
    exact j_sub [1, 0] rfl (ih _ _ h)
def mX6_judges_L24 (fu : Nat)  (v0 : Nat) : Nat → Int32 → jM → Option jM
  | 0, _, _ => none
  | n + 1, v1, f =>
    if (120 : Int32) ≤ v1 then (
    mX6_judges_L147 fu v0 fu (0 : Int32) f) else (
    (rdR 6 f v0 5).bind fun x5 =>
    (ldI 1 f x5 v1).bind fun x6 =>
    if x6 = 0 then (
    mX6_judges_L24 fu v0 n (v1 + (1 : Int32)) f) else (
    (rdR 6 f v0 24).bind fun x8 =>
    (ldI 1 f x8 v1).bind fun x9 =>
    if x9 = 0 then (
    mX6_judges_L24 fu v0 n (v1 + (1 : Int32)) f) else (
    (rdR 6 f v0 26).bind fun x11 =>
    (ldI 1 f x11 v1).bind fun x12 =>
    if x12 = 0 then (
    mX6_judges_L62 fu (mX6_judges_L24 fu v0 n) v0 v1 fu (0 : Int32) f) else (
    mX6_judges_L24 fu v0 n (v1 + (1 : Int32)) f))))
set_option maxRecDepth 100000 in
set_option maxHeartbeats 4000000 in
theorem wX6_judges_L24 {c : jS} {sz : Nat} {fu : Nat}  {v0 : Nat} {res : jM} (E : jOk c cX6_judges 3 RX6 none 0 0)  : ∀ (n : Nat) (v1 : Int32) (f : jM), mX6_judges_L24 fu  v0 n v1 f = some res → J c (jZ c none res sz) f sz 0 0 24 [(0, .ref v0), (1, .int v1)] [] := by
  intro n
  induction n with
  | zero => intro v1 f h; exact jn0 h
  | succ n ih =>
    intro v1 f h
    rw [mX6_judges_L24] at h
    refine j_iload_n E 1 dX6_judges_24 rfl rfl ?_
    refine j_bipush (v := (120 : Int32)) E dX6_judges_25 (by decide) ?_
    refine j_icmp_ge (tgt := 145) E dX6_judges_27 (by decide) (fun hc4 => ?_) (fun hc4 => ?_)
    · replace h := jt hc4 h
      refine j_iconst (v := (0 : Int32)) E dX6_judges_145 (by decide) ?_
      refine j_istore_n (lv' := [(1, .int (0 : Int32)), (0, .ref v0)]) E dX6_judges_146 rfl (by decide) rfl ?_
      exact j_sub [1, 0] rfl (wX6_judges_L147 E _ _ _ h)
    replace h := jf hc4 h
    refine j_aload_n E 0 dX6_judges_30 rfl rfl ?_
    obtain ⟨x5, h5, h⟩ := jb h
    refine j_getR E gX6_23 h5 dX6_judges_31 ?_
    refine j_iload_n E 1 dX6_judges_34 rfl rfl ?_
    obtain ⟨x6, h6, h⟩ := jb h
    refine j_zald E h6 dX6_judges_35 ?_
    refine j_if_eq (tgt := 139) E dX6_judges_36 (by decide) (fun hc7 => ?_) (fun hc7 => ?_)
    · replace h := jt hc7 h
      refine j_iinc (v := (v1 + (1 : Int32))) (lv' := [(1, .int (v1 + (1 : Int32))), (0, .ref v0)]) E 1 dX6_judges_139 rfl rfl (by decide) rfl ?_
      refine j_goto (tgt := 24) E dX6_judges_142 (by decide) ?_
      exact j_sub [1, 0] rfl (ih _ _ h)
    replace h := jf hc7 h
    refine j_aload_n E 0 dX6_judges_39 rfl rfl ?_
    obtain ⟨x8, h8, h⟩ := jb h
    refine j_getR E gX6_75 h8 dX6_judges_40 ?_
    refine j_iload_n E 1 dX6_judges_43 rfl rfl ?_
    obtain ⟨x9, h9, h⟩ := jb h
    refine j_zald E h9 dX6_judges_44 ?_
    refine j_if_eq (tgt := 139) E dX6_judges_45 (by decide) (fun hc10 => ?_) (fun hc10 => ?_)
    · replace h := jt hc10 h
      refine j_iinc (v := (v1 + (1 : Int32))) (lv' := [(1, .int (v1 + (1 : Int32))), (0, .ref v0)]) E 1 dX6_judges_139 rfl rfl (by decide) rfl ?_
      refine j_goto (tgt := 24) E dX6_judges_142 (by decide) ?_
      exact j_sub [1, 0] rfl (ih _ _ h)
    replace h := jf hc10 h
    refine j_aload_n E 0 dX6_judges_48 rfl rfl ?_
    obtain ⟨x11, h11, h⟩ := jb h
    refine j_getR E gX6_81 h11 dX6_judges_49 ?_
    refine j_iload_n E 1 dX6_judges_52 rfl rfl ?_
    obtain ⟨x12, h12, h⟩ := jb h
    refine j_zald E h12 dX6_judges_53 ?_
    refine j_if_eq (tgt := 60) E dX6_judges_54 (by decide) (fun hc13 => ?_) (fun hc13 => ?_)
    · replace h := jt hc13 h
      refine j_iconst (v := (0 : Int32)) E dX6_judges_60 (by decide) ?_
      refine j_istore_n (lv' := [(2, .int (0 : Int32)), (0, .ref v0), (1, .int v1)]) E dX6_judges_61 rfl (by decide) rfl ?_
      exact j_sub [1, 2, 0] rfl (wX6_judges_L62 E ih _ _ _ h)
    replace h := jf hc13 h
    refine j_goto (tgt := 139) E dX6_judges_57 (by decide) ?_
    refine j_iinc (v := (v1 + (1 : Int32))) (lv' := [(1, .int (v1 + (1 : Int32))), (0, .ref v0)]) E 1 dX6_judges_139 rfl rfl (by decide) rfl ?_
    refine j_goto (tgt := 24) E dX6_judges_142 (by decide) ?_
    exact j_sub [1, 0] rfl (ih _ _ h)
def mX6_judges_L2 (fu : Nat)  (v0 : Nat) : Nat → Int32 → jM → Option jM
  | 0, _, _ => none
  | n + 1, v1, f =>
    if (600 : Int32) ≤ v1 then (
    mX6_judges_L24 fu v0 fu (0 : Int32) f) else (
    (rdR 6 f v0 25).bind fun x2 =>
    (stI 1 f x2 v1 (vp_nar .boolean (0 : Int32))).bind fun f3 =>
    mX6_judges_L2 fu v0 n (v1 + (1 : Int32)) f3)
set_option maxRecDepth 100000 in
set_option maxHeartbeats 4000000 in
theorem wX6_judges_L2 {c : jS} {sz : Nat} {fu : Nat}  {v0 : Nat} {res : jM} (E : jOk c cX6_judges 3 RX6 none 0 0)  : ∀ (n : Nat) (v1 : Int32) (f : jM), mX6_judges_L2 fu  v0 n v1 f = some res → J c (jZ c none res sz) f sz 0 0 2 [(0, .ref v0), (1, .int v1)] [] := by
  intro n
  induction n with
  | zero => intro v1 f h; exact jn0 h
  | succ n ih =>
    intro v1 f h
    rw [mX6_judges_L2] at h
    refine j_iload_n E 1 dX6_judges_2 rfl rfl ?_
    refine j_sipush (v := (600 : Int32)) E dX6_judges_3 (by decide) ?_
    refine j_icmp_ge (tgt := 22) E dX6_judges_6 (by decide) (fun hc1 => ?_) (fun hc1 => ?_)
    · replace h := jt hc1 h
      refine j_iconst (v := (0 : Int32)) E dX6_judges_22 (by decide) ?_
      refine j_istore_n (lv' := [(1, .int (0 : Int32)), (0, .ref v0)]) E dX6_judges_23 rfl (by decide) rfl ?_
      exact j_sub [1, 0] rfl (wX6_judges_L24 E _ _ _ h)
    replace h := jf hc1 h
    refine j_aload_n E 0 dX6_judges_9 rfl rfl ?_
    obtain ⟨x2, h2, h⟩ := jb h
    refine j_getR E gX6_78 h2 dX6_judges_10 ?_
    refine j_iload_n E 1 dX6_judges_13 rfl rfl ?_
    refine j_iconst (v := (0 : Int32)) E dX6_judges_14 (by decide) ?_
    obtain ⟨f3, h3, h⟩ := jb h
    refine j_zast E h3 dX6_judges_15 ?_
    refine j_iinc (v := (v1 + (1 : Int32))) (lv' := [(1, .int (v1 + (1 : Int32))), (0, .ref v0)]) E 1 dX6_judges_16 rfl rfl (by decide) rfl ?_
    refine j_goto (tgt := 2) E dX6_judges_19 (by decide) ?_
    exact j_sub [1, 0] rfl (ih _ _ h)
def mX6_judges (fu : Nat) (f : jM) (v0 : Nat) : Option jM :=
    mX6_judges_L2 fu v0 fu (0 : Int32) f
set_option maxRecDepth 100000 in
set_option maxHeartbeats 4000000 in
theorem sX6_judges {l : Launch} {D : jD} {sz : Nat} {fu : Nat} {f : jM} {v0 : Nat} {res : jM} (h : mX6_judges fu f v0 = some res) : jCt l D yX6_judges cX6_judges 3 none 0 0 [.ref v0] f sz 0 0 none res sz := by
  refine j_start (by decide +kernel) (Nat.le_of_ble_eq_true rfl) (fun c hcl hcD hcn E => ?_)
  subst hcl
  subst hcD
  replace E : jOk c cX6_judges 3 RX6 none 0 0 := E
  show J c (jZ c none res sz) f sz 0 0 0 [(0, .ref v0)] []
  unfold mX6_judges at h
  refine j_iconst (v := (0 : Int32)) E dX6_judges_0 (by decide) ?_
  refine j_istore_n (lv' := [(1, .int (0 : Int32)), (0, .ref v0)]) E dX6_judges_1 rfl (by decide) rfl ?_
  exact j_sub [1, 0] rfl (wX6_judges_L2 E _ _ _ h)
