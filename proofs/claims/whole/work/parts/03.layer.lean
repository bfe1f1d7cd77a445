/-! THE LAYER: the machine over a pure memory. A memory f gives to an address its cell: an array (number of its kind in jTy, length, contents) or an object (number of its sort in vwCl, fields) -/
def jTy : List FieldType := [.int, .boolean, .object "FarHeaps$Node", .object "FarHeaps$Letter"]
def jAO : List String := ["FarHeaps$Node", "FarHeaps$Letter"]
def jAC : List Cond := [.arrayClass .int, .arrayClass .boolean]
def jTB : List Cond := lw_tbl.filter (fun w => w.onTables && w.keepsH)
theorem jTB_on {w : Cond} (h : w ∈ jTB) : w.onTables = true ∧ w.keepsH = true := by
  have := (List.mem_filter.mp h).2
  simpa [Bool.and_eq_true] using this
theorem jtb {w : Cond} (h : w ∈ lw_tbl) (hg : (w.onTables && w.keepsH) = true) : w ∈ jTB := List.mem_filter.mpr ⟨h, hg⟩
abbrev jC : Type := (Nat × vp_A) ⊕ (Nat × List Value)
abbrev jM : Type := Nat → Option jC
abbrev jD : Type := va_G × (Nat → ClassId)
def jE (D : jD) (e : jC) : va_E := match e with
  | .inl a => .inl (D.2 a.1, a.2)
  | .inr o => .inr o
def jP (D : jD) (f : jM) (H : Heap) : Prop := ∀ (a : Nat) (e : jC), f a = some e → va_at D.1 vwCl (a, jE D e) H
def jK (D : jD) (U : State) : Prop := va_K D.1 vwCl [] U ∧ (∀ (k : Nat) (ty : FieldType), jTy[k]? = some ty → ArrOfT U (D.2 k) ty ∧ va_RA U (D.2 k) ty) ∧ (∀ w ∈ jTB, va_Nw w U) ∧ ∀ C ∈ jAO, va_AO C U
theorem jK.warm {D : jD} {s U : State} (hW : s.WarmedH U.vm) (h : jK D s) : jK D U := by
  obtain ⟨h1, h2, h3, h4⟩ := h
  refine ⟨va_K.moved hW.alike h1, fun k ty hk => ⟨arrOfT_moved hW.alike (h2 k ty hk).1, (h2 k ty hk).2.moved hW.alike⟩, fun w hw => ?_, fun C hC => (h4 C hC).moved hW.alike⟩
  have h5 := Cond.onTables_warmH (T := U) (args' := #[]) hW (jTB_on hw).1 (jTB_on hw).2 (h3 w hw)
  rwa [State.setVm_self] at h5
theorem jK.same {D : jD} {s U : State} (hv : s.vm = U.vm) (h : jK D s) : jK D U := by
  obtain ⟨h1, h2, h3, h4⟩ := h
  have ha : s.vm.Alike U.vm := by rw [hv]; exact Vm.Alike.refl _
  exact ⟨va_K.moved ha h1, fun k ty hk => ⟨arrOfT_moved ha (h2 k ty hk).1, (h2 k ty hk).2.moved ha⟩, fun w hw => va_Nw.same (jTB_on hw).1 hv (h3 w hw), fun C hC => (h4 C hC).moved ha⟩
theorem jK.use {D : jD} {U : State} (h : jK D U) {w : Cond} (hw : w ∈ jTB) {a : Array Value} : w.before a U = true := va_Nw.use (jTB_on hw).1 (h.2.2.1 w hw)
abbrev jX : Type := Program × Launch × Env × Room × State × MethodId × Array Value × List Frame × Method × Code
abbrev jS : Type := jX × jD × (Nat → Prop) × Nat × Nat × Nat
abbrev j_p (c : jS) : Program := c.1.1
abbrev j_l (c : jS) : Launch := c.1.2.1
abbrev j_e (c : jS) : Env := c.1.2.2.1
abbrev j_R (c : jS) : Room := c.1.2.2.2.1
abbrev j_s (c : jS) : State := c.1.2.2.2.2.1
abbrev j_m (c : jS) : MethodId := c.1.2.2.2.2.2.1
abbrev j_a (c : jS) : Array Value := c.1.2.2.2.2.2.2.1
abbrev j_b (c : jS) : List Frame := c.1.2.2.2.2.2.2.2.1
abbrev j_h (c : jS) : Method := c.1.2.2.2.2.2.2.2.2.1
abbrev j_c (c : jS) : Code := c.1.2.2.2.2.2.2.2.2.2
abbrev j_D (c : jS) : jD := c.2.1
abbrev j_A (c : jS) : Nat → Prop := c.2.2.1
abbrev j_n (c : jS) : Nat := c.2.2.2.1
abbrev j_mc (c : jS) : Nat := c.2.2.2.2.1
abbrev j_ms (c : jS) : Nat := c.2.2.2.2.2
abbrev jW (c : jS) (H : Heap) (locs : List Loc) (cells slots : Nat) (Q : State → Prop) (g : JFrame) : Prop := W (j_p c) (j_l c) (j_e c) (j_R c) (j_s c) (j_m c) (j_a c) (j_b c) (j_h c) (j_c c) H locs cells slots Q g
def jWd (c : jS) (f : jM) (sz : Nat) (H : Heap) (locs : List Loc) : Prop := jP (j_D c) f H ∧ H.size = sz ∧ (∀ a, f a ≠ none → j_A c a) ∧ va_S (j_A c) (j_s c).heap H locs
def J (c : jS) (Q : State → Prop) (f : jM) (sz rc rs pc : Nat) (lv : List (Nat × Value)) (st : List Value) : Prop :=
  ∀ (H : Heap) (locs : List Loc) (cells slots : Nat) (ls : Array Slot), jWd c f sz H locs → cells + rc ≤ j_mc c → slots + rs ≤ j_ms c → lv_has ls (j_n c) lv → jW c H locs cells slots Q (F0 (j_m c) pc ls st)
def jOk (c : jS) (cc : ByteArray) (nL : Nat) (own : String) (ret : Option FieldType) (fr lc : Nat) : Prop :=
  (j_p c).tables.exec = Jvm.exec ∧ (j_c c).code = cc ∧ ((j_c c).maxLocals = nL ∧ j_n c = nL) ∧ (j_s c).vm.findClass own = some (j_m c).cls ∧ jK (j_D c) (j_s c) ∧ (∀ q, (j_s c).heap.size ≤ q → j_A c q) ∧ (j_mc c ≤ (j_R c).cells ∧ j_ms c ≤ (j_R c).slots ∧ fr ≤ (j_R c).frames ∧ lc ≤ (j_R c).locals) ∧ (j_h c).sig.returnType = ret ∧ (j_h c).locks = false ∧ ∀ w ∈ jAC, w.before (j_a c) (j_s c) = true
theorem jOk.K {c : jS} {cc : ByteArray} {nL : Nat} {own : String} {ret : Option FieldType} {fr lc : Nat} (E : jOk c cc nL own ret fr lc) : jK (j_D c) (j_s c) := E.2.2.2.2.1
theorem jOk.own {c : jS} {cc : ByteArray} {nL : Nat} {own : String} {ret : Option FieldType} {fr lc : Nat} (E : jOk c cc nL own ret fr lc) : (j_s c).vm.findClass own = some (j_m c).cls := E.2.2.2.1
def jA (f : jM) (sz : Nat) : Nat → Prop := fun q => f q ≠ none ∨ sz ≤ q
def jQc (D : jD) (A : Nat → Prop) (r : Option Value) (f : jM) (sz : Nat) : Array Value → State → Outcome → State → Prop := fun _ st oc t => oc = .returned r ∧ jP D f t.heap ∧ t.heap.size = sz ∧ (∀ a, f a ≠ none → A a) ∧ va_F A st t
def jZ (c : jS) (r : Option Value) (f : jM) (sz : Nat) : State → Prop := MQ (j_b c) (jQc (j_D c) (j_A c) r f sz) (j_a c) (j_s c) (j_mc c) (j_ms c) (j_A c)
def jPc (D : jD) (av : List Value) (f : jM) (sz : Nat) : Array Value → State → Prop := va_Pc av (fun U => U.heap.size = sz ∧ jP D f U.heap ∧ jK D U)
def jCt (l : Launch) (D : jD) (y : MethodName) (cc : ByteArray) (maxL : Nat) (ret : Option FieldType) (fr lc : Nat) (av : List Value) (f : jM) (sz mc ms : Nat) (r : Option Value) (f' : jM) (sz' : Nat) : Prop :=
  Met l y (Cond.code y cc maxL ret :: jAC) { frames := fr, cells := mc, slots := ms, locals := lc } (jPc D av f sz) (jQc D (jA f sz) r f' sz') mc ms (jA f sz)
theorem jPc.blind {D : jD} {av : List Value} {f : jM} {sz : Nat} : FrameBlind (jPc D av f sz) := fun a U g mk h => ⟨h.1, h.2.1, h.2.2.1, jK.same (s := U) (U := U.calling g mk a) rfl h.2.2.2⟩
theorem jP_up {D : jD} {f : jM} {H H1 : Heap} {a : Nat} {e : jC} (hP : jP D f H) (ha : va_at D.1 vwCl (a, jE D e) H1) (oq : ∀ q : Nat, q ≠ a → H1[q]? = H[q]?) : jP D (va_up f a (some e)) H1 := by
  intro b e' h
  by_cases hb : b = a
  · subst hb
    rw [va_up_self] at h
    cases h
    exact ha
  · rw [va_up_ne _ _ hb] at h
    exact (hP b e' h).kept (oq b hb)
theorem jwd_up {c : jS} {f : jM} {sz : Nat} {H H1 : Heap} {locs : List Loc} {a i : Nat} {e : jC} (hw : jWd c f sz H locs) (hfa : f a ≠ none) (ha : va_at (j_D c).1 vwCl (a, jE (j_D c) e) H1) (z : H1.size = H.size) (oq : ∀ q : Nat, q ≠ a → H1[q]? = H[q]?) : jWd c (va_up f a (some e)) sz H1 (locs ++ [⟨a, i⟩]) := by
  obtain ⟨hP, hz, hA, hS⟩ := hw
  refine ⟨jP_up hP ha oq, z.trans hz, fun b hb => ?_, hS.put z oq (hA a hfa)⟩
  by_cases h : b = a
  · subst h; exact hA b hfa
  · rw [va_up_ne _ _ h] at hb
    exact hA b hb
theorem jwd_new {c : jS} {f : jM} {sz : Nat} {H H1 : Heap} {locs : List Loc} {e : jC} (hw : jWd c f sz H locs) (hAs : ∀ q, (j_s c).heap.size ≤ q → j_A c q) (ha : va_at (j_D c).1 vwCl (H.size, jE (j_D c) e) H1) (z : H1.size = H.size + 1) (oq : ∀ q : Nat, q < H.size → H1[q]? = H[q]?) : jWd c (va_up f sz (some e)) (sz + 1) H1 locs := by
  obtain ⟨hP, hz, hA, hS⟩ := hw
  subst hz
  refine ⟨fun b e' h => ?_, z, fun b hb => ?_, Nat.le_trans hS.1 (by omega), fun q h1 h2 => (oq q (Nat.lt_of_lt_of_le h1 hS.1)).trans (hS.2.1 q h1 h2), hS.2.2⟩
  · by_cases hb : b = H.size
    · subst hb
      rw [va_up_self] at h
      cases h
      exact ha
    · rw [va_up_ne _ _ hb] at h
      exact (hP b e' h).kept (oq b (hP b e' h).lt)
  · by_cases h : b = H.size
    · subst h; exact hAs _ hS.1
    · rw [va_up_ne _ _ h] at hb
      exact hA b hb
/-! reading and writing of the memory -/
def rdV (ci : Nat) (f : jM) (a k : Nat) : Option Value := match f a with
  | some (.inr o) => if o.1 = ci then o.2[k]? else none
  | _ => none
def rdI (ci : Nat) (f : jM) (a k : Nat) : Option Int32 := match rdV ci f a k with
  | some (.int x) => some x
  | _ => none
def rdR (ci : Nat) (f : jM) (a k : Nat) : Option Nat := match rdV ci f a k with
  | some (.ref x) => some x
  | _ => none
def wrV (ci : Nat) (f : jM) (a k : Nat) (v : Value) : Option jM := match f a with
  | some (.inr o) => if o.1 = ci ∧ k < o.2.length then some (va_up f a (some (.inr (ci, o.2.set k v)))) else none
  | _ => none
def chk (ci : Nat) (f : jM) (a : Nat) : Option Unit := match f a with
  | some (.inr o) => if o.1 = ci then some () else none
  | _ => none
def ldI (kd : Nat) (f : jM) (a : Nat) (i : Int32) : Option Int32 := match f a with
  | some (.inl (k, n, .inl g)) => if k = kd ∧ ¬ (i < 0 ∨ n ≤ i.toNatClampNeg) then some (g i.toNatClampNeg) else none
  | _ => none
def stI (kd : Nat) (f : jM) (a : Nat) (i x : Int32) : Option jM := match f a with
  | some (.inl (k, n, .inl g)) => if k = kd ∧ ¬ (i < 0 ∨ n ≤ i.toNatClampNeg) then some (va_up f a (some (.inl (kd, n, .inl (upd g i.toNatClampNeg x))))) else none
  | _ => none
def ldR (kd : Nat) (f : jM) (a : Nat) (i : Int32) : Option Nat := match f a with
  | some (.inl (k, n, .inr (.inr (.inr (.inr g))))) => if k = kd ∧ ¬ (i < 0 ∨ n ≤ i.toNatClampNeg) then g i.toNatClampNeg else none
  | _ => none
def stR (kd ci : Nat) (f : jM) (a : Nat) (i : Int32) (b : Nat) : Option jM := match f a with
  | some (.inl (k, n, .inr (.inr (.inr (.inr g))))) => if k = kd ∧ ¬ (i < 0 ∨ n ≤ i.toNatClampNeg) then (chk ci f b).bind (fun _ => some (va_up f a (some (.inl (kd, n, .inr (.inr (.inr (.inr (va_up g i.toNatClampNeg (some b))))))))) ) else none
  | _ => none
def alen (f : jM) (a : Nat) : Option Int32 := match f a with
  | some (.inl (k, n, _)) => if k < 4 then some (Int32.ofNat n) else none
  | _ => none
theorem rdV_spec {ci : Nat} {f : jM} {a k : Nat} {v : Value} (h : rdV ci f a k = some v) : ∃ fs, f a = some (.inr (ci, fs)) ∧ fs[k]? = some v := by
  unfold rdV at h
  split at h
  · next o ho =>
    split at h
    · next hc => obtain ⟨q1, q2⟩ := o; dsimp only at hc h; subst hc; exact ⟨q2, ho, h⟩
    · cases h
  · cases h
theorem rdI_spec {ci : Nat} {f : jM} {a k : Nat} {x : Int32} (h : rdI ci f a k = some x) : ∃ fs, f a = some (.inr (ci, fs)) ∧ fs[k]? = some (.int x) := by
  unfold rdI at h
  split at h
  · next y hy => cases h; exact rdV_spec hy
  · cases h
theorem rdR_spec {ci : Nat} {f : jM} {a k x : Nat} (h : rdR ci f a k = some x) : ∃ fs, f a = some (.inr (ci, fs)) ∧ fs[k]? = some (.ref x) := by
  unfold rdR at h
  split at h
  · next y hy => cases h; exact rdV_spec hy
  · cases h
theorem wrV_spec {ci : Nat} {f f' : jM} {a k : Nat} {v : Value} (h : wrV ci f a k v = some f') : ∃ fs, f a = some (.inr (ci, fs)) ∧ k < fs.length ∧ f' = va_up f a (some (.inr (ci, fs.set k v))) := by
  unfold wrV at h
  split at h
  · next o ho =>
    split at h
    · next hc => obtain ⟨q1, q2⟩ := o; dsimp only at hc h; obtain ⟨rfl, hk⟩ := hc; cases h; exact ⟨q2, ho, hk, rfl⟩
    · cases h
  · cases h
theorem chk_spec {ci : Nat} {f : jM} {a : Nat} {u : Unit} (h : chk ci f a = some u) : ∃ fs, f a = some (.inr (ci, fs)) := by
  unfold chk at h
  split at h
  · next o ho =>
    split at h
    · next hc => obtain ⟨q1, q2⟩ := o; dsimp only at hc; subst hc; exact ⟨q2, ho⟩
    · cases h
  · cases h
theorem ldI_spec {kd : Nat} {f : jM} {a : Nat} {i x : Int32} (h : ldI kd f a i = some x) : ∃ n g, f a = some (.inl (kd, n, .inl g)) ∧ vp_in i n ∧ x = g i.toNatClampNeg := by
  unfold ldI at h
  split at h
  · next k n g ho =>
    split at h
    · next hc => obtain ⟨rfl, hi⟩ := hc; cases h; exact ⟨n, g, ho, hi, rfl⟩
    · cases h
  · cases h
theorem stI_spec {kd : Nat} {f f' : jM} {a : Nat} {i x : Int32} (h : stI kd f a i x = some f') : ∃ n g, f a = some (.inl (kd, n, .inl g)) ∧ vp_in i n ∧ f' = va_up f a (some (.inl (kd, n, .inl (upd g i.toNatClampNeg x)))) := by
  unfold stI at h
  split at h
  · next k n g ho =>
    split at h
    · next hc => obtain ⟨rfl, hi⟩ := hc; cases h; exact ⟨n, g, ho, hi, rfl⟩
    · cases h
  · cases h
theorem ldR_spec {kd : Nat} {f : jM} {a x : Nat} {i : Int32} (h : ldR kd f a i = some x) : ∃ n g, f a = some (.inl (kd, n, .inr (.inr (.inr (.inr g))))) ∧ vp_in i n ∧ g i.toNatClampNeg = some x := by
  unfold ldR at h
  split at h
  · next k n g ho =>
    split at h
    · next hc => obtain ⟨rfl, hi⟩ := hc; exact ⟨n, g, ho, hi, h⟩
    · cases h
  · cases h
theorem stR_spec {kd ci : Nat} {f f' : jM} {a b : Nat} {i : Int32} (h : stR kd ci f a i b = some f') : ∃ n g fs, f a = some (.inl (kd, n, .inr (.inr (.inr (.inr g))))) ∧ vp_in i n ∧ f b = some (.inr (ci, fs)) ∧ f' = va_up f a (some (.inl (kd, n, .inr (.inr (.inr (.inr (va_up g i.toNatClampNeg (some b)))))))) := by
  unfold stR at h
  split at h
  · next k n g ho =>
    split at h
    · next hc =>
      obtain ⟨rfl, hi⟩ := hc
      obtain ⟨u, hu, h⟩ := Option.bind_eq_some_iff.mp h
      obtain ⟨fs, hfs⟩ := chk_spec hu
      cases h
      exact ⟨n, g, fs, ho, hi, hfs, rfl⟩
    · cases h
  · cases h
theorem alen_spec {f : jM} {a : Nat} {x : Int32} (h : alen f a = some x) : ∃ k n v, f a = some (.inl (k, n, v)) ∧ k < 4 ∧ x = Int32.ofNat n := by
  unfold alen at h
  split at h
  · next k n v ho =>
    split at h
    · next hc => cases h; exact ⟨k, n, v, ho, hc, rfl⟩
    · cases h
  · cases h
theorem jb {α β : Type} {o : Option α} {g : α → Option β} {r : β} (h : o.bind g = some r) : ∃ a, o = some a ∧ g a = some r := Option.bind_eq_some_iff.mp h
theorem jt {β : Type} {p : Prop} {i : Decidable p} {a b : Option β} {r : β} (hc : p) (h : (@ite _ p i a b) = some r) : a = some r := by rw [if_pos hc] at h; exact h
theorem jf {β : Type} {p : Prop} {i : Decidable p} {a b : Option β} {r : β} (hc : ¬ p) (h : (@ite _ p i a b) = some r) : b = some r := by rw [if_neg hc] at h; exact h
/-! facts of the tables: a field (own: who reads; index: of its pool; ci, k: the field), a call -/
def jG (own : String) (index ci k : Nat) : Prop := ∃ (C : String) (T : u_T) (N : Nat), vwCl[ci]? = some (C, T, N) ∧ (∀ w ∈ u_ws C T N, w ∈ jTB) ∧ k < N ∧ (Cond.fieldLink own index (T k).1 (T k).2.1 (T k).2.2.1 ∈ jTB ∨ ∃ host, Cond.fieldLinkNest own index (T k).1 (T k).2.1 (T k).2.2.1 host ∈ jTB)
def jGp (own : String) (index ci k : Nat) (ty : FieldType) : Prop := ∃ (C : String) (T : u_T) (N : Nat) (ty0 : Nat → FieldType), vwCl[ci]? = some (C, T, N) ∧ (∀ w ∈ u_ws C T N, w ∈ jTB) ∧ k < N ∧ (Cond.fieldLink own index (T k).1 (T k).2.1 (T k).2.2.1 ∈ jTB ∨ ∃ host, Cond.fieldLinkNest own index (T k).1 (T k).2.1 (T k).2.2.1 host ∈ jTB) ∧ (∀ k, k < N → parseFieldDescriptor (T k).2.2.1 = some (ty0 k)) ∧ (∀ a, a < N → ∀ b, b < N → a ≠ b → (T a).2.1 ≠ (T b).2.1) ∧ (T k).2.2.2 = false ∧ parseFieldDescriptor (T k).2.2.1 = some ty
def jGf (own : String) (index ci k : Nat) (ty : FieldType) : Prop := ∃ (C : String) (T : u_T) (N : Nat) (ty0 : Nat → FieldType), vwCl[ci]? = some (C, T, N) ∧ (∀ w ∈ u_ws C T N, w ∈ jTB) ∧ k < N ∧ Cond.fieldLink own index (T k).1 (T k).2.1 (T k).2.2.1 ∈ jTB ∧ (∀ k, k < N → parseFieldDescriptor (T k).2.2.1 = some (ty0 k)) ∧ (∀ a, a < N → ∀ b, b < N → a ≠ b → (T a).2.1 ≠ (T b).2.1) ∧ (T k).2.2.2 = true ∧ (T k).1 = own ∧ parseFieldDescriptor (T k).2.2.1 = some ty
def jLw (y : MethodName) (bytes : ByteArray) (maxL : Nat) (ret : Option FieldType) (n : Nat) : Prop := Cond.code y bytes maxL ret ∈ jTB ∧ Cond.initialized y.cls ∈ jTB ∧ y.cls ≠ "java/lang/invoke/MethodHandle" ∧ y.cls ≠ "java/lang/invoke/VarHandle" ∧ (parseMethodDescriptor y.desc).map (fun d => d.parameters.length) = some n
def jLk (own : String) (index : Nat) (y : MethodName) : Prop := Cond.methodLink own index y ∈ jTB ∨ ∃ host, Cond.methodLinkNest own index y host ∈ jTB
section JL
variable {c : jS} {Q : State → Prop} {f : jM} {sz rc rs pc : Nat} {lv : List (Nat × Value)} {st : List Value} {cc : ByteArray} {nL : Nat} {own : String} {ret : Option FieldType} {fr lc : Nat}
theorem j_sub {lv' : List (Nat × Value)} (ks : List Nat) (h : lv_pick lv ks = lv') (k : J c Q f sz rc rs pc lv' st) : J c Q f sz rc rs pc lv st := fun H locs cells slots ls hw hc hs hl => k H locs cells slots ls hw hc hs (lv_sub hl ks h)
theorem j_less {rc' rs' : Nat} (h1 : rc' ≤ rc) (h2 : rs' ≤ rs) (k : J c Q f sz rc' rs' pc lv st) : J c Q f sz rc rs pc lv st := fun H locs cells slots ls hw hc hs hl => k H locs cells slots ls hw (by omega) (by omega) hl
theorem j_iconst (E : jOk c cc nL own ret fr lc) {n : Int} {v : Int32} (hd : decode cc pc = .ok (.iconst n, 1)) (hv : Int32.ofInt n = v) (k : J c Q f sz rc rs (pc + 1) lv (.int v :: st)) : J c Q f sz rc rs pc lv (st) := fun H locs cells slots ls hw hc hs hl => lv_iconst E.1 E.2.1 hd hv (k H locs cells slots ls hw hc hs hl)
theorem j_bipush (E : jOk c cc nL own ret fr lc) {n : Int} {v : Int32} (hd : decode cc pc = .ok (.bipush n, 2)) (hv : (Int8.ofInt n).toInt32 = v) (k : J c Q f sz rc rs (pc + 2) lv (.int v :: st)) : J c Q f sz rc rs pc lv (st) := fun H locs cells slots ls hw hc hs hl => lv_bipush E.1 E.2.1 hd hv (k H locs cells slots ls hw hc hs hl)
theorem j_sipush (E : jOk c cc nL own ret fr lc) {n : Int} {v : Int32} (hd : decode cc pc = .ok (.sipush n, 3)) (hv : (Int16.ofInt n).toInt32 = v) (k : J c Q f sz rc rs (pc + 3) lv (.int v :: st)) : J c Q f sz rc rs pc lv (st) := fun H locs cells slots ls hw hc hs hl => lv_sipush E.1 E.2.1 hd hv (k H locs cells slots ls hw hc hs hl)
theorem j_ldc (E : jOk c cc nL own ret fr lc) {index : Nat} {v : Int32} (hw0 : Jvm.Cond.constant own index v ∈ jTB) (hd : decode cc pc = .ok (.ldc index, 2)) (k : J c Q f sz rc rs (pc + 2) lv (.int v :: st)) : J c Q f sz rc rs pc lv (st) := fun H locs cells slots ls hw hc hs hl => lv_ldc E.1 E.2.1 E.own (E.K.use hw0) hd (k H locs cells slots ls hw hc hs hl)
theorem j_null (E : jOk c cc nL own ret fr lc) (hd : decode cc pc = .ok (.aconst_null, 1)) (k : J c Q f sz rc rs (pc + 1) lv (.null :: st)) : J c Q f sz rc rs pc lv (st) := fun H locs cells slots ls hw hc hs hl => lv_null E.1 E.2.1 hd (k H locs cells slots ls hw hc hs hl)
theorem j_iload_n (E : jOk c cc nL own ret fr lc) (n : Nat) {q : Fin 4} {i : Nat} {x : Int32} (hd : decode cc pc = .ok (.iload_n q, 1)) (hi : (q : Nat) = i) (hk : lv[n]? = some (i, .int x)) (k : J c Q f sz rc rs (pc + 1) lv (.int x :: st)) : J c Q f sz rc rs pc lv (st) := fun H locs cells slots ls hw hc hs hl => lv_iload_n E.1 E.2.1 hd hi (lv_at hl n hk) (k H locs cells slots ls hw hc hs hl)
theorem j_iload (E : jOk c cc nL own ret fr lc) (n : Nat) {i : Nat} {x : Int32} (hd : decode cc pc = .ok (.iload i, 2)) (hk : lv[n]? = some (i, .int x)) (k : J c Q f sz rc rs (pc + 2) lv (.int x :: st)) : J c Q f sz rc rs pc lv (st) := fun H locs cells slots ls hw hc hs hl => lv_iload E.1 E.2.1 hd (lv_at hl n hk) (k H locs cells slots ls hw hc hs hl)
theorem j_aload_n (E : jOk c cc nL own ret fr lc) (n : Nat) {q : Fin 4} {i x : Nat} (hd : decode cc pc = .ok (.aload_n q, 1)) (hi : (q : Nat) = i) (hk : lv[n]? = some (i, .ref x)) (k : J c Q f sz rc rs (pc + 1) lv (.ref x :: st)) : J c Q f sz rc rs pc lv (st) := fun H locs cells slots ls hw hc hs hl => lv_aload_n E.1 E.2.1 hd hi (lv_at hl n hk) (k H locs cells slots ls hw hc hs hl)
theorem j_aload (E : jOk c cc nL own ret fr lc) (n : Nat) {i x : Nat} (hd : decode cc pc = .ok (.aload i, 2)) (hk : lv[n]? = some (i, .ref x)) (k : J c Q f sz rc rs (pc + 2) lv (.ref x :: st)) : J c Q f sz rc rs pc lv (st) := fun H locs cells slots ls hw hc hs hl => lv_aload E.1 E.2.1 hd (lv_at hl n hk) (k H locs cells slots ls hw hc hs hl)
theorem j_iadd (E : jOk c cc nL own ret fr lc) {x y : Int32} (hd : decode cc pc = .ok (.iadd, 1)) (k : J c Q f sz rc rs (pc + 1) lv (.int (x + y) :: st)) : J c Q f sz rc rs pc lv (.int y :: .int x :: st) := fun H locs cells slots ls hw hc hs hl => lv_iadd E.1 E.2.1 hd (k H locs cells slots ls hw hc hs hl)
theorem j_isub (E : jOk c cc nL own ret fr lc) {x y : Int32} (hd : decode cc pc = .ok (.isub, 1)) (k : J c Q f sz rc rs (pc + 1) lv (.int (x - y) :: st)) : J c Q f sz rc rs pc lv (.int y :: .int x :: st) := fun H locs cells slots ls hw hc hs hl => lv_isub E.1 E.2.1 hd (k H locs cells slots ls hw hc hs hl)
theorem j_imul (E : jOk c cc nL own ret fr lc) {x y : Int32} (hd : decode cc pc = .ok (.imul, 1)) (k : J c Q f sz rc rs (pc + 1) lv (.int (x * y) :: st)) : J c Q f sz rc rs pc lv (.int y :: .int x :: st) := fun H locs cells slots ls hw hc hs hl => lv_imul E.1 E.2.1 hd (k H locs cells slots ls hw hc hs hl)
theorem j_iand (E : jOk c cc nL own ret fr lc) {x y : Int32} (hd : decode cc pc = .ok (.iand, 1)) (k : J c Q f sz rc rs (pc + 1) lv (.int (x &&& y) :: st)) : J c Q f sz rc rs pc lv (.int y :: .int x :: st) := fun H locs cells slots ls hw hc hs hl => lv_iand E.1 E.2.1 hd (k H locs cells slots ls hw hc hs hl)
theorem j_ior (E : jOk c cc nL own ret fr lc) {x y : Int32} (hd : decode cc pc = .ok (.ior, 1)) (k : J c Q f sz rc rs (pc + 1) lv (.int (x ||| y) :: st)) : J c Q f sz rc rs pc lv (.int y :: .int x :: st) := fun H locs cells slots ls hw hc hs hl => lv_ior E.1 E.2.1 hd (k H locs cells slots ls hw hc hs hl)
theorem j_ixor (E : jOk c cc nL own ret fr lc) {x y : Int32} (hd : decode cc pc = .ok (.ixor, 1)) (k : J c Q f sz rc rs (pc + 1) lv (.int (x ^^^ y) :: st)) : J c Q f sz rc rs pc lv (.int y :: .int x :: st) := fun H locs cells slots ls hw hc hs hl => lv_ixor E.1 E.2.1 hd (k H locs cells slots ls hw hc hs hl)
theorem j_idiv (E : jOk c cc nL own ret fr lc) {x y : Int32} (hd : decode cc pc = .ok (.idiv, 1)) (hne : ¬ y = 0) (k : J c Q f sz rc rs (pc + 1) lv (.int (x / y) :: st)) : J c Q f sz rc rs pc lv (.int y :: .int x :: st) := fun H locs cells slots ls hw hc hs hl => lv_idiv E.1 E.2.1 hd hne (k H locs cells slots ls hw hc hs hl)
theorem j_irem (E : jOk c cc nL own ret fr lc) {x y : Int32} (hd : decode cc pc = .ok (.irem, 1)) (hne : ¬ y = 0) (k : J c Q f sz rc rs (pc + 1) lv (.int (x - x / y * y) :: st)) : J c Q f sz rc rs pc lv (.int y :: .int x :: st) := fun H locs cells slots ls hw hc hs hl => lv_irem E.1 E.2.1 hd hne (k H locs cells slots ls hw hc hs hl)
theorem j_ineg (E : jOk c cc nL own ret fr lc) {x : Int32} (hd : decode cc pc = .ok (.ineg, 1)) (k : J c Q f sz rc rs (pc + 1) lv (.int (-x) :: st)) : J c Q f sz rc rs pc lv (.int x :: st) := fun H locs cells slots ls hw hc hs hl => lv_ineg E.1 E.2.1 hd (k H locs cells slots ls hw hc hs hl)
theorem j_dup (E : jOk c cc nL own ret fr lc) {v : Value} (hd : decode cc pc = .ok (.dup, 1)) (hv : v.category = 1) (k : J c Q f sz rc rs (pc + 1) lv (v :: v :: st)) : J c Q f sz rc rs pc lv (v :: st) := fun H locs cells slots ls hw hc hs hl => lv_dup E.1 E.2.1 hd hv (k H locs cells slots ls hw hc hs hl)
theorem j_pop (E : jOk c cc nL own ret fr lc) {v : Value} (hd : decode cc pc = .ok (.pop, 1)) (hv : v.category = 1) (k : J c Q f sz rc rs (pc + 1) lv (st)) : J c Q f sz rc rs pc lv (v :: st) := fun H locs cells slots ls hw hc hs hl => lv_pop E.1 E.2.1 hd hv (k H locs cells slots ls hw hc hs hl)
theorem j_dup_x1 (E : jOk c cc nL own ret fr lc) {v u : Value} (hd : decode cc pc = .ok (.dup_x1, 1)) (hv : v.category = 1) (hu : u.category = 1) (k : J c Q f sz rc rs (pc + 1) lv (v :: u :: v :: st)) : J c Q f sz rc rs pc lv (v :: u :: st) := fun H locs cells slots ls hw hc hs hl => lv_dup_x1 E.1 E.2.1 hd hv hu (k H locs cells slots ls hw hc hs hl)
theorem j_dup_x2 (E : jOk c cc nL own ret fr lc) {v u w : Value} (hd : decode cc pc = .ok (.dup_x2, 1)) (hv : v.category = 1) (hu : u.category = 1) (hw0 : w.category = 1) (k : J c Q f sz rc rs (pc + 1) lv (v :: u :: w :: v :: st)) : J c Q f sz rc rs pc lv (v :: u :: w :: st) := fun H locs cells slots ls hw hc hs hl => lv_dup_x2 E.1 E.2.1 hd hv hu hw0 (k H locs cells slots ls hw hc hs hl)
theorem j_dup2 (E : jOk c cc nL own ret fr lc) {v u : Value} (hd : decode cc pc = .ok (.dup2, 1)) (hv : v.category = 1) (hu : u.category = 1) (k : J c Q f sz rc rs (pc + 1) lv (v :: u :: v :: u :: st)) : J c Q f sz rc rs pc lv (v :: u :: st) := fun H locs cells slots ls hw hc hs hl => lv_dup2_11 E.1 E.2.1 hd hv hu (k H locs cells slots ls hw hc hs hl)
theorem j_goto (E : jOk c cc nL own ret fr lc) {off : Int} {tgt : Nat} (hd : decode cc pc = .ok (.goto off, 3)) (ht : (pc : Int) + off = (tgt : Int)) (k : J c Q f sz rc rs tgt lv st) : J c Q f sz rc rs pc lv st := fun H locs cells slots ls hw hc hs hl => lv_goto E.1 E.2.1 hd ht (k H locs cells slots ls hw hc hs hl)
theorem j_if_eq (E : jOk c cc nL own ret fr lc) {x : Int32} {off : Int} {tgt : Nat} (hd : decode cc pc = .ok (.ifCond .eq off, 3)) (ht : (pc : Int) + off = (tgt : Int)) (kt : x = 0 → J c Q f sz rc rs tgt lv st) (kf : ¬ x = 0 → J c Q f sz rc rs (pc + 3) lv st) : J c Q f sz rc rs pc lv (.int x :: st) := fun H locs cells slots ls hw hc hs hl => lv_if_eq E.1 E.2.1 hd ht (fun q => kt q H locs cells slots ls hw hc hs hl) (fun q => kf q H locs cells slots ls hw hc hs hl)
theorem j_if_ne (E : jOk c cc nL own ret fr lc) {x : Int32} {off : Int} {tgt : Nat} (hd : decode cc pc = .ok (.ifCond .ne off, 3)) (ht : (pc : Int) + off = (tgt : Int)) (kt : ¬ x = 0 → J c Q f sz rc rs tgt lv st) (kf : x = 0 → J c Q f sz rc rs (pc + 3) lv st) : J c Q f sz rc rs pc lv (.int x :: st) := fun H locs cells slots ls hw hc hs hl => lv_if_ne E.1 E.2.1 hd ht (fun q => kt q H locs cells slots ls hw hc hs hl) (fun q => kf q H locs cells slots ls hw hc hs hl)
theorem j_if_lt (E : jOk c cc nL own ret fr lc) {x : Int32} {off : Int} {tgt : Nat} (hd : decode cc pc = .ok (.ifCond .lt off, 3)) (ht : (pc : Int) + off = (tgt : Int)) (kt : x < 0 → J c Q f sz rc rs tgt lv st) (kf : ¬ x < 0 → J c Q f sz rc rs (pc + 3) lv st) : J c Q f sz rc rs pc lv (.int x :: st) := fun H locs cells slots ls hw hc hs hl => lv_if_lt E.1 E.2.1 hd ht (fun q => kt q H locs cells slots ls hw hc hs hl) (fun q => kf q H locs cells slots ls hw hc hs hl)
theorem j_if_ge (E : jOk c cc nL own ret fr lc) {x : Int32} {off : Int} {tgt : Nat} (hd : decode cc pc = .ok (.ifCond .ge off, 3)) (ht : (pc : Int) + off = (tgt : Int)) (kt : 0 ≤ x → J c Q f sz rc rs tgt lv st) (kf : ¬ 0 ≤ x → J c Q f sz rc rs (pc + 3) lv st) : J c Q f sz rc rs pc lv (.int x :: st) := fun H locs cells slots ls hw hc hs hl => lv_if_ge E.1 E.2.1 hd ht (fun q => kt q H locs cells slots ls hw hc hs hl) (fun q => kf q H locs cells slots ls hw hc hs hl)
theorem j_if_gt (E : jOk c cc nL own ret fr lc) {x : Int32} {off : Int} {tgt : Nat} (hd : decode cc pc = .ok (.ifCond .gt off, 3)) (ht : (pc : Int) + off = (tgt : Int)) (kt : 0 < x → J c Q f sz rc rs tgt lv st) (kf : ¬ 0 < x → J c Q f sz rc rs (pc + 3) lv st) : J c Q f sz rc rs pc lv (.int x :: st) := fun H locs cells slots ls hw hc hs hl => lv_if_gt E.1 E.2.1 hd ht (fun q => kt q H locs cells slots ls hw hc hs hl) (fun q => kf q H locs cells slots ls hw hc hs hl)
theorem j_if_le (E : jOk c cc nL own ret fr lc) {x : Int32} {off : Int} {tgt : Nat} (hd : decode cc pc = .ok (.ifCond .le off, 3)) (ht : (pc : Int) + off = (tgt : Int)) (kt : x ≤ 0 → J c Q f sz rc rs tgt lv st) (kf : ¬ x ≤ 0 → J c Q f sz rc rs (pc + 3) lv st) : J c Q f sz rc rs pc lv (.int x :: st) := fun H locs cells slots ls hw hc hs hl => lv_if_le E.1 E.2.1 hd ht (fun q => kt q H locs cells slots ls hw hc hs hl) (fun q => kf q H locs cells slots ls hw hc hs hl)
theorem j_icmp_eq (E : jOk c cc nL own ret fr lc) {x y : Int32} {off : Int} {tgt : Nat} (hd : decode cc pc = .ok (.if_icmp .eq off, 3)) (ht : (pc : Int) + off = (tgt : Int)) (kt : x = y → J c Q f sz rc rs tgt lv st) (kf : ¬ x = y → J c Q f sz rc rs (pc + 3) lv st) : J c Q f sz rc rs pc lv (.int y :: .int x :: st) := fun H locs cells slots ls hw hc hs hl => lv_icmp_eq E.1 E.2.1 hd ht (fun q => kt q H locs cells slots ls hw hc hs hl) (fun q => kf q H locs cells slots ls hw hc hs hl)
theorem j_icmp_ne (E : jOk c cc nL own ret fr lc) {x y : Int32} {off : Int} {tgt : Nat} (hd : decode cc pc = .ok (.if_icmp .ne off, 3)) (ht : (pc : Int) + off = (tgt : Int)) (kt : ¬ x = y → J c Q f sz rc rs tgt lv st) (kf : x = y → J c Q f sz rc rs (pc + 3) lv st) : J c Q f sz rc rs pc lv (.int y :: .int x :: st) := fun H locs cells slots ls hw hc hs hl => lv_icmp_ne E.1 E.2.1 hd ht (fun q => kt q H locs cells slots ls hw hc hs hl) (fun q => kf q H locs cells slots ls hw hc hs hl)
theorem j_icmp_lt (E : jOk c cc nL own ret fr lc) {x y : Int32} {off : Int} {tgt : Nat} (hd : decode cc pc = .ok (.if_icmp .lt off, 3)) (ht : (pc : Int) + off = (tgt : Int)) (kt : x < y → J c Q f sz rc rs tgt lv st) (kf : ¬ x < y → J c Q f sz rc rs (pc + 3) lv st) : J c Q f sz rc rs pc lv (.int y :: .int x :: st) := fun H locs cells slots ls hw hc hs hl => lv_icmp_lt E.1 E.2.1 hd ht (fun q => kt q H locs cells slots ls hw hc hs hl) (fun q => kf q H locs cells slots ls hw hc hs hl)
theorem j_icmp_ge (E : jOk c cc nL own ret fr lc) {x y : Int32} {off : Int} {tgt : Nat} (hd : decode cc pc = .ok (.if_icmp .ge off, 3)) (ht : (pc : Int) + off = (tgt : Int)) (kt : y ≤ x → J c Q f sz rc rs tgt lv st) (kf : ¬ y ≤ x → J c Q f sz rc rs (pc + 3) lv st) : J c Q f sz rc rs pc lv (.int y :: .int x :: st) := fun H locs cells slots ls hw hc hs hl => lv_icmp_ge E.1 E.2.1 hd ht (fun q => kt q H locs cells slots ls hw hc hs hl) (fun q => kf q H locs cells slots ls hw hc hs hl)
theorem j_icmp_gt (E : jOk c cc nL own ret fr lc) {x y : Int32} {off : Int} {tgt : Nat} (hd : decode cc pc = .ok (.if_icmp .gt off, 3)) (ht : (pc : Int) + off = (tgt : Int)) (kt : y < x → J c Q f sz rc rs tgt lv st) (kf : ¬ y < x → J c Q f sz rc rs (pc + 3) lv st) : J c Q f sz rc rs pc lv (.int y :: .int x :: st) := fun H locs cells slots ls hw hc hs hl => lv_icmp_gt E.1 E.2.1 hd ht (fun q => kt q H locs cells slots ls hw hc hs hl) (fun q => kf q H locs cells slots ls hw hc hs hl)
theorem j_icmp_le (E : jOk c cc nL own ret fr lc) {x y : Int32} {off : Int} {tgt : Nat} (hd : decode cc pc = .ok (.if_icmp .le off, 3)) (ht : (pc : Int) + off = (tgt : Int)) (kt : x ≤ y → J c Q f sz rc rs tgt lv st) (kf : ¬ x ≤ y → J c Q f sz rc rs (pc + 3) lv st) : J c Q f sz rc rs pc lv (.int y :: .int x :: st) := fun H locs cells slots ls hw hc hs hl => lv_icmp_le E.1 E.2.1 hd ht (fun q => kt q H locs cells slots ls hw hc hs hl) (fun q => kf q H locs cells slots ls hw hc hs hl)
theorem j_acmp_ne (E : jOk c cc nL own ret fr lc) {x y : Nat} {off : Int} {tgt : Nat} (hd : decode cc pc = .ok (.if_acmp .ne off, 3)) (ht : (pc : Int) + off = (tgt : Int)) (kt : ¬ x = y → J c Q f sz rc rs tgt lv st) (kf : x = y → J c Q f sz rc rs (pc + 3) lv st) : J c Q f sz rc rs pc lv (.ref y :: .ref x :: st) := fun H locs cells slots ls hw hc hs hl => lv_acmp_ne (rx := some x) (ry := some y) E.1 E.2.1 hd ht (fun q => kt (fun e => q (by rw [e])) H locs cells slots ls hw hc hs hl) (fun q => kf (Option.some.inj q) H locs cells slots ls hw hc hs hl)
theorem j_acmp_eq (E : jOk c cc nL own ret fr lc) {x y : Nat} {off : Int} {tgt : Nat} (hd : decode cc pc = .ok (.if_acmp .eq off, 3)) (ht : (pc : Int) + off = (tgt : Int)) (kt : x = y → J c Q f sz rc rs tgt lv st) (kf : ¬ x = y → J c Q f sz rc rs (pc + 3) lv st) : J c Q f sz rc rs pc lv (.ref y :: .ref x :: st) := fun H locs cells slots ls hw hc hs hl => lv_acmp_eq (rx := some x) (ry := some y) E.1 E.2.1 hd ht (fun q => kt (Option.some.inj q) H locs cells slots ls hw hc hs hl) (fun q => kf (fun e => q (by rw [e])) H locs cells slots ls hw hc hs hl)
theorem j_ifnonnull (E : jOk c cc nL own ret fr lc) {o : Option Nat} {off : Int} {tgt : Nat} (hd : decode cc pc = .ok (.ifnonnull off, 3)) (ht : (pc : Int) + off = (tgt : Int)) (kt : ∀ a, o = some a → J c Q f sz rc rs tgt lv st) (kf : o = none → J c Q f sz rc rs (pc + 3) lv st) : J c Q f sz rc rs pc lv (va_rf o :: st) := fun H locs cells slots ls hw hc hs hl => by
  cases o with
  | none => exact lv_ifnonnullN E.1 E.2.1 hd (kf rfl H locs cells slots ls hw hc hs hl)
  | some a => exact lv_ifnonnull E.1 E.2.1 hd ht (kt a rfl H locs cells slots ls hw hc hs hl)
theorem j_ifnull (E : jOk c cc nL own ret fr lc) {o : Option Nat} {off : Int} {tgt : Nat} (hd : decode cc pc = .ok (.ifnull off, 3)) (ht : (pc : Int) + off = (tgt : Int)) (kt : o = none → J c Q f sz rc rs tgt lv st) (kf : ∀ a, o = some a → J c Q f sz rc rs (pc + 3) lv st) : J c Q f sz rc rs pc lv (va_rf o :: st) := fun H locs cells slots ls hw hc hs hl => by
  cases o with
  | none => exact lv_ifnullN E.1 E.2.1 hd ht (kt rfl H locs cells slots ls hw hc hs hl)
  | some a => exact lv_ifnull E.1 E.2.1 hd (kf a rfl H locs cells slots ls hw hc hs hl)
theorem j_istore_n (E : jOk c cc nL own ret fr lc) {q : Fin 4} {i : Nat} {x : Int32} {lv' : List (Nat × Value)} (hd : decode cc pc = .ok (.istore_n q, 1)) (hi : (q : Nat) = i) (hn : i < nL) (hl' : (i, Value.int x) :: lv.filter (fun q => !(q.1 == i) && !(q.1 + 1 == i && q.2.category == 2)) = lv') (k : J c Q f sz rc rs (pc + 1) lv' st) : J c Q f sz rc rs pc lv (.int x :: st) := fun H locs cells slots ls hw hc hs hl => lv_istore_n E.1 E.2.1 hd hi hl (by rw [E.2.2.1.2]; exact hn) hl' (fun ls' hl2 => k H locs cells slots ls' hw hc hs hl2)
theorem j_astore_n (E : jOk c cc nL own ret fr lc) {q : Fin 4} {i : Nat} {x : Nat} {lv' : List (Nat × Value)} (hd : decode cc pc = .ok (.astore_n q, 1)) (hi : (q : Nat) = i) (hn : i < nL) (hl' : (i, Value.ref x) :: lv.filter (fun q => !(q.1 == i) && !(q.1 + 1 == i && q.2.category == 2)) = lv') (k : J c Q f sz rc rs (pc + 1) lv' st) : J c Q f sz rc rs pc lv (.ref x :: st) := fun H locs cells slots ls hw hc hs hl => lv_astore_n E.1 E.2.1 hd hi hl (by rw [E.2.2.1.2]; exact hn) hl' (fun ls' hl2 => k H locs cells slots ls' hw hc hs hl2)
theorem j_istore (E : jOk c cc nL own ret fr lc) {i : Nat} {x : Int32} {lv' : List (Nat × Value)} (hd : decode cc pc = .ok (.istore i, 2)) (hn : i < nL) (hl' : (i, Value.int x) :: lv.filter (fun q => !(q.1 == i) && !(q.1 + 1 == i && q.2.category == 2)) = lv') (k : J c Q f sz rc rs (pc + 2) lv' st) : J c Q f sz rc rs pc lv (.int x :: st) := fun H locs cells slots ls hw hc hs hl => lv_istore E.1 E.2.1 hd hl (by rw [E.2.2.1.2]; exact hn) hl' (fun ls' hl2 => k H locs cells slots ls' hw hc hs hl2)
theorem j_astore (E : jOk c cc nL own ret fr lc) {i : Nat} {x : Nat} {lv' : List (Nat × Value)} (hd : decode cc pc = .ok (.astore i, 2)) (hn : i < nL) (hl' : (i, Value.ref x) :: lv.filter (fun q => !(q.1 == i) && !(q.1 + 1 == i && q.2.category == 2)) = lv') (k : J c Q f sz rc rs (pc + 2) lv' st) : J c Q f sz rc rs pc lv (.ref x :: st) := fun H locs cells slots ls hw hc hs hl => lv_astore E.1 E.2.1 hd hl (by rw [E.2.2.1.2]; exact hn) hl' (fun ls' hl2 => k H locs cells slots ls' hw hc hs hl2)
theorem j_astore_nQ (E : jOk c cc nL own ret fr lc) {q : Fin 4} {i : Nat} {o : Option Nat} {lv' : List (Nat × Value)} (hd : decode cc pc = .ok (.astore_n q, 1)) (hi : (q : Nat) = i) (hn : i < nL) (hl' : (i, va_rf o) :: lv.filter (fun q => !(q.1 == i) && !(q.1 + 1 == i && q.2.category == 2)) = lv') (k : J c Q f sz rc rs (pc + 1) lv' st) : J c Q f sz rc rs pc lv (va_rf o :: st) := fun H locs cells slots ls hw hc hs hl => by
  cases o with
  | none => exact lv_astore_nN E.1 E.2.1 hd hi hl (by rw [E.2.2.1.2]; exact hn) hl' (fun ls' hl2 => k H locs cells slots ls' hw hc hs hl2)
  | some a => exact lv_astore_n E.1 E.2.1 hd hi hl (by rw [E.2.2.1.2]; exact hn) hl' (fun ls' hl2 => k H locs cells slots ls' hw hc hs hl2)
theorem j_astoreQ (E : jOk c cc nL own ret fr lc) {i : Nat} {o : Option Nat} {lv' : List (Nat × Value)} (hd : decode cc pc = .ok (.astore i, 2)) (hn : i < nL) (hl' : (i, va_rf o) :: lv.filter (fun q => !(q.1 == i) && !(q.1 + 1 == i && q.2.category == 2)) = lv') (k : J c Q f sz rc rs (pc + 2) lv' st) : J c Q f sz rc rs pc lv (va_rf o :: st) := fun H locs cells slots ls hw hc hs hl => by
  cases o with
  | none => exact lv_astoreN E.1 E.2.1 hd hl (by rw [E.2.2.1.2]; exact hn) hl' (fun ls' hl2 => k H locs cells slots ls' hw hc hs hl2)
  | some a => exact lv_astore E.1 E.2.1 hd hl (by rw [E.2.2.1.2]; exact hn) hl' (fun ls' hl2 => k H locs cells slots ls' hw hc hs hl2)
theorem j_aload_nQ (E : jOk c cc nL own ret fr lc) (n : Nat) {q : Fin 4} {i : Nat} {o : Option Nat} (hd : decode cc pc = .ok (.aload_n q, 1)) (hi : (q : Nat) = i) (hk : lv[n]? = some (i, va_rf o)) (k : J c Q f sz rc rs (pc + 1) lv (va_rf o :: st)) : J c Q f sz rc rs pc lv st := fun H locs cells slots ls hw hc hs hl => by
  cases o with
  | none => exact lv_aload_nN E.1 E.2.1 hd hi (lv_at hl n hk) (k H locs cells slots ls hw hc hs hl)
  | some a => exact lv_aload_n E.1 E.2.1 hd hi (lv_at hl n hk) (k H locs cells slots ls hw hc hs hl)
theorem j_aloadQ (E : jOk c cc nL own ret fr lc) (n : Nat) {i : Nat} {o : Option Nat} (hd : decode cc pc = .ok (.aload i, 2)) (hk : lv[n]? = some (i, va_rf o)) (k : J c Q f sz rc rs (pc + 2) lv (va_rf o :: st)) : J c Q f sz rc rs pc lv st := fun H locs cells slots ls hw hc hs hl => by
  cases o with
  | none => exact lv_aloadN E.1 E.2.1 hd (lv_at hl n hk) (k H locs cells slots ls hw hc hs hl)
  | some a => exact lv_aload E.1 E.2.1 hd (lv_at hl n hk) (k H locs cells slots ls hw hc hs hl)
theorem j_iinc (E : jOk c cc nL own ret fr lc) (m : Nat) {i : Nat} {n : Int} {x v : Int32} {lv' : List (Nat × Value)} (hd : decode cc pc = .ok (.iinc i n, 3)) (hk : lv[m]? = some (i, .int x)) (hv : x + Int32.ofInt n = v) (hn : i < nL) (hl' : (i, Value.int v) :: lv.filter (fun q => !(q.1 == i) && !(q.1 + 1 == i && q.2.category == 2)) = lv') (k : J c Q f sz rc rs (pc + 3) lv' st) : J c Q f sz rc rs pc lv st := fun H locs cells slots ls hw hc hs hl => lv_iinc E.1 E.2.1 hd hl hk hv (by rw [E.2.2.1.2]; exact hn) hl' (fun ls' hl2 => k H locs cells slots ls' hw hc hs hl2)
theorem j_tableIn (E : jOk c cc nL own ret fr lc) {dflt lo hi : Int} {offs : Array Int} {len : Nat} {x : Int32} {off : Int} {tgt : Nat} (hd : decode cc pc = .ok (.tableswitch dflt lo hi offs, len)) (h1 : ¬ x.toInt < lo) (h2 : ¬ hi < x.toInt) (ho : offs[(x.toInt - lo).toNat]? = some off) (ht : (pc : Int) + off = (tgt : Int)) (k : J c Q f sz rc rs tgt lv st) : J c Q f sz rc rs pc lv (.int x :: st) := fun H locs cells slots ls hw hc hs hl => lv_tableIn E.1 E.2.1 hd h1 h2 ho ht (k H locs cells slots ls hw hc hs hl)
theorem j_tableOut (E : jOk c cc nL own ret fr lc) {dflt lo hi : Int} {offs : Array Int} {len : Nat} {x : Int32} {tgt : Nat} (hd : decode cc pc = .ok (.tableswitch dflt lo hi offs, len)) (h : x.toInt < lo ∨ hi < x.toInt) (ht : (pc : Int) + dflt = (tgt : Int)) (k : J c Q f sz rc rs tgt lv st) : J c Q f sz rc rs pc lv (.int x :: st) := fun H locs cells slots ls hw hc hs hl => lv_tableOut E.1 E.2.1 hd h ht (k H locs cells slots ls hw hc hs hl)
theorem j_getV (E : jOk c cc nL own ret fr lc) {index ci k a : Nat} {fs : List Value} {v : Value} (g : jG own index ci k) (hf : f a = some (.inr (ci, fs))) (hv : fs[k]? = some v) (hd : decode cc pc = .ok (.getfield index, 3)) (K : J c Q f sz rc rs (pc + 3) lv (v :: st)) : J c Q f sz rc rs pc lv (.ref a :: st) := by
  intro H locs cells slots ls hw hc hs hl
  obtain ⟨C, T, N, hcl, hin, hk, hlink⟩ := g
  have hP : va_P (j_D c).1 vwCl [(a, .inr (ci, fs))] H := by
    intro q x hx
    have hz : q < 1 := (List.getElem?_eq_some_iff.mp hx).1
    rw [show q = 0 by omega] at hx
    cases hx
    exact hw.1 a _ hf
  have hts : ∀ w ∈ jTB, w.before (j_a c) (j_s c) = true := fun w h => E.K.use h
  rcases hlink with hlink | ⟨host, hlink⟩
  · exact va_get E.1 E.2.1 hts hin E.own E.K.1 hP 0 rfl hcl k hk (E.K.use hlink) (fun _ h => h) hv hd (K H locs cells slots ls hw hc hs hl)
  · exact va_getN E.1 E.2.1 hts hin E.own E.K.1 hP 0 rfl hcl k hk (E.K.use hlink) (fun _ h => h) hv hd (K H locs cells slots ls hw hc hs hl)
theorem j_getI (E : jOk c cc nL own ret fr lc) {index ci k a : Nat} {x : Int32} (g : jG own index ci k) (h : rdI ci f a k = some x) (hd : decode cc pc = .ok (.getfield index, 3)) (K : J c Q f sz rc rs (pc + 3) lv (.int x :: st)) : J c Q f sz rc rs pc lv (.ref a :: st) := by
  obtain ⟨fs, h1, h2⟩ := rdI_spec h
  exact j_getV E g h1 h2 hd K
theorem j_getR (E : jOk c cc nL own ret fr lc) {index ci k a x : Nat} (g : jG own index ci k) (h : rdR ci f a k = some x) (hd : decode cc pc = .ok (.getfield index, 3)) (K : J c Q f sz rc rs (pc + 3) lv (.ref x :: st)) : J c Q f sz rc rs pc lv (.ref a :: st) := by
  obtain ⟨fs, h1, h2⟩ := rdR_spec h
  exact j_getV E g h1 h2 hd K
theorem j_putV (E : jOk c cc nL own ret fr lc) {index ci k a : Nat} {f' : jM} {v : Value} {ty : FieldType} (g : jGp own index ci k ty) (h : wrV ci f a k v = some f') (hn : narrow ty v = v) (hfit : fits ty v = true) (hd : decode cc pc = .ok (.putfield index, 3)) (K : J c Q f' sz rc rs (pc + 3) lv st) : J c Q f sz rc rs pc lv (v :: .ref a :: st) := by
  intro H locs cells slots ls hw hc hs hl
  obtain ⟨fs, h1, h2, rfl⟩ := wrV_spec h
  obtain ⟨C, T, N, ty0, hcl, hin, hk, hlink, hty, hnm, hfin, hpd⟩ := g
  have hts : ∀ w ∈ jTB, w.before (j_a c) (j_s c) = true := fun w h => E.K.use h
  have hap := va_apart (own := own) hts hin ty0 hty hnm E.K.1 hcl
  obtain ⟨r, hr1, cell, q1, q2, q3, q4⟩ := hw.1 a _ h1
  have hr : r = (C, T, N) := Option.some.inj (hr1.symm.trans hcl)
  subst hr
  obtain ⟨hS, hfc, kC, hkC, hkind⟩ := E.K.1.1 ci _ hcl
  obtain ⟨cf, kf, fi, fd, hi, hsl⟩ := hS k hk
  have hlay := hts _ (hin _ (u_in_lay hk))
  unfold u_lay at hlay
  rw [if_neg (by rw [hfin]; decide)] at hlay
  have hst := (u_facts hfc hkC (u_lays hts hin hk) hi).1
  have h6 := u_store hfc hkC hkind hlay hi hpd hn hfit
  have fin : ∀ H' : Heap, H'[a]? = some (cell.setSlot fd.slot v) → H'.size = H.size → (∀ q, q ≠ a → H'[q]? = H[q]?) → jW c H' (locs ++ [⟨a, fd.slot⟩]) cells slots Q (F0 (j_m c) (pc + 3) ls st) := by
    intro H' e1 e2 e3
    rw [hsl] at e1
    refine K H' _ cells slots ls (jwd_up hw (by rw [h1]; exact fun q => by cases q) ?_ e2 e3) hc hs hl
    exact ⟨_, hcl, t_OB.to (V := updV (vp_V fs) k v) ⟨_, e1, q2, q3, t_set q4 hap hk v⟩ (fun j _ => vp_updV_set h2 v j)⟩
  rcases hlink with hlink | ⟨host, hlink⟩
  · exact W.putK E.1 E.2.1 (f := fd) ⟨E.own, E.K.use hlink, ⟨_, _, _, hi⟩, hst⟩ (by rw [q2]; exact h6) q1 q3 (by rw [hsl]; exact k2_hasslot (q4 k hk)) rfl rfl hd fin
  · exact va_WputK E.1 E.2.1 (f := fd) E.own (E.K.use hlink) hi hst (by rw [q2]; exact h6) q1 q3 (by rw [hsl]; exact k2_hasslot (q4 k hk)) rfl rfl hd fin
theorem j_putF (E : jOk c cc nL own ret fr lc) (hin2 : (j_h c).name = "<init>") {index ci k a : Nat} {f' : jM} {v : Value} {ty : FieldType} (g : jGf own index ci k ty) (h : wrV ci f a k v = some f') (hn : narrow ty v = v) (hfit : fits ty v = true) (hd : decode cc pc = .ok (.putfield index, 3)) (K : J c Q f' sz rc rs (pc + 3) lv st) : J c Q f sz rc rs pc lv (v :: .ref a :: st) := by
  intro H locs cells slots ls hw hc hs hl
  obtain ⟨fs, h1, h2, rfl⟩ := wrV_spec h
  obtain ⟨C, T, N, ty0, hcl, hin, hk, hlink, hty, hnm, hfin, hdecl, hpd⟩ := g
  have hts : ∀ w ∈ jTB, w.before (j_a c) (j_s c) = true := fun w h => E.K.use h
  have hap := va_apart (own := own) hts hin ty0 hty hnm E.K.1 hcl
  obtain ⟨r, hr1, cell, q1, q2, q3, q4⟩ := hw.1 a _ h1
  have hr : r = (C, T, N) := Option.some.inj (hr1.symm.trans hcl)
  subst hr
  obtain ⟨hS, hfc, kC, hkC, hkind⟩ := E.K.1.1 ci _ hcl
  obtain ⟨cf, kf, fi, fd, hi, hsl⟩ := hS k hk
  have hlay := hts _ (hin _ (u_in_lay hk))
  unfold u_lay at hlay
  rw [if_pos hfin] at hlay
  have hst := (u_facts hfc hkC (u_lays hts hin hk) hi).1
  have hcf : (j_m c).cls = cf := by
    obtain ⟨_, _, c', _, _, _, -, -, hf', -, -, -, hown2, -⟩ := Cond.laysFinal_spec hlay
    have e1 : c' = cf := by have := hi.symm.trans hf'; simp at this; exact this.1.symm
    rw [hdecl] at hown2
    rw [← e1]; exact Option.some.inj (E.own.symm.trans hown2)
  have h6 := u_fits hfc hkC hkind (Or.inr hlay) hi hpd hn hfit
  refine W.putFinK E.1 E.2.1 E.own (E.K.use hlink) hi hst hcf hin2 (by rw [q2]; exact h6) q1 q3 (by rw [hsl]; exact k2_hasslot (q4 k hk)) rfl rfl hd fun H' e1 e2 e3 => ?_
  rw [hsl] at e1
  refine K H' _ cells slots ls (jwd_up hw (by rw [h1]; exact fun q => by cases q) ?_ e2 e3) hc hs hl
  exact ⟨_, hcl, t_OB.to (V := updV (vp_V fs) k v) ⟨_, e1, q2, q3, t_set q4 hap hk v⟩ (fun j _ => vp_updV_set h2 v j)⟩
theorem j_iald (E : jOk c cc nL own ret fr lc) {a : Nat} {i x : Int32} (h : ldI 0 f a i = some x) (hd : decode cc pc = .ok (.iaload, 1)) (K : J c Q f sz rc rs (pc + 1) lv (.int x :: st)) : J c Q f sz rc rs pc lv (.int i :: .ref a :: st) := by
  intro H locs cells slots ls hw hc hs hl
  obtain ⟨n, g, h1, hin, rfl⟩ := ldI_spec h
  have hlt : i.toNatClampNeg < n := Nat.not_le.mp fun q => hin (Or.inr q)
  exact W.iald (v := .int (g i.toNatClampNeg)) E.1 E.2.1 (hw.1 a _ h1) ((E.K.2.1 0 _ rfl).1 n (fun j => .int (g j))) (fun q => by cases q) (by show ¬ (i < 0 ∨ (arrV _ _ _).slots.size ≤ _); rw [arrV_size]; exact hin) (by show (arrV _ _ _).slots[_]? = _; rw [arrV_read _ _ hlt]) rfl rfl hd (K H locs cells slots ls hw hc hs hl)
theorem j_zald (E : jOk c cc nL own ret fr lc) {a : Nat} {i x : Int32} (h : ldI 1 f a i = some x) (hd : decode cc pc = .ok (.baload, 1)) (K : J c Q f sz rc rs (pc + 1) lv (.int x :: st)) : J c Q f sz rc rs pc lv (.int i :: .ref a :: st) := by
  intro H locs cells slots ls hw hc hs hl
  obtain ⟨n, g, h1, hin, rfl⟩ := ldI_spec h
  have hlt : i.toNatClampNeg < n := Nat.not_le.mp fun q => hin (Or.inr q)
  exact W.zald (v := .int (g i.toNatClampNeg)) E.1 E.2.1 (hw.1 a _ h1) ((E.K.2.1 1 _ rfl).1 n (fun j => .int (g j))) (fun q => by cases q) (by show ¬ (i < 0 ∨ (arrV _ _ _).slots.size ≤ _); rw [arrV_size]; exact hin) (by show (arrV _ _ _).slots[_]? = _; rw [arrV_read _ _ hlt]) rfl rfl hd (K H locs cells slots ls hw hc hs hl)
theorem j_updV (g : Nat → Int32) (k : Nat) (x : Int32) : updV (fun j => .int (g j)) k (.int x) = fun j => .int (upd g k x j) := by
  funext q
  by_cases hq : q = k
  · simp [updV, upd, hq]
  · simp [updV, upd, hq]
theorem j_iast (E : jOk c cc nL own ret fr lc) {a : Nat} {i x : Int32} {f' : jM} (h : stI 0 f a i x = some f') (hd : decode cc pc = .ok (.iastore, 1)) (K : J c Q f' sz rc rs (pc + 1) lv st) : J c Q f sz rc rs pc lv (.int x :: .int i :: .ref a :: st) := by
  intro H locs cells slots ls hw hc hs hl
  obtain ⟨n, g, h1, hin, rfl⟩ := stI_spec h
  refine W.iast E.1 E.2.1 (hw.1 a _ h1) ((E.K.2.1 0 _ rfl).1 n (fun j => .int (g j))) (fun q => by cases q) (by show ¬ (i < 0 ∨ (arrV _ _ _).slots.size ≤ _); rw [arrV_size]; exact hin) rfl rfl hd fun H1 e z oq => ?_
  refine K H1 _ cells slots ls (jwd_up hw (by rw [h1]; exact fun q => by cases q) ?_ z oq) hc hs hl
  show H1[a]? = some (vp_cell _ _)
  rw [e]
  show some (Cell.setSlot (vp_cell _ _) _ _) = _
  rw [vp_cell_i, vp_cell_i, arrV_store, j_updV]
theorem j_zast (E : jOk c cc nL own ret fr lc) {a : Nat} {i x : Int32} {f' : jM} (h : stI 1 f a i (vp_nar .boolean x) = some f') (hd : decode cc pc = .ok (.bastore, 1)) (K : J c Q f' sz rc rs (pc + 1) lv st) : J c Q f sz rc rs pc lv (.int x :: .int i :: .ref a :: st) := by
  intro H locs cells slots ls hw hc hs hl
  obtain ⟨n, g, h1, hin, rfl⟩ := stI_spec h
  refine W.zast E.1 E.2.1 (hw.1 a _ h1) ((E.K.2.1 1 _ rfl).1 n (fun j => .int (g j))) (fun q => by cases q) (by show ¬ (i < 0 ∨ (arrV _ _ _).slots.size ≤ _); rw [arrV_size]; exact hin) rfl rfl hd fun H1 e z oq => ?_
  refine K H1 _ cells slots ls (jwd_up hw (by rw [h1]; exact fun q => by cases q) ?_ z oq) hc hs hl
  show H1[a]? = some (vp_cell _ _)
  rw [e]
  show some (Cell.setSlot (vp_cell _ _) _ (.int (vp_nar .boolean x))) = _
  rw [vp_cell_i, vp_cell_i, arrV_store, j_updV]
theorem j_aald (E : jOk c cc nL own ret fr lc) {kd a x : Nat} {C : String} {i : Int32} (hk : jTy[kd]? = some (.object C)) (h : ldR kd f a i = some x) (hd : decode cc pc = .ok (.aaload, 1)) (K : J c Q f sz rc rs (pc + 1) lv (.ref x :: st)) : J c Q f sz rc rs pc lv (.int i :: .ref a :: st) := by
  intro H locs cells slots ls hw hc hs hl
  obtain ⟨n, g, h1, hin, hx⟩ := ldR_spec h
  have hlt : i.toNatClampNeg < n := Nat.not_le.mp fun q => hin (Or.inr q)
  exact W.aald (v := .ref x) (ty := .object C) E.1 E.2.1 (hw.1 a _ h1) ((E.K.2.1 kd _ hk).1 n (fun j => va_rf (g j))) rfl (fun q => by cases q) (by show ¬ (i < 0 ∨ (arrV _ _ _).slots.size ≤ _); rw [arrV_size]; exact hin) (by show (arrV _ _ _).slots[_]? = _; rw [arrV_read _ _ hlt, hx]; rfl) rfl rfl hd (K H locs cells slots ls hw hc hs hl)
theorem j_aast (E : jOk c cc nL own ret fr lc) {kd ci a b : Nat} {r : vw_C} {i : Int32} {f' : jM} (hci : vwCl[ci]? = some r) (hk : jTy[kd]? = some (.object r.1)) (h : stR kd ci f a i b = some f') (hd : decode cc pc = .ok (.aastore, 1)) (K : J c Q f' sz rc rs (pc + 1) lv st) : J c Q f sz rc rs pc lv (.ref b :: .int i :: .ref a :: st) := by
  intro H locs cells slots ls hw hc hs hl
  obtain ⟨n, g, fs, h1, hin, h2, rfl⟩ := stR_spec h
  have hlt : i.toNatClampNeg < n := Nat.not_le.mp fun q => hin (Or.inr q)
  have h0 : ¬ i < 0 := fun q => hin (Or.inl q)
  obtain ⟨r', hr', cellV, g1, g2, g3, -⟩ := hw.1 b _ h2
  have hcls := (E.K.1.1 ci r hci).2
  obtain ⟨kA, comp, k1, k2, k3, -⟩ := (E.K.2.1 kd _ hk).2
  have hcomp : comp = (j_D c).1.1 ci := Option.some.inj (k3.symm.trans hcls.1)
  subst hcomp
  obtain ⟨kC, hkC, -⟩ := hcls.2
  refine W.aast E.1 E.2.1 (hw.1 a _ h1) (fun q h => by cases h) (fun h => by cases h) k1 k2 rfl hkC ⟨h0, by show _ < (arrV _ _ _).slots.size; rw [arrV_size]; exact hlt⟩ g1 (fun q h => by rw [g3] at h; cases h) (by rw [g2]; exact hkC) (by rw [g2]; exact va_assign hcls) rfl rfl hd fun H1 e z oq => ?_
  refine K H1 _ cells slots ls (jwd_up hw (by rw [h1]; exact fun q => by cases q) ?_ z oq) hc hs hl
  show H1[a]? = some (vp_cell _ _)
  rw [e]
  show some (Cell.setSlot (vp_cell _ _) _ _) = _
  rw [vp_cell_q, vp_cell_q, arrV_store]
  congr 2
  funext q
  by_cases hq : q = i.toNatClampNeg
  · subst hq
    simp [updV, va_up, va_rf]
  · simp [updV, va_up, hq]
theorem j_alen (E : jOk c cc nL own ret fr lc) {a : Nat} {x : Int32} (h : alen f a = some x) (hd : decode cc pc = .ok (.arraylength, 1)) (K : J c Q f sz rc rs (pc + 1) lv (.int x :: st)) : J c Q f sz rc rs pc lv (.ref a :: st) := by
  intro H locs cells slots ls hw hc hs hl
  obtain ⟨k, n, v, h1, hk, rfl⟩ := alen_spec h
  have hty : ∃ ty, jTy[k]? = some ty := by
    rcases (show k = 0 ∨ k = 1 ∨ k = 2 ∨ k = 3 by omega) with rfl | rfl | rfl | rfl <;> exact ⟨_, rfl⟩
  obtain ⟨ty, hty⟩ := hty
  have hat := hw.1 a _ h1
  have KK := K H locs cells slots ls hw hc hs hl
  rcases v with g | g | g | g | g
  · exact W.alen (n := Int32.ofNat n) E.1 E.2.1 hat ((E.K.2.1 k _ hty).1 n (fun j => .int (g j))) (by rw [vp_cell_i, arrV_size] <;> rfl) rfl rfl hd KK
  · exact W.alen (n := Int32.ofNat n) E.1 E.2.1 hat ((E.K.2.1 k _ hty).1 n (fun j => .long (g j))) (by rw [vp_cell_l, arrV_size] <;> rfl) rfl rfl hd KK
  · exact W.alen (n := Int32.ofNat n) E.1 E.2.1 hat ((E.K.2.1 k _ hty).1 n (fun j => .float (g j))) (by rw [vp_cell_f, arrV_size] <;> rfl) rfl rfl hd KK
  · exact W.alen (n := Int32.ofNat n) E.1 E.2.1 hat ((E.K.2.1 k _ hty).1 n (fun j => .double (g j))) (by rw [vp_cell_d, arrV_size] <;> rfl) rfl rfl hd KK
  · exact W.alen (n := Int32.ofNat n) E.1 E.2.1 hat ((E.K.2.1 k _ hty).1 n (fun j => va_rf (g j))) (by rw [vp_cell_q, arrV_size] <;> rfl) rfl rfl hd KK
theorem j_new (E : jOk c cc nL own ret fr lc) {index ci N : Nat} {C : String} {T : u_T} {fs : List Value} (ty : Nat → FieldType) (hcl : vwCl[ci]? = some (C, T, N)) (hin : ∀ w ∈ u_ws C T N, w ∈ jTB) (hty : ∀ k, k < N → parseFieldDescriptor (T k).2.2.1 = some (ty k)) (hlk : Cond.classLink own index C ∈ jTB) (hins : Cond.instantiable C N ∈ jTB) (hini : Cond.initialized C ∈ jTB) (hfs : ∀ j, j < N → defaultValue (ty j) = vp_V fs j) (hd : decode cc pc = .ok (.new index, 3)) (K : J c Q (va_up f sz (some (.inr (ci, fs)))) (sz + 1) rc rs (pc + 3) lv (.ref sz :: st)) : J c Q f sz (1 + rc) (N + rs) pc lv st := by
  intro H locs cells slots ls hw hc hs hl
  have hKn := E.K.1.1 ci _ hcl
  have hts : ∀ w ∈ jTB, w.before (j_a c) (j_s c) = true := fun w h => E.K.use h
  have hr := E.2.2.2.2.2.2.1
  refine W.newcK E.1 E.2.1 E.own (E.K.use hlk) (E.K.use hins) (E.K.use hini) rfl hd (by omega) (by omega) hKn.2.1 hw.2.1 fun H1 kC hkC e1 z1 o1 => ?_
  have hz := hw.2.1
  refine K H1 locs (cells + 1) (slots + N) ls (jwd_new hw E.2.2.2.2.2.1 ?_ (by omega) (fun q hq => o1 q (by omega))) (by omega) (by omega) hl
  rw [hz]
  exact ⟨_, hcl, (u_born ty hts hin hKn hkC e1 hty).to hfs⟩
theorem j_newa (E : jOk c cc nL own ret fr lc) {kd N : Nat} {at0 : ArrayType} {n : Int32} (hk : jTy[kd]? = some (newarray.typeOf at0)) (hac : Cond.arrayClass (newarray.typeOf at0) ∈ jAC) (hdv : defaultValue (newarray.typeOf at0) = .int 0) (hnr : ∀ C, newarray.typeOf at0 ≠ .object C) (hn : ¬ n < 0) (hN : n.toNatClampNeg = N) (hbytes : N * componentBytes (newarray.typeOf at0) ≤ 536870912) (hd : decode cc pc = .ok (.newarray at0, 2)) (K : J c Q (va_up f sz (some (.inl (kd, N, .inl (fun _ => 0))))) (sz + 1) rc rs (pc + 2) lv (.ref sz :: st)) : J c Q f sz (1 + rc) (N + rs) pc lv (.int n :: st) := by
  intro H locs cells slots ls hw hc hs hl
  have hr := E.2.2.2.2.2.2.1
  have hz := hw.2.1
  refine va_newaK E.1 E.2.1 (E.2.2.2.2.2.2.2.2.2 _ hac) rfl hd rfl hn hN hbytes (by omega) (by omega) hz fun H1 cA e1 z1 o1 hAr hNm => ?_
  have hcA : (j_D c).2 kd = cA := by
    have h9 := (E.K.2.1 kd _ hk).2
    have h10 : (j_s c).vm.findClass ("[" ++ (newarray.typeOf at0).toString) = some ((j_D c).2 kd) := by
      cases at0 <;> exact h9
    exact Option.some.inj (h10.symm.trans hNm)
  refine K H1 locs (cells + 1) (slots + N) ls (jwd_new hw E.2.2.2.2.2.1 ?_ (by omega) (fun q hq => o1 q (by omega))) (by omega) (by omega) hl
  rw [hz]
  show H1[sz]? = some (vp_cell _ _)
  rw [e1, hdv, vp_cell_i, hcA]
theorem j_anew (E : jOk c cc nL own ret fr lc) {kd index N : Nat} {C : String} {n : Int32} (hk : jTy[kd]? = some (.object C)) (hao : C ∈ jAO) (hlk : Cond.classLink own index C ∈ jTB) (hn : ¬ n < 0) (hN : n.toNatClampNeg = N) (hbytes : N * 4 ≤ 536870912) (hd : decode cc pc = .ok (.anewarray index, 3)) (K : J c Q (va_up f sz (some (.inl (kd, N, .inr (.inr (.inr (.inr (fun _ => none)))))))) (sz + 1) rc rs (pc + 3) lv (.ref sz :: st)) : J c Q f sz (1 + rc) (N + rs) pc lv (.int n :: st) := by
  intro H locs cells slots ls hw hc hs hl
  have hr := E.2.2.2.2.2.2.1
  have hz := hw.2.1
  subst hN
  refine W.anew E.1 E.2.1 E.own (E.K.use hlk) (va_AO.use (E.K.2.2.2 C hao)) rfl hd rfl hn hbytes (by omega) (by omega) fun cA kA comp f1 f2 f3 f4 => ?_
  generalize hH1 : H.push ({ cls := cA, slots := Array.replicate n.toNatClampNeg .null, vm := .none } : Cell) = H1
  have z1 : H1.size = H.size + 1 := by rw [← hH1, Array.size_push]
  have e1 : H1[H.size]? = some (arrV cA n.toNatClampNeg (fun _ => .null)) := by rw [← hH1, Array.getElem?_push_size, ← arrV_new]
  have o1 : ∀ q : Nat, q < H.size → H1[q]? = H[q]? := fun q hq => by rw [← hH1, Array.getElem?_push, if_neg (Nat.ne_of_lt hq)]
  have hcA : (j_D c).2 kd = cA := by
    obtain ⟨_, _, _, _, _, h9⟩ := (E.K.2.1 kd _ hk).2
    exact Option.some.inj (h9.symm.trans f1)
  rw [hz]
  refine K H1 locs (cells + 1) (slots + n.toNatClampNeg) ls (jwd_new hw E.2.2.2.2.2.1 ?_ z1 o1) (by omega) (by omega) hl
  show H1[H.size]? = some (vp_cell _ _)
  rw [e1, vp_cell_q, hcA]
  rfl
theorem j_objInit (E : jOk c cc nL own ret fr lc) {index a : Nat} (hlk : Cond.methodLink own index objectInit ∈ jTB) (hin : Cond.instanceMethod objectInit ∈ jTB) (hcw : Cond.code objectInit ⟨#[0xb1]⟩ 1 none ∈ jTB) (hfr : 1 ≤ fr) (hcat : (st.map fun v => v.category).sum + 12 ≤ lc) (hd : decode cc pc = .ok (.invokespecial index, 3)) (K : J c Q f sz rc rs (pc + 3) lv st) : J c Q f sz rc rs pc lv (.ref a :: st) := by
  intro H locs cells slots ls hw hc hs hl
  obtain ⟨_, _, r3, r4⟩ := E.2.2.2.2.2.2.1
  refine W.objInit E.1 E.2.1 E.own (E.K.use hlk) (E.K.use hin) (E.K.use hcw) rfl (by rw [E.2.2.1.1, ← E.2.2.1.2]; exact hl.1) rfl hd (Nat.le_trans hfr r3) ?_ (K H locs cells slots ls hw hc hs hl)
  show 2 * 0 + _ + 12 ≤ _
  omega
theorem j_iret (E : jOk c cc nL own (some .int) fr lc) {v : Int32} (hd : decode cc pc = .ok (.ireturn, 1)) : J c (jZ c (some (.int v)) f sz) f sz 0 0 pc lv [.int v] := fun _ _ _ _ _ hw hc hs _ => W.widen (k := j_mc c) (n := j_ms c) (by omega) (by omega) (W.iret E.1 E.2.1 E.2.2.2.2.2.2.2.1 (fun t ht _ => ⟨rfl, by rw [ht]; exact hw.1, by rw [ht]; exact hw.2.1, hw.2.2.1, hw.2.2.2.F ht⟩) hw.2.2.2.2.2 hd E.2.2.2.2.2.2.2.2.1)
theorem j_zret (E : jOk c cc nL own (some .boolean) fr lc) {v : Int32} (hn : narrow .boolean (.int v) = .int v) (hd : decode cc pc = .ok (.ireturn, 1)) : J c (jZ c (some (.int v)) f sz) f sz 0 0 pc lv [.int v] := fun _ _ _ _ _ hw hc hs _ => W.widen (k := j_mc c) (n := j_ms c) (by omega) (by omega) (W.zret E.1 E.2.1 E.2.2.2.2.2.2.2.1 hn (fun t ht _ => ⟨rfl, by rw [ht]; exact hw.1, by rw [ht]; exact hw.2.1, hw.2.2.1, hw.2.2.2.F ht⟩) hw.2.2.2.2.2 hd E.2.2.2.2.2.2.2.2.1)
theorem j_vret (E : jOk c cc nL own none fr lc) (hd : decode cc pc = .ok (.return_, 1)) : J c (jZ c none f sz) f sz 0 0 pc lv [] := fun _ _ _ _ _ hw hc hs _ => W.widen (k := j_mc c) (n := j_ms c) (by omega) (by omega) (W.vret E.1 E.2.1 E.2.2.2.2.2.2.2.1 (fun t ht _ => ⟨rfl, by rw [ht]; exact hw.1, by rw [ht]; exact hw.2.1, hw.2.2.1, hw.2.2.2.F ht⟩) hw.2.2.2.2.2 hd E.2.2.2.2.2.2.2.2.1)
theorem j_aretQ {C : String} (E : jOk c cc nL own (some (.object C)) fr lc) {o : Option Nat} (hd : decode cc pc = .ok (.areturn, 1)) : J c (jZ c (some (va_rf o)) f sz) f sz 0 0 pc lv [va_rf o] := fun _ _ _ _ _ hw hc hs _ => W.widen (k := j_mc c) (n := j_ms c) (by omega) (by omega) (W.aret E.1 E.2.1 E.2.2.2.2.2.2.2.1 (Or.inl ⟨C, rfl⟩) (va_rf_or o) (fun t ht _ => ⟨rfl, by rw [ht]; exact hw.1, by rw [ht]; exact hw.2.1, hw.2.2.1, hw.2.2.2.F ht⟩) hw.2.2.2.2.2 hd E.2.2.2.2.2.2.2.2.1)
/-- behind a call -/
theorem j_run (E : jOk c cc nL own ret fr lc) {st0 rest : List Value} {a : Array Value} {r : Option Value} {f1 : jM} {sz1 mc1 ms1 : Nat}
    (run : ∀ (H : Heap) (locs : List Loc) (cells slots : Nat) (ls : Array Slot), jWd c f sz H locs → cells + mc1 ≤ j_mc c → slots + ms1 ≤ j_ms c → lv_has ls (j_n c) lv → va_Run (j_p c) (j_l c) (j_e c) (j_R c) (j_s c) (j_m c) (j_a c) (j_b c) (j_h c) (j_c c) H locs cells slots mc1 ms1 (F0 (j_m c) pc ls st0) rest (jQc (j_D c) (jA f sz) r f1 sz1 a) (jA f sz))
    (K : J c Q f1 sz1 rc rs (pc + 3) lv (r.toList ++ rest)) : J c Q f sz (mc1 + rc) (ms1 + rs) pc lv st0 := by
  intro H locs cells slots ls hw hc hs hl T hT X
  obtain ⟨v, st₀, t, T', L, h0, X', hL, e1, e2, ⟨hv, hP1, hz1, hd1, hF⟩, go⟩ := run H locs cells slots ls hw (by omega) (by omega) hl T hT X
  cases hv
  have hz := hw.2.1
  have hS := hw.2.2.2
  have sub : ∀ q, jA f sz q → j_A c q := fun q h => h.elim (fun h => hw.2.2.1 q h) (fun h => E.2.2.2.2.2.1 q (Nat.le_trans hS.1 (by omega)))
  obtain ⟨hF1, hF2⟩ := hF
  rw [h0] at hF1 hF2
  obtain ⟨t2, a1, b1⟩ := K T'.heap (locs ++ L) (cells + mc1) (slots + ms1) ls ⟨by rw [e1]; exact hP1, by rw [e1]; exact hz1, fun q h => sub q (hd1 q h), Nat.le_trans hS.1 (by rw [e1]; exact hF1), fun q h1 h2 => by rw [e1, hF2 q (Nat.lt_of_lt_of_le h1 hS.1) (fun z => h2 (sub q z))]; exact hS.2.1 q h1 h2, fun q hq => by
      rcases List.mem_append.mp hq with h | h
      · exact hS.2.2 q h
      · exact sub _ (hL q h)⟩ (by omega) (by omega) hl T' rfl X'
  exact ⟨t2, go t2 a1, b1⟩
theorem j_warm (E : jOk c cc nL own ret fr lc) {w : Cond} {y : MethodName} {bytes : ByteArray} {maxL : Nat} {ret1 : Option FieldType} (hcw : Cond.code y bytes maxL ret1 ∈ jTB) (hw : w ∈ Cond.code y bytes maxL ret1 :: jAC) (a' : Array Value) (U : State) (hW : (j_s c).WarmedH U.vm) : w.before a' U = true := by
  rcases List.mem_cons.mp hw with rfl | h
  · exact (E.K.warm hW).use hcw
  · refine word_at hW (Or.inr ?_) (E.2.2.2.2.2.2.2.2.2 w h)
    simp only [jAC, List.mem_cons, List.not_mem_nil, or_false] at h
    rcases h with rfl | rfl <;> exact ⟨_, rfl⟩
theorem j_callV (E : jOk c cc nL own ret fr lc) {y : MethodName} {bytes : ByteArray} {maxL fr1 lc1 b ci index n mc1 ms1 sz1 : Nat} {ret1 : Option FieldType} {As rest fs : List Value} {f1 : jM} {r : Option Value} {q : vw_C} (hM : jCt (j_l c) (j_D c) y bytes maxL ret1 fr1 lc1 (.ref b :: As) f sz mc1 ms1 r f1 sz1) (lw : jLw y bytes maxL ret1 n) (lk : jLk own index y) (hin : Cond.instanceMethod y ∈ jTB) (hse : Cond.selects q.1 y y ∈ jTB) (hci : vwCl[ci]? = some q) (hrec : f b = some (.inr (ci, fs))) (hrm : fr1 + 1 ≤ fr ∧ 8 + (maxL + 11) + lc1 ≤ lc) (hn : As.length = n) (hcat : (rest.map fun v => v.category).sum ≤ 8) (hd : decode cc pc = .ok (.invokevirtual index, 3)) (K : J c Q f1 sz1 rc rs (pc + 3) lv (r.toList ++ rest)) : J c Q f sz (mc1 + rc) (ms1 + rs) pc lv (As.reverse ++ .ref b :: rest) := by
  refine j_run E (a := (Value.ref b :: As).toArray) (fun H locs cells slots ls hw hc hs hl => ?_) K
  obtain ⟨hcw, hini, hy1, hy2, hdl⟩ := lw
  obtain ⟨r1, r2, r3, r4⟩ := E.2.2.2.2.2.2.1
  have hlen : ∀ sig, parseMethodDescriptor y.desc = some sig → n = sig.parameters.length := fun sig h => by rw [h] at hdl; exact (Option.some.inj hdl).symm
  have hp : PreV (j_s c) H q.1 b (jPc (j_D c) (.ref b :: As) f sz) As := by
    refine ⟨jPc.blind, ?_, fun U hU hW => ⟨rfl, by rw [hU]; exact hw.2.1, by rw [hU]; exact hw.1, E.K.warm hW⟩⟩
    obtain ⟨q', h1, cell, g1, g2, g3, -⟩ := hw.1 b _ hrec
    exact ⟨cell, g1, by rw [g3]; rfl, by rw [g2]; exact (E.K.1.1 ci q hci).2.1⟩
  have hfix : CallFix (j_p c) (j_m c) (j_c c) cc nL (j_s c) (j_a c) [] own := ⟨E.1, E.2.1, E.2.2.1.1, E.own, fun w h => by cases h⟩
  rcases lk with hl1 | ⟨host, hl1⟩
  · exact va_runV hfix hM ⟨⟨rfl, rfl, by show fr1 + 1 ≤ _; omega, by show 8 + (maxL + 11) + lc1 ≤ _; omega, fun w hw0 a' U hW => j_warm E hcw hw0 a' U hW, List.mem_cons_self, E.K.use hcw, E.K.use hini, ⟨hy1, hy2⟩, hlen, E.K.use hl1⟩, E.K.use hin, E.K.use hse⟩ hp rfl hn (by rw [← E.2.2.1.2]; exact hl.1) rfl (lv_room hcat) hd ⟨by omega, by omega⟩
  · exact va_runVN hfix hM ⟨⟨⟨rfl, rfl, by show fr1 + 1 ≤ _; omega, by show 8 + (maxL + 11) + lc1 ≤ _; omega, fun w hw0 a' U hW => j_warm E hcw hw0 a' U hW, List.mem_cons_self⟩, E.K.use hcw, E.K.use hini, ⟨hy1, hy2⟩, hlen, E.K.use hl1⟩, E.K.use hin, E.K.use hse⟩ hp rfl hn (by rw [← E.2.2.1.2]; exact hl.1) rfl (lv_room hcat) hd ⟨by omega, by omega⟩
theorem j_callS (E : jOk c cc nL own ret fr lc) {y : MethodName} {bytes : ByteArray} {maxL fr1 lc1 index n mc1 ms1 sz1 : Nat} {ret1 : Option FieldType} {As rest : List Value} {f1 : jM} {r : Option Value} (hM : jCt (j_l c) (j_D c) y bytes maxL ret1 fr1 lc1 As f sz mc1 ms1 r f1 sz1) (lw : jLw y bytes maxL ret1 n) (lk : jLk own index y) (hst : Cond.static y ∈ jTB) (hrm : fr1 + 1 ≤ fr ∧ 8 + (maxL + 11) + lc1 ≤ lc) (hn : As.length = n) (hcat : (rest.map fun v => v.category).sum ≤ 8) (hd : decode cc pc = .ok (.invokestatic index, 3)) (K : J c Q f1 sz1 rc rs (pc + 3) lv (r.toList ++ rest)) : J c Q f sz (mc1 + rc) (ms1 + rs) pc lv (As.reverse ++ rest) := by
  refine j_run E (a := As.toArray) (fun H locs cells slots ls hw hc hs hl => ?_) K
  obtain ⟨hcw, hini, hy1, hy2, hdl⟩ := lw
  obtain ⟨r1, r2, r3, r4⟩ := E.2.2.2.2.2.2.1
  have hlen : ∀ sig, parseMethodDescriptor y.desc = some sig → n = sig.parameters.length := fun sig h => by rw [h] at hdl; exact (Option.some.inj hdl).symm
  have hp : PreS (j_s c) H (jPc (j_D c) As f sz) As := ⟨jPc.blind, fun U hU hW => ⟨rfl, by rw [hU]; exact hw.2.1, by rw [hU]; exact hw.1, E.K.warm hW⟩⟩
  have hfix : CallFix (j_p c) (j_m c) (j_c c) cc nL (j_s c) (j_a c) [] own := ⟨E.1, E.2.1, E.2.2.1.1, E.own, fun w h => by cases h⟩
  rcases lk with hl1 | ⟨host, hl1⟩
  · exact va_runS hfix hM ⟨⟨rfl, rfl, by show fr1 + 1 ≤ _; omega, by show 8 + (maxL + 11) + lc1 ≤ _; omega, fun w hw0 a' U hW => j_warm E hcw hw0 a' U hW, List.mem_cons_self, E.K.use hcw, E.K.use hini, ⟨hy1, hy2⟩, hlen, E.K.use hl1⟩, E.K.use hst⟩ hp rfl hn (by rw [← E.2.2.1.2]; exact hl.1) rfl (lv_room hcat) hd ⟨by omega, by omega⟩
  · exact va_runSN hfix hM ⟨⟨⟨rfl, rfl, by show fr1 + 1 ≤ _; omega, by show 8 + (maxL + 11) + lc1 ≤ _; omega, fun w hw0 a' U hW => j_warm E hcw hw0 a' U hW, List.mem_cons_self⟩, E.K.use hcw, E.K.use hini, ⟨hy1, hy2⟩, hlen, E.K.use hl1⟩, E.K.use hst, trivial⟩ hp rfl hn (by rw [← E.2.2.1.2]; exact hl.1) rfl (lv_room hcat) hd ⟨by omega, by omega⟩
theorem j_callI (E : jOk c cc nL own ret fr lc) {y : MethodName} {bytes : ByteArray} {maxL fr1 lc1 b index n mc1 ms1 sz1 : Nat} {As rest : List Value} {f1 : jM} (hM : jCt (j_l c) (j_D c) y bytes maxL none fr1 lc1 (.ref b :: As) f sz mc1 ms1 none f1 sz1) (lw : jLw y bytes maxL none n) (lk : jLk own index y) (hin : Cond.instanceMethod y ∈ jTB) (hy0 : y.name = "<init>") (hrm : fr1 + 1 ≤ fr ∧ 8 + (maxL + 11) + lc1 ≤ lc) (hn : As.length = n) (hcat : (rest.map fun v => v.category).sum ≤ 8) (hd : decode cc pc = .ok (.invokespecial index, 3)) (K : J c Q f1 sz1 rc rs (pc + 3) lv rest) : J c Q f sz (mc1 + rc) (ms1 + rs) pc lv (As.reverse ++ .ref b :: rest) := by
  refine j_run E (r := none) (rest := rest) (a := (Value.ref b :: As).toArray) (fun H locs cells slots ls hw hc hs hl => ?_) K
  obtain ⟨hcw, hini, hy1, hy2, hdl⟩ := lw
  obtain ⟨r1, r2, r3, r4⟩ := E.2.2.2.2.2.2.1
  have hlen : ∀ sig, parseMethodDescriptor y.desc = some sig → n = sig.parameters.length := fun sig h => by rw [h] at hdl; exact (Option.some.inj hdl).symm
  have hp : PreS (j_s c) H (jPc (j_D c) (.ref b :: As) f sz) (.ref b :: As) := ⟨jPc.blind, fun U hU hW => ⟨rfl, by rw [hU]; exact hw.2.1, by rw [hU]; exact hw.1, E.K.warm hW⟩⟩
  have hfix : CallFix (j_p c) (j_m c) (j_c c) cc nL (j_s c) (j_a c) [] own := ⟨E.1, E.2.1, E.2.2.1.1, E.own, fun w h => by cases h⟩
  rcases lk with hl1 | ⟨host, hl1⟩
  · exact va_runI hfix hM ⟨⟨rfl, rfl, by show fr1 + 1 ≤ _; omega, by show 8 + (maxL + 11) + lc1 ≤ _; omega, fun w hw0 a' U hW => j_warm E hcw hw0 a' U hW, List.mem_cons_self, E.K.use hcw, E.K.use hini, ⟨hy1, hy2⟩, hlen, E.K.use hl1⟩, hy0, E.K.use hin⟩ hp rfl hn (by rw [← E.2.2.1.2]; exact hl.1) rfl (lv_room hcat) hd ⟨by omega, by omega⟩
  · exact va_runIN hfix hM ⟨⟨⟨rfl, rfl, by show fr1 + 1 ≤ _; omega, by show 8 + (maxL + 11) + lc1 ≤ _; omega, fun w hw0 a' U hW => j_warm E hcw hw0 a' U hW, List.mem_cons_self⟩, E.K.use hcw, E.K.use hini, ⟨hy1, hy2⟩, hlen, E.K.use hl1⟩, hy0, E.K.use hin⟩ hp rfl hn (by rw [← E.2.2.1.2]; exact hl.1) rfl (lv_room hcat) hd ⟨by omega, by omega⟩
end JL
/-- a method's contract out of the walk of its body -/
theorem j_start {l : Launch} {D : jD} {y : MethodName} {cc : ByteArray} {maxL : Nat} {ret : Option FieldType} {fr lc : Nat} {av : List Value} {f f' : jM} {sz sz' mc ms : Nat} {r : Option Value} (hy : plainName y.cls = true) (hlen : (lg_sl av).length ≤ maxL)
    (body : ∀ c : jS, j_l c = l → j_D c = D → (j_h c).name = y.name → jOk c cc maxL y.cls ret fr lc → J c (jZ c r f' sz') f sz mc ms 0 (lv_args 0 av) []) : jCt l D y cc maxL ret fr lc av f sz mc ms r f' sz' := by
  refine Met.ofW (cc := cc) (maxL := maxL) (ret := ret) hy rfl ?_
  intro p e s m args below meth co s₁ B hml hv
  obtain ⟨rfl, hsz, hP, hK⟩ := hv
  have hts := atoms_spec (ws := Cond.code y cc maxL ret :: jAC) B.pre
  have hown : s.vm.findClass y.cls = some m.cls := findClass_of_methodNamed B.named
  have hl := lv_entry av (n := maxL) hlen
  rw [lg_entry_eq]
  exact body ((p, l, e, { frames := fr, cells := mc, slots := ms, locals := lc }, s, m, av.toArray, below, meth, co), D, jA f sz, maxL, mc, ms) rfl rfl (name_of_methodNamed B.named B.method).1 ⟨B.exec, B.bytes, ⟨hml, rfl⟩, hown, hK, fun q h => Or.inr (by rw [← hsz]; exact h), ⟨Nat.le_refl _, Nat.le_refl _, Nat.le_refl _, Nat.le_refl _⟩, B.returns, B.notSynchronized, fun w h => hts w (List.mem_cons_of_mem _ h)⟩ s.heap [] 0 0 _ ⟨hP, hsz, fun a h => Or.inl h, va_S.rf⟩ (by show 0 + mc ≤ mc; omega) (by show 0 + ms ≤ ms; omega) hl

/-- the memory with one cell more -/
def nwO (ci : Nat) (fs : List Value) (f : jM) (sz : Nat) : Option jM := some (va_up f sz (some (.inr (ci, fs))))
def nwI (kd : Nat) (f : jM) (sz : Nat) (n : Int32) : Option jM := if n < 0 ∨ 100000 < n.toNatClampNeg then none else some (va_up f sz (some (.inl (kd, n.toNatClampNeg, .inl (fun _ => 0)))))
def nwR (kd : Nat) (f : jM) (sz : Nat) (n : Int32) : Option jM := if n < 0 ∨ 100000 < n.toNatClampNeg then none else some (va_up f sz (some (.inl (kd, n.toNatClampNeg, .inr (.inr (.inr (.inr (fun _ => none))))))))
theorem nwO_spec {ci : Nat} {fs : List Value} {f f' : jM} {sz : Nat} (h : nwO ci fs f sz = some f') : f' = va_up f sz (some (.inr (ci, fs))) := (Option.some.inj h).symm
theorem nwI_spec {kd : Nat} {f f' : jM} {sz : Nat} {n : Int32} (h : nwI kd f sz n = some f') : ¬ n < 0 ∧ n.toNatClampNeg ≤ 100000 ∧ f' = va_up f sz (some (.inl (kd, n.toNatClampNeg, .inl (fun _ => 0)))) := by
  unfold nwI at h
  split at h
  · cases h
  · next hc => exact ⟨fun q => hc (Or.inl q), Nat.not_lt.mp fun q => hc (Or.inr q), (Option.some.inj h).symm⟩
theorem nwR_spec {kd : Nat} {f f' : jM} {sz : Nat} {n : Int32} (h : nwR kd f sz n = some f') : ¬ n < 0 ∧ n.toNatClampNeg ≤ 100000 ∧ f' = va_up f sz (some (.inl (kd, n.toNatClampNeg, .inr (.inr (.inr (.inr (fun _ => none))))))) := by
  unfold nwR at h
  split at h
  · cases h
  · next hc => exact ⟨fun q => hc (Or.inl q), Nat.not_lt.mp fun q => hc (Or.inr q), (Option.some.inj h).symm⟩
abbrev jRA : Type := jM × Nat × Nat × Nat
def jcnt {α : Type} (n k : Nat) (r : α × Nat × Nat × Nat) : α × Nat × Nat × Nat := (r.1, r.2.1, n + r.2.2.1, k + r.2.2.2)
theorem jmp {α : Type} {o : Option (α × Nat × Nat × Nat)} {n k : Nat} {r : α × Nat × Nat × Nat} (h : o.map (jcnt n k) = some r) : ∃ r', o = some r' ∧ r = jcnt n k r' := by
  obtain ⟨a, h1, h2⟩ := Option.map_eq_some_iff.mp h
  exact ⟨a, h1, h2.symm⟩
def jcase {β : Type} (o : Option Nat) (A : Option β) (B : Nat → Option β) : Option β := match o with
  | none => A
  | some x => B x
theorem jcn {β : Type} {A : Option β} {B : Nat → Option β} {r : β} (h : jcase none A B = some r) : A = some r := h
theorem jcs {β : Type} {A : Option β} {B : Nat → Option β} {r : β} {x : Nat} (h : jcase (some x) A B = some r) : B x = some r := h
def jbl (x : Int32) : Option Unit := if x = 0 ∨ x = 1 then some () else none
theorem jbl_spec {x : Int32} {u : Unit} (h : jbl x = some u) : narrow .boolean (.int x) = .int x := by
  unfold jbl at h
  split at h
  · next hc => rcases hc with rfl | rfl <;> decide +kernel
  · cases h
theorem jne {x : Int32} {k : Int} (y : Int32) (hy : y.toInt = k) (h : ¬ x = y) : x.toInt ≠ k := fun e => h (Int32.toInt_inj.mp (by rw [e, hy]))
theorem jn0 {β : Type} {r : β} {P : Prop} (h : (none : Option β) = some r) : P := by cases h

theorem j_mmax {c : jS} {Q : State → Prop} {f : jM} {sz rc rs pc : Nat} {lv : List (Nat × Value)} {st : List Value} {cc : ByteArray} {nL : Nat} {own : String} {ret : Option FieldType} {fr lc : Nat} (E : jOk c cc nL own ret fr lc) {index : Nat} {x y : Int32} (hlk : Cond.methodLink own index Lib.Math.max.name ∈ jTB) (hst : Cond.static Lib.Math.max.name ∈ jTB) (hini : Cond.initialized "java/lang/Math" ∈ jTB) (hcw : Cond.code Lib.Math.max.name Lib.Math.max.code 2 (some .int) ∈ jTB) (hfr : 1 ≤ fr) (hcat : (st.map fun v => v.category).sum + 13 ≤ lc) (hd : decode cc pc = .ok (.invokestatic index, 3)) (K : J c Q f sz rc rs (pc + 3) lv (.int (if x < y then y else x) :: st)) : J c Q f sz rc rs pc lv (.int y :: .int x :: st) := by
  intro H locs cells slots ls hw hc hs hl
  obtain ⟨r1, r2, r3, r4⟩ := E.2.2.2.2.2.2.1
  exact va_mmax E.1 E.2.1 (by rw [E.2.2.1.1, ← E.2.2.1.2]; exact hl.1.symm) E.own (E.K.use hlk) (E.K.use hst) (E.K.use hini) (E.K.use hcw) (Nat.le_trans hfr r3) (Nat.le_trans hcat r4) (by omega) (by omega) hd (K H locs cells slots ls hw hc hs hl)
theorem j_mmin {c : jS} {Q : State → Prop} {f : jM} {sz rc rs pc : Nat} {lv : List (Nat × Value)} {st : List Value} {cc : ByteArray} {nL : Nat} {own : String} {ret : Option FieldType} {fr lc : Nat} (E : jOk c cc nL own ret fr lc) {index : Nat} {x y : Int32} (hlk : Cond.methodLink own index Lib.Math.min.name ∈ jTB) (hst : Cond.static Lib.Math.min.name ∈ jTB) (hini : Cond.initialized "java/lang/Math" ∈ jTB) (hcw : Cond.code Lib.Math.min.name Lib.Math.min.code 2 (some .int) ∈ jTB) (hfr : 1 ≤ fr) (hcat : (st.map fun v => v.category).sum + 13 ≤ lc) (hd : decode cc pc = .ok (.invokestatic index, 3)) (K : J c Q f sz rc rs (pc + 3) lv (.int (if y < x then y else x) :: st)) : J c Q f sz rc rs pc lv (.int y :: .int x :: st) := by
  intro H locs cells slots ls hw hc hs hl
  obtain ⟨r1, r2, r3, r4⟩ := E.2.2.2.2.2.2.1
  exact va_mmin E.1 E.2.1 (by rw [E.2.2.1.1, ← E.2.2.1.2]; exact hl.1.symm) E.own (E.K.use hlk) (E.K.use hst) (E.K.use hini) (E.K.use hcw) (Nat.le_trans hfr r3) (Nat.le_trans hcat r4) (by omega) (by omega) hd (K H locs cells slots ls hw hc hs hl)
