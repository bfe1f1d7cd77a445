-- ===== PART A: goes FIRST, ahead of the names: the tables' words, and 'selects' of the private methods out of them =====
/-- a private method of a class that the tables say can be made, by its rows of tables_1 -/
def lw_okq (q : MethodName × Nat) : Prop := (q.1.cls ≠ "java/lang/invoke/MethodHandle" ∧ q.1.cls ≠ "java/lang/invoke/VarHandle") ∧ Cond.instantiable q.1.cls q.2 ∈ tables_1 ∧ Cond.privateMethod q.1 ∈ tables_1 ∧ Cond.instanceMethod q.1 ∈ tables_1
theorem lw_p0 : lw_okq (⟨"FarHeaps", "isNode", "(I)Z"⟩, 4) := ⟨⟨by decide +kernel, by decide +kernel⟩, List.mem_of_getElem? (i := 11) (by decide +kernel), List.mem_of_getElem? (i := 195) (by decide +kernel), List.mem_of_getElem? (i := 196) (by decide +kernel)⟩
theorem lw_p1 : lw_okq (⟨"FarHeaps$Node", "freeNumber", "()I"⟩, 12) := ⟨⟨by decide +kernel, by decide +kernel⟩, List.mem_of_getElem? (i := 26) (by decide +kernel), List.mem_of_getElem? (i := 202) (by decide +kernel), List.mem_of_getElem? (i := 203) (by decide +kernel)⟩
theorem lw_p2 : lw_okq (⟨"FarHeaps$Node", "hasRoom", "(I)Z"⟩, 12) := ⟨⟨by decide +kernel, by decide +kernel⟩, List.mem_of_getElem? (i := 26) (by decide +kernel), List.mem_of_getElem? (i := 206) (by decide +kernel), List.mem_of_getElem? (i := 207) (by decide +kernel)⟩
theorem lw_p3 : lw_okq (⟨"FarHeaps$Node", "lay", "(II)V"⟩, 12) := ⟨⟨by decide +kernel, by decide +kernel⟩, List.mem_of_getElem? (i := 26) (by decide +kernel), List.mem_of_getElem? (i := 210) (by decide +kernel), List.mem_of_getElem? (i := 211) (by decide +kernel)⟩
theorem lw_p4 : lw_okq (⟨"FarHeaps$Node", "fill", "(III)V"⟩, 12) := ⟨⟨by decide +kernel, by decide +kernel⟩, List.mem_of_getElem? (i := 26) (by decide +kernel), List.mem_of_getElem? (i := 217) (by decide +kernel), List.mem_of_getElem? (i := 218) (by decide +kernel)⟩
theorem lw_p5 : lw_okq (⟨"FarHeaps", "slotBehind", "(III)I"⟩, 4) := ⟨⟨by decide +kernel, by decide +kernel⟩, List.mem_of_getElem? (i := 11) (by decide +kernel), List.mem_of_getElem? (i := 225) (by decide +kernel), List.mem_of_getElem? (i := 226) (by decide +kernel)⟩
theorem lw_p6 : lw_okq (⟨"FarHeaps$Node", "hasField", "(II)Z"⟩, 12) := ⟨⟨by decide +kernel, by decide +kernel⟩, List.mem_of_getElem? (i := 26) (by decide +kernel), List.mem_of_getElem? (i := 232) (by decide +kernel), List.mem_of_getElem? (i := 233) (by decide +kernel)⟩
theorem lw_p7 : lw_okq (⟨"FarHeaps$Node", "hasObject", "(I)Z"⟩, 12) := ⟨⟨by decide +kernel, by decide +kernel⟩, List.mem_of_getElem? (i := 26) (by decide +kernel), List.mem_of_getElem? (i := 236) (by decide +kernel), List.mem_of_getElem? (i := 237) (by decide +kernel)⟩
theorem lw_p8 : lw_okq (⟨"FarHeaps$Node", "copy", "(II)V"⟩, 12) := ⟨⟨by decide +kernel, by decide +kernel⟩, List.mem_of_getElem? (i := 26) (by decide +kernel), List.mem_of_getElem? (i := 243) (by decide +kernel), List.mem_of_getElem? (i := 244) (by decide +kernel)⟩
theorem lw_p9 : lw_okq (⟨"FarHeaps$Node", "empty", "(I)V"⟩, 12) := ⟨⟨by decide +kernel, by decide +kernel⟩, List.mem_of_getElem? (i := 26) (by decide +kernel), List.mem_of_getElem? (i := 260) (by decide +kernel), List.mem_of_getElem? (i := 261) (by decide +kernel)⟩
theorem lw_p10 : lw_okq (⟨"FarHeaps$Node", "holdsObject", "(I)Z"⟩, 12) := ⟨⟨by decide +kernel, by decide +kernel⟩, List.mem_of_getElem? (i := 26) (by decide +kernel), List.mem_of_getElem? (i := 268) (by decide +kernel), List.mem_of_getElem? (i := 269) (by decide +kernel)⟩
theorem lw_p11 : lw_okq (⟨"FarHeaps$Post", "isFull", "()Z"⟩, 2) := ⟨⟨by decide +kernel, by decide +kernel⟩, List.mem_of_getElem? (i := 89) (by decide +kernel), List.mem_of_getElem? (i := 272) (by decide +kernel), List.mem_of_getElem? (i := 273) (by decide +kernel)⟩
theorem lw_p12 : lw_okq (⟨"FarHeaps$Node", "splitOff", "(I)I"⟩, 12) := ⟨⟨by decide +kernel, by decide +kernel⟩, List.mem_of_getElem? (i := 26) (by decide +kernel), List.mem_of_getElem? (i := 276) (by decide +kernel), List.mem_of_getElem? (i := 277) (by decide +kernel)⟩
theorem lw_p13 : lw_okq (⟨"FarHeaps$Node", "changeTotal", "(II)V"⟩, 12) := ⟨⟨by decide +kernel, by decide +kernel⟩, List.mem_of_getElem? (i := 26) (by decide +kernel), List.mem_of_getElem? (i := 283) (by decide +kernel), List.mem_of_getElem? (i := 284) (by decide +kernel)⟩
theorem lw_p14 : lw_okq (⟨"FarHeaps$Node", "weightOfImport", "(I)I"⟩, 12) := ⟨⟨by decide +kernel, by decide +kernel⟩, List.mem_of_getElem? (i := 26) (by decide +kernel), List.mem_of_getElem? (i := 291) (by decide +kernel), List.mem_of_getElem? (i := 292) (by decide +kernel)⟩
theorem lw_p15 : lw_okq (⟨"FarHeaps$Node", "changeWeight", "(II)V"⟩, 12) := ⟨⟨by decide +kernel, by decide +kernel⟩, List.mem_of_getElem? (i := 26) (by decide +kernel), List.mem_of_getElem? (i := 295) (by decide +kernel), List.mem_of_getElem? (i := 296) (by decide +kernel)⟩
def lw_privs_1 : List (MethodName × Nat) := [(⟨"FarHeaps", "isNode", "(I)Z"⟩, 4), (⟨"FarHeaps$Node", "freeNumber", "()I"⟩, 12), (⟨"FarHeaps$Node", "hasRoom", "(I)Z"⟩, 12), (⟨"FarHeaps$Node", "lay", "(II)V"⟩, 12), (⟨"FarHeaps$Node", "fill", "(III)V"⟩, 12), (⟨"FarHeaps", "slotBehind", "(III)I"⟩, 4), (⟨"FarHeaps$Node", "hasField", "(II)Z"⟩, 12), (⟨"FarHeaps$Node", "hasObject", "(I)Z"⟩, 12), (⟨"FarHeaps$Node", "copy", "(II)V"⟩, 12), (⟨"FarHeaps$Node", "empty", "(I)V"⟩, 12), (⟨"FarHeaps$Node", "holdsObject", "(I)Z"⟩, 12), (⟨"FarHeaps$Post", "isFull", "()Z"⟩, 2), (⟨"FarHeaps$Node", "splitOff", "(I)I"⟩, 12), (⟨"FarHeaps$Node", "changeTotal", "(II)V"⟩, 12), (⟨"FarHeaps$Node", "weightOfImport", "(I)I"⟩, 12), (⟨"FarHeaps$Node", "changeWeight", "(II)V"⟩, 12)]
theorem lw_r1 : ∀ q ∈ lw_privs_1, lw_okq q := List.forall_mem_cons.mpr ⟨lw_p0, List.forall_mem_cons.mpr ⟨lw_p1, List.forall_mem_cons.mpr ⟨lw_p2, List.forall_mem_cons.mpr ⟨lw_p3, List.forall_mem_cons.mpr ⟨lw_p4, List.forall_mem_cons.mpr ⟨lw_p5, List.forall_mem_cons.mpr ⟨lw_p6, List.forall_mem_cons.mpr ⟨lw_p7, List.forall_mem_cons.mpr ⟨lw_p8, List.forall_mem_cons.mpr ⟨lw_p9, List.forall_mem_cons.mpr ⟨lw_p10, List.forall_mem_cons.mpr ⟨lw_p11, List.forall_mem_cons.mpr ⟨lw_p12, List.forall_mem_cons.mpr ⟨lw_p13, List.forall_mem_cons.mpr ⟨lw_p14, List.forall_mem_cons.mpr ⟨lw_p15, fun _ h => absurd h List.not_mem_nil⟩⟩⟩⟩⟩⟩⟩⟩⟩⟩⟩⟩⟩⟩⟩⟩
theorem lw_p16 : lw_okq (⟨"FarHeaps$Post", "put", "(IIIIII)V"⟩, 2) := ⟨⟨by decide +kernel, by decide +kernel⟩, List.mem_of_getElem? (i := 89) (by decide +kernel), List.mem_of_getElem? (i := 299) (by decide +kernel), List.mem_of_getElem? (i := 300) (by decide +kernel)⟩
theorem lw_p17 : lw_okq (⟨"FarHeaps$Post", "find", "(III)LFarHeaps$Letter;"⟩, 2) := ⟨⟨by decide +kernel, by decide +kernel⟩, List.mem_of_getElem? (i := 89) (by decide +kernel), List.mem_of_getElem? (i := 313) (by decide +kernel), List.mem_of_getElem? (i := 314) (by decide +kernel)⟩
theorem lw_p18 : lw_okq (⟨"FarHeaps$Node", "canTake", "(I)Z"⟩, 12) := ⟨⟨by decide +kernel, by decide +kernel⟩, List.mem_of_getElem? (i := 26) (by decide +kernel), List.mem_of_getElem? (i := 317) (by decide +kernel), List.mem_of_getElem? (i := 318) (by decide +kernel)⟩
theorem lw_p19 : lw_okq (⟨"FarHeaps$Post", "remove", "(LFarHeaps$Letter;)V"⟩, 2) := ⟨⟨by decide +kernel, by decide +kernel⟩, List.mem_of_getElem? (i := 89) (by decide +kernel), List.mem_of_getElem? (i := 321) (by decide +kernel), List.mem_of_getElem? (i := 322) (by decide +kernel)⟩
theorem lw_p20 : lw_okq (⟨"FarHeaps$Node", "takeRef", "(III)V"⟩, 12) := ⟨⟨by decide +kernel, by decide +kernel⟩, List.mem_of_getElem? (i := 26) (by decide +kernel), List.mem_of_getElem? (i := 325) (by decide +kernel), List.mem_of_getElem? (i := 326) (by decide +kernel)⟩
theorem lw_p21 : lw_okq (⟨"FarHeaps", "takeGrant", "(III)V"⟩, 4) := ⟨⟨by decide +kernel, by decide +kernel⟩, List.mem_of_getElem? (i := 11) (by decide +kernel), List.mem_of_getElem? (i := 330) (by decide +kernel), List.mem_of_getElem? (i := 331) (by decide +kernel)⟩
theorem lw_p22 : lw_okq (⟨"FarHeaps", "bringNext", "()Z"⟩, 4) := ⟨⟨by decide +kernel, by decide +kernel⟩, List.mem_of_getElem? (i := 11) (by decide +kernel), List.mem_of_getElem? (i := 340) (by decide +kernel), List.mem_of_getElem? (i := 341) (by decide +kernel)⟩
theorem lw_p23 : lw_okq (⟨"FarHeaps$Node", "markLive", "(LFarHeaps$Marks;)V"⟩, 12) := ⟨⟨by decide +kernel, by decide +kernel⟩, List.mem_of_getElem? (i := 26) (by decide +kernel), List.mem_of_getElem? (i := 349) (by decide +kernel), List.mem_of_getElem? (i := 350) (by decide +kernel)⟩
theorem lw_p24 : lw_okq (⟨"FarHeaps$Marks", "clear", "()V"⟩, 4) := ⟨⟨by decide +kernel, by decide +kernel⟩, List.mem_of_getElem? (i := 134) (by decide +kernel), List.mem_of_getElem? (i := 353) (by decide +kernel), List.mem_of_getElem? (i := 354) (by decide +kernel)⟩
theorem lw_p25 : lw_okq (⟨"FarHeaps$Node", "markRegisters", "(LFarHeaps$Marks;)V"⟩, 12) := ⟨⟨by decide +kernel, by decide +kernel⟩, List.mem_of_getElem? (i := 26) (by decide +kernel), List.mem_of_getElem? (i := 357) (by decide +kernel), List.mem_of_getElem? (i := 358) (by decide +kernel)⟩
theorem lw_p26 : lw_okq (⟨"FarHeaps$Marks", "add", "(I)V"⟩, 4) := ⟨⟨by decide +kernel, by decide +kernel⟩, List.mem_of_getElem? (i := 134) (by decide +kernel), List.mem_of_getElem? (i := 362) (by decide +kernel), List.mem_of_getElem? (i := 363) (by decide +kernel)⟩
theorem lw_p27 : lw_okq (⟨"FarHeaps$Node", "markFields", "(ILFarHeaps$Marks;)V"⟩, 12) := ⟨⟨by decide +kernel, by decide +kernel⟩, List.mem_of_getElem? (i := 26) (by decide +kernel), List.mem_of_getElem? (i := 367) (by decide +kernel), List.mem_of_getElem? (i := 368) (by decide +kernel)⟩
theorem lw_p28 : lw_okq (⟨"FarHeaps$Node", "countUnmarkedImports", "(LFarHeaps$Marks;)I"⟩, 12) := ⟨⟨by decide +kernel, by decide +kernel⟩, List.mem_of_getElem? (i := 26) (by decide +kernel), List.mem_of_getElem? (i := 372) (by decide +kernel), List.mem_of_getElem? (i := 373) (by decide +kernel)⟩
theorem lw_p29 : lw_okq (⟨"FarHeaps$Marks", "has", "(I)Z"⟩, 4) := ⟨⟨by decide +kernel, by decide +kernel⟩, List.mem_of_getElem? (i := 134) (by decide +kernel), List.mem_of_getElem? (i := 376) (by decide +kernel), List.mem_of_getElem? (i := 377) (by decide +kernel)⟩
theorem lw_p30 : lw_okq (⟨"FarHeaps$Node", "giveBackUnmarked", "(LFarHeaps$Marks;LFarHeaps$Post;)V"⟩, 12) := ⟨⟨by decide +kernel, by decide +kernel⟩, List.mem_of_getElem? (i := 26) (by decide +kernel), List.mem_of_getElem? (i := 380) (by decide +kernel), List.mem_of_getElem? (i := 381) (by decide +kernel)⟩
theorem lw_p31 : lw_okq (⟨"FarHeaps$Node", "giveBack", "(ILFarHeaps$Post;)V"⟩, 12) := ⟨⟨by decide +kernel, by decide +kernel⟩, List.mem_of_getElem? (i := 26) (by decide +kernel), List.mem_of_getElem? (i := 384) (by decide +kernel), List.mem_of_getElem? (i := 385) (by decide +kernel)⟩
def lw_privs_2 : List (MethodName × Nat) := [(⟨"FarHeaps$Post", "put", "(IIIIII)V"⟩, 2), (⟨"FarHeaps$Post", "find", "(III)LFarHeaps$Letter;"⟩, 2), (⟨"FarHeaps$Node", "canTake", "(I)Z"⟩, 12), (⟨"FarHeaps$Post", "remove", "(LFarHeaps$Letter;)V"⟩, 2), (⟨"FarHeaps$Node", "takeRef", "(III)V"⟩, 12), (⟨"FarHeaps", "takeGrant", "(III)V"⟩, 4), (⟨"FarHeaps", "bringNext", "()Z"⟩, 4), (⟨"FarHeaps$Node", "markLive", "(LFarHeaps$Marks;)V"⟩, 12), (⟨"FarHeaps$Marks", "clear", "()V"⟩, 4), (⟨"FarHeaps$Node", "markRegisters", "(LFarHeaps$Marks;)V"⟩, 12), (⟨"FarHeaps$Marks", "add", "(I)V"⟩, 4), (⟨"FarHeaps$Node", "markFields", "(ILFarHeaps$Marks;)V"⟩, 12), (⟨"FarHeaps$Node", "countUnmarkedImports", "(LFarHeaps$Marks;)I"⟩, 12), (⟨"FarHeaps$Marks", "has", "(I)Z"⟩, 4), (⟨"FarHeaps$Node", "giveBackUnmarked", "(LFarHeaps$Marks;LFarHeaps$Post;)V"⟩, 12), (⟨"FarHeaps$Node", "giveBack", "(ILFarHeaps$Post;)V"⟩, 12)]
theorem lw_r2 : ∀ q ∈ lw_privs_2, lw_okq q := List.forall_mem_cons.mpr ⟨lw_p16, List.forall_mem_cons.mpr ⟨lw_p17, List.forall_mem_cons.mpr ⟨lw_p18, List.forall_mem_cons.mpr ⟨lw_p19, List.forall_mem_cons.mpr ⟨lw_p20, List.forall_mem_cons.mpr ⟨lw_p21, List.forall_mem_cons.mpr ⟨lw_p22, List.forall_mem_cons.mpr ⟨lw_p23, List.forall_mem_cons.mpr ⟨lw_p24, List.forall_mem_cons.mpr ⟨lw_p25, List.forall_mem_cons.mpr ⟨lw_p26, List.forall_mem_cons.mpr ⟨lw_p27, List.forall_mem_cons.mpr ⟨lw_p28, List.forall_mem_cons.mpr ⟨lw_p29, List.forall_mem_cons.mpr ⟨lw_p30, List.forall_mem_cons.mpr ⟨lw_p31, fun _ h => absurd h List.not_mem_nil⟩⟩⟩⟩⟩⟩⟩⟩⟩⟩⟩⟩⟩⟩⟩⟩
theorem lw_p32 : lw_okq (⟨"FarHeaps$Node", "sweep", "(LFarHeaps$Marks;)I"⟩, 12) := ⟨⟨by decide +kernel, by decide +kernel⟩, List.mem_of_getElem? (i := 26) (by decide +kernel), List.mem_of_getElem? (i := 389) (by decide +kernel), List.mem_of_getElem? (i := 390) (by decide +kernel)⟩
theorem lw_p33 : lw_okq (⟨"FarHeaps$Node", "moveTo", "(II)V"⟩, 12) := ⟨⟨by decide +kernel, by decide +kernel⟩, List.mem_of_getElem? (i := 26) (by decide +kernel), List.mem_of_getElem? (i := 393) (by decide +kernel), List.mem_of_getElem? (i := 394) (by decide +kernel)⟩
theorem lw_p34 : lw_okq (⟨"FarHeaps$Node", "emptyFields", "(I)V"⟩, 12) := ⟨⟨by decide +kernel, by decide +kernel⟩, List.mem_of_getElem? (i := 26) (by decide +kernel), List.mem_of_getElem? (i := 397) (by decide +kernel), List.mem_of_getElem? (i := 398) (by decide +kernel)⟩
theorem lw_p35 : lw_okq (⟨"FarHeaps", "isObject", "(II)Z"⟩, 4) := ⟨⟨by decide +kernel, by decide +kernel⟩, List.mem_of_getElem? (i := 11) (by decide +kernel), List.mem_of_getElem? (i := 406) (by decide +kernel), List.mem_of_getElem? (i := 407) (by decide +kernel)⟩
theorem lw_p36 : lw_okq (⟨"FarHeaps$Trial", "run", "([LFarHeaps$Node;ILFarHeaps$Post;)I"⟩, 4) := ⟨⟨by decide +kernel, by decide +kernel⟩, List.mem_of_getElem? (i := 157) (by decide +kernel), List.mem_of_getElem? (i := 411) (by decide +kernel), List.mem_of_getElem? (i := 412) (by decide +kernel)⟩
theorem lw_p37 : lw_okq (⟨"FarHeaps$Marks", "spread", "([LFarHeaps$Node;)V"⟩, 4) := ⟨⟨by decide +kernel, by decide +kernel⟩, List.mem_of_getElem? (i := 134) (by decide +kernel), List.mem_of_getElem? (i := 417) (by decide +kernel), List.mem_of_getElem? (i := 418) (by decide +kernel)⟩
theorem lw_p38 : lw_okq (⟨"FarHeaps$Trial", "findWithout", "([LFarHeaps$Node;I)V"⟩, 4) := ⟨⟨by decide +kernel, by decide +kernel⟩, List.mem_of_getElem? (i := 157) (by decide +kernel), List.mem_of_getElem? (i := 424) (by decide +kernel), List.mem_of_getElem? (i := 425) (by decide +kernel)⟩
theorem lw_p39 : lw_okq (⟨"FarHeaps$Trial", "markHeldFromOutside", "(LFarHeaps$Node;)V"⟩, 4) := ⟨⟨by decide +kernel, by decide +kernel⟩, List.mem_of_getElem? (i := 157) (by decide +kernel), List.mem_of_getElem? (i := 428) (by decide +kernel), List.mem_of_getElem? (i := 429) (by decide +kernel)⟩
theorem lw_p40 : lw_okq (⟨"FarHeaps$Trial", "markLocalGray", "(LFarHeaps$Node;I)V"⟩, 4) := ⟨⟨by decide +kernel, by decide +kernel⟩, List.mem_of_getElem? (i := 157) (by decide +kernel), List.mem_of_getElem? (i := 432) (by decide +kernel), List.mem_of_getElem? (i := 433) (by decide +kernel)⟩
theorem lw_p41 : lw_okq (⟨"FarHeaps$Trial", "sumInnerWeights", "([LFarHeaps$Node;)V"⟩, 4) := ⟨⟨by decide +kernel, by decide +kernel⟩, List.mem_of_getElem? (i := 157) (by decide +kernel), List.mem_of_getElem? (i := 439) (by decide +kernel), List.mem_of_getElem? (i := 440) (by decide +kernel)⟩
theorem lw_p42 : lw_okq (⟨"FarHeaps$Trial", "findHolders", "(LFarHeaps$Node;)V"⟩, 4) := ⟨⟨by decide +kernel, by decide +kernel⟩, List.mem_of_getElem? (i := 157) (by decide +kernel), List.mem_of_getElem? (i := 444) (by decide +kernel), List.mem_of_getElem? (i := 445) (by decide +kernel)⟩
theorem lw_p43 : lw_okq (⟨"FarHeaps$Trial", "noteHolder", "(LFarHeaps$Node;II)V"⟩, 4) := ⟨⟨by decide +kernel, by decide +kernel⟩, List.mem_of_getElem? (i := 157) (by decide +kernel), List.mem_of_getElem? (i := 448) (by decide +kernel), List.mem_of_getElem? (i := 449) (by decide +kernel)⟩
theorem lw_p44 : lw_okq (⟨"FarHeaps$Trial", "isLetGo", "(LFarHeaps$Node;I)Z"⟩, 4) := ⟨⟨by decide +kernel, by decide +kernel⟩, List.mem_of_getElem? (i := 157) (by decide +kernel), List.mem_of_getElem? (i := 454) (by decide +kernel), List.mem_of_getElem? (i := 455) (by decide +kernel)⟩
theorem lw_p45 : lw_okq (⟨"FarHeaps$Trial", "markUncovered", "([LFarHeaps$Node;)Z"⟩, 4) := ⟨⟨by decide +kernel, by decide +kernel⟩, List.mem_of_getElem? (i := 157) (by decide +kernel), List.mem_of_getElem? (i := 458) (by decide +kernel), List.mem_of_getElem? (i := 459) (by decide +kernel)⟩
theorem lw_p46 : lw_okq (⟨"FarHeaps$Trial", "countInner", "([LFarHeaps$Node;)I"⟩, 4) := ⟨⟨by decide +kernel, by decide +kernel⟩, List.mem_of_getElem? (i := 157) (by decide +kernel), List.mem_of_getElem? (i := 462) (by decide +kernel), List.mem_of_getElem? (i := 463) (by decide +kernel)⟩
theorem lw_p47 : lw_okq (⟨"FarHeaps$Trial", "letGo", "(LFarHeaps$Node;LFarHeaps$Post;)V"⟩, 4) := ⟨⟨by decide +kernel, by decide +kernel⟩, List.mem_of_getElem? (i := 157) (by decide +kernel), List.mem_of_getElem? (i := 466) (by decide +kernel), List.mem_of_getElem? (i := 467) (by decide +kernel)⟩
def lw_privs_3 : List (MethodName × Nat) := [(⟨"FarHeaps$Node", "sweep", "(LFarHeaps$Marks;)I"⟩, 12), (⟨"FarHeaps$Node", "moveTo", "(II)V"⟩, 12), (⟨"FarHeaps$Node", "emptyFields", "(I)V"⟩, 12), (⟨"FarHeaps", "isObject", "(II)Z"⟩, 4), (⟨"FarHeaps$Trial", "run", "([LFarHeaps$Node;ILFarHeaps$Post;)I"⟩, 4), (⟨"FarHeaps$Marks", "spread", "([LFarHeaps$Node;)V"⟩, 4), (⟨"FarHeaps$Trial", "findWithout", "([LFarHeaps$Node;I)V"⟩, 4), (⟨"FarHeaps$Trial", "markHeldFromOutside", "(LFarHeaps$Node;)V"⟩, 4), (⟨"FarHeaps$Trial", "markLocalGray", "(LFarHeaps$Node;I)V"⟩, 4), (⟨"FarHeaps$Trial", "sumInnerWeights", "([LFarHeaps$Node;)V"⟩, 4), (⟨"FarHeaps$Trial", "findHolders", "(LFarHeaps$Node;)V"⟩, 4), (⟨"FarHeaps$Trial", "noteHolder", "(LFarHeaps$Node;II)V"⟩, 4), (⟨"FarHeaps$Trial", "isLetGo", "(LFarHeaps$Node;I)Z"⟩, 4), (⟨"FarHeaps$Trial", "markUncovered", "([LFarHeaps$Node;)Z"⟩, 4), (⟨"FarHeaps$Trial", "countInner", "([LFarHeaps$Node;)I"⟩, 4), (⟨"FarHeaps$Trial", "letGo", "(LFarHeaps$Node;LFarHeaps$Post;)V"⟩, 4)]
theorem lw_r3 : ∀ q ∈ lw_privs_3, lw_okq q := List.forall_mem_cons.mpr ⟨lw_p32, List.forall_mem_cons.mpr ⟨lw_p33, List.forall_mem_cons.mpr ⟨lw_p34, List.forall_mem_cons.mpr ⟨lw_p35, List.forall_mem_cons.mpr ⟨lw_p36, List.forall_mem_cons.mpr ⟨lw_p37, List.forall_mem_cons.mpr ⟨lw_p38, List.forall_mem_cons.mpr ⟨lw_p39, List.forall_mem_cons.mpr ⟨lw_p40, List.forall_mem_cons.mpr ⟨lw_p41, List.forall_mem_cons.mpr ⟨lw_p42, List.forall_mem_cons.mpr ⟨lw_p43, List.forall_mem_cons.mpr ⟨lw_p44, List.forall_mem_cons.mpr ⟨lw_p45, List.forall_mem_cons.mpr ⟨lw_p46, List.forall_mem_cons.mpr ⟨lw_p47, fun _ h => absurd h List.not_mem_nil⟩⟩⟩⟩⟩⟩⟩⟩⟩⟩⟩⟩⟩⟩⟩⟩
theorem lw_p48 : lw_okq (⟨"FarHeaps$Node", "tell", "(II)I"⟩, 12) := ⟨⟨by decide +kernel, by decide +kernel⟩, List.mem_of_getElem? (i := 26) (by decide +kernel), List.mem_of_getElem? (i := 489) (by decide +kernel), List.mem_of_getElem? (i := 490) (by decide +kernel)⟩
theorem lw_p49 : lw_okq (⟨"FarHeaps$Node", "objectAt", "(I)I"⟩, 12) := ⟨⟨by decide +kernel, by decide +kernel⟩, List.mem_of_getElem? (i := 26) (by decide +kernel), List.mem_of_getElem? (i := 504) (by decide +kernel), List.mem_of_getElem? (i := 505) (by decide +kernel)⟩
theorem lw_p50 : lw_okq (⟨"FarHeaps", "markHeld", "()V"⟩, 4) := ⟨⟨by decide +kernel, by decide +kernel⟩, List.mem_of_getElem? (i := 11) (by decide +kernel), List.mem_of_getElem? (i := 512) (by decide +kernel), List.mem_of_getElem? (i := 513) (by decide +kernel)⟩
theorem lw_p51 : lw_okq (⟨"FarHeaps$Post", "markRefs", "(LFarHeaps$Marks;)V"⟩, 2) := ⟨⟨by decide +kernel, by decide +kernel⟩, List.mem_of_getElem? (i := 89) (by decide +kernel), List.mem_of_getElem? (i := 518) (by decide +kernel), List.mem_of_getElem? (i := 519) (by decide +kernel)⟩
theorem lw_p52 : lw_okq (⟨"FarHeaps", "countOf", "(LFarHeaps$Node;I)I"⟩, 4) := ⟨⟨by decide +kernel, by decide +kernel⟩, List.mem_of_getElem? (i := 11) (by decide +kernel), List.mem_of_getElem? (i := 538) (by decide +kernel), List.mem_of_getElem? (i := 539) (by decide +kernel)⟩
theorem lw_p53 : lw_okq (⟨"FarHeaps$Node", "countExports", "()I"⟩, 12) := ⟨⟨by decide +kernel, by decide +kernel⟩, List.mem_of_getElem? (i := 26) (by decide +kernel), List.mem_of_getElem? (i := 542) (by decide +kernel), List.mem_of_getElem? (i := 543) (by decide +kernel)⟩
theorem lw_p54 : lw_okq (⟨"FarHeaps$Node", "countUnmarkedObjects", "(LFarHeaps$Marks;)I"⟩, 12) := ⟨⟨by decide +kernel, by decide +kernel⟩, List.mem_of_getElem? (i := 26) (by decide +kernel), List.mem_of_getElem? (i := 546) (by decide +kernel), List.mem_of_getElem? (i := 547) (by decide +kernel)⟩
theorem lw_p55 : lw_okq (⟨"FarHeaps$Post", "countTo", "(I)I"⟩, 2) := ⟨⟨by decide +kernel, by decide +kernel⟩, List.mem_of_getElem? (i := 89) (by decide +kernel), List.mem_of_getElem? (i := 550) (by decide +kernel), List.mem_of_getElem? (i := 551) (by decide +kernel)⟩
theorem lw_p56 : lw_okq (⟨"FarHeaps", "weightsOf", "(I)I"⟩, 4) := ⟨⟨by decide +kernel, by decide +kernel⟩, List.mem_of_getElem? (i := 11) (by decide +kernel), List.mem_of_getElem? (i := 558) (by decide +kernel), List.mem_of_getElem? (i := 559) (by decide +kernel)⟩
theorem lw_p57 : lw_okq (⟨"FarHeaps$Post", "weightOf", "(I)I"⟩, 2) := ⟨⟨by decide +kernel, by decide +kernel⟩, List.mem_of_getElem? (i := 89) (by decide +kernel), List.mem_of_getElem? (i := 562) (by decide +kernel), List.mem_of_getElem? (i := 563) (by decide +kernel)⟩
theorem lw_p58 : lw_okq (⟨"FarHeapsModel", "isRegister", "(II)Z"⟩, 28) := ⟨⟨by decide +kernel, by decide +kernel⟩, List.mem_of_getElem? (i := 569) (by decide +kernel), List.mem_of_getElem? (i := 663) (by decide +kernel), List.mem_of_getElem? (i := 664) (by decide +kernel)⟩
theorem lw_p59 : lw_okq (⟨"FarHeapsModel", "isNode", "(I)Z"⟩, 28) := ⟨⟨by decide +kernel, by decide +kernel⟩, List.mem_of_getElem? (i := 569) (by decide +kernel), List.mem_of_getElem? (i := 667) (by decide +kernel), List.mem_of_getElem? (i := 668) (by decide +kernel)⟩
theorem lw_p60 : lw_okq (⟨"FarHeapsModel", "isField", "(III)Z"⟩, 28) := ⟨⟨by decide +kernel, by decide +kernel⟩, List.mem_of_getElem? (i := 569) (by decide +kernel), List.mem_of_getElem? (i := 675) (by decide +kernel), List.mem_of_getElem? (i := 676) (by decide +kernel)⟩
theorem lw_p61 : lw_okq (⟨"FarHeapsModel", "local", "(II)I"⟩, 28) := ⟨⟨by decide +kernel, by decide +kernel⟩, List.mem_of_getElem? (i := 569) (by decide +kernel), List.mem_of_getElem? (i := 679) (by decide +kernel), List.mem_of_getElem? (i := 680) (by decide +kernel)⟩
theorem lw_p62 : lw_okq (⟨"FarHeapsModel", "holds", "(IIII)V"⟩, 28) := ⟨⟨by decide +kernel, by decide +kernel⟩, List.mem_of_getElem? (i := 569) (by decide +kernel), List.mem_of_getElem? (i := 691) (by decide +kernel), List.mem_of_getElem? (i := 692) (by decide +kernel)⟩
theorem lw_p63 : lw_okq (⟨"FarHeapsModel", "sends", "(IIIIII)V"⟩, 28) := ⟨⟨by decide +kernel, by decide +kernel⟩, List.mem_of_getElem? (i := 569) (by decide +kernel), List.mem_of_getElem? (i := 703) (by decide +kernel), List.mem_of_getElem? (i := 704) (by decide +kernel)⟩
def lw_privs_4 : List (MethodName × Nat) := [(⟨"FarHeaps$Node", "tell", "(II)I"⟩, 12), (⟨"FarHeaps$Node", "objectAt", "(I)I"⟩, 12), (⟨"FarHeaps", "markHeld", "()V"⟩, 4), (⟨"FarHeaps$Post", "markRefs", "(LFarHeaps$Marks;)V"⟩, 2), (⟨"FarHeaps", "countOf", "(LFarHeaps$Node;I)I"⟩, 4), (⟨"FarHeaps$Node", "countExports", "()I"⟩, 12), (⟨"FarHeaps$Node", "countUnmarkedObjects", "(LFarHeaps$Marks;)I"⟩, 12), (⟨"FarHeaps$Post", "countTo", "(I)I"⟩, 2), (⟨"FarHeaps", "weightsOf", "(I)I"⟩, 4), (⟨"FarHeaps$Post", "weightOf", "(I)I"⟩, 2), (⟨"FarHeapsModel", "isRegister", "(II)Z"⟩, 28), (⟨"FarHeapsModel", "isNode", "(I)Z"⟩, 28), (⟨"FarHeapsModel", "isField", "(III)Z"⟩, 28), (⟨"FarHeapsModel", "local", "(II)I"⟩, 28), (⟨"FarHeapsModel", "holds", "(IIII)V"⟩, 28), (⟨"FarHeapsModel", "sends", "(IIIIII)V"⟩, 28)]
theorem lw_r4 : ∀ q ∈ lw_privs_4, lw_okq q := List.forall_mem_cons.mpr ⟨lw_p48, List.forall_mem_cons.mpr ⟨lw_p49, List.forall_mem_cons.mpr ⟨lw_p50, List.forall_mem_cons.mpr ⟨lw_p51, List.forall_mem_cons.mpr ⟨lw_p52, List.forall_mem_cons.mpr ⟨lw_p53, List.forall_mem_cons.mpr ⟨lw_p54, List.forall_mem_cons.mpr ⟨lw_p55, List.forall_mem_cons.mpr ⟨lw_p56, List.forall_mem_cons.mpr ⟨lw_p57, List.forall_mem_cons.mpr ⟨lw_p58, List.forall_mem_cons.mpr ⟨lw_p59, List.forall_mem_cons.mpr ⟨lw_p60, List.forall_mem_cons.mpr ⟨lw_p61, List.forall_mem_cons.mpr ⟨lw_p62, List.forall_mem_cons.mpr ⟨lw_p63, fun _ h => absurd h List.not_mem_nil⟩⟩⟩⟩⟩⟩⟩⟩⟩⟩⟩⟩⟩⟩⟩⟩
theorem lw_p64 : lw_okq (⟨"FarHeapsModel", "firstOf", "(II)I"⟩, 28) := ⟨⟨by decide +kernel, by decide +kernel⟩, List.mem_of_getElem? (i := 569) (by decide +kernel), List.mem_of_getElem? (i := 715) (by decide +kernel), List.mem_of_getElem? (i := 716) (by decide +kernel)⟩
theorem lw_p65 : lw_okq (⟨"FarHeapsModel", "stays", "(I)Z"⟩, 28) := ⟨⟨by decide +kernel, by decide +kernel⟩, List.mem_of_getElem? (i := 569) (by decide +kernel), List.mem_of_getElem? (i := 719) (by decide +kernel), List.mem_of_getElem? (i := 720) (by decide +kernel)⟩
theorem lw_p66 : lw_okq (⟨"FarHeapsModel", "importsOf", "(I)I"⟩, 28) := ⟨⟨by decide +kernel, by decide +kernel⟩, List.mem_of_getElem? (i := 569) (by decide +kernel), List.mem_of_getElem? (i := 723) (by decide +kernel), List.mem_of_getElem? (i := 724) (by decide +kernel)⟩
theorem lw_p67 : lw_okq (⟨"FarHeapsModel", "comes", "(I)V"⟩, 28) := ⟨⟨by decide +kernel, by decide +kernel⟩, List.mem_of_getElem? (i := 569) (by decide +kernel), List.mem_of_getElem? (i := 727) (by decide +kernel), List.mem_of_getElem? (i := 728) (by decide +kernel)⟩
theorem lw_p68 : lw_okq (⟨"FarHeapsModel", "takes", "(I)V"⟩, 28) := ⟨⟨by decide +kernel, by decide +kernel⟩, List.mem_of_getElem? (i := 569) (by decide +kernel), List.mem_of_getElem? (i := 731) (by decide +kernel), List.mem_of_getElem? (i := 732) (by decide +kernel)⟩
theorem lw_p69 : lw_okq (⟨"FarHeapsModel", "drains", "(I)I"⟩, 28) := ⟨⟨by decide +kernel, by decide +kernel⟩, List.mem_of_getElem? (i := 569) (by decide +kernel), List.mem_of_getElem? (i := 739) (by decide +kernel), List.mem_of_getElem? (i := 740) (by decide +kernel)⟩
theorem lw_p70 : lw_okq (⟨"FarHeapsModel", "collects", "(I)I"⟩, 28) := ⟨⟨by decide +kernel, by decide +kernel⟩, List.mem_of_getElem? (i := 569) (by decide +kernel), List.mem_of_getElem? (i := 747) (by decide +kernel), List.mem_of_getElem? (i := 748) (by decide +kernel)⟩
theorem lw_p71 : lw_okq (⟨"FarHeapsModel", "marks", "(III)V"⟩, 28) := ⟨⟨by decide +kernel, by decide +kernel⟩, List.mem_of_getElem? (i := 569) (by decide +kernel), List.mem_of_getElem? (i := 751) (by decide +kernel), List.mem_of_getElem? (i := 752) (by decide +kernel)⟩
theorem lw_p72 : lw_okq (⟨"FarHeapsModel", "slides", "(I)V"⟩, 28) := ⟨⟨by decide +kernel, by decide +kernel⟩, List.mem_of_getElem? (i := 569) (by decide +kernel), List.mem_of_getElem? (i := 755) (by decide +kernel), List.mem_of_getElem? (i := 756) (by decide +kernel)⟩
theorem lw_p73 : lw_okq (⟨"FarHeapsModel", "givesBack", "(II)V"⟩, 28) := ⟨⟨by decide +kernel, by decide +kernel⟩, List.mem_of_getElem? (i := 569) (by decide +kernel), List.mem_of_getElem? (i := 759) (by decide +kernel), List.mem_of_getElem? (i := 760) (by decide +kernel)⟩
theorem lw_p74 : lw_okq (⟨"FarHeapsModel", "isObject", "(II)Z"⟩, 28) := ⟨⟨by decide +kernel, by decide +kernel⟩, List.mem_of_getElem? (i := 569) (by decide +kernel), List.mem_of_getElem? (i := 767) (by decide +kernel), List.mem_of_getElem? (i := 768) (by decide +kernel)⟩
theorem lw_p75 : lw_okq (⟨"FarHeapsModel", "tries", "(I)I"⟩, 28) := ⟨⟨by decide +kernel, by decide +kernel⟩, List.mem_of_getElem? (i := 569) (by decide +kernel), List.mem_of_getElem? (i := 771) (by decide +kernel), List.mem_of_getElem? (i := 772) (by decide +kernel)⟩
theorem lw_p76 : lw_okq (⟨"FarHeapsModel", "grays", "(I)V"⟩, 28) := ⟨⟨by decide +kernel, by decide +kernel⟩, List.mem_of_getElem? (i := 569) (by decide +kernel), List.mem_of_getElem? (i := 775) (by decide +kernel), List.mem_of_getElem? (i := 776) (by decide +kernel)⟩
theorem lw_p77 : lw_okq (⟨"FarHeapsModel", "judges", "()V"⟩, 28) := ⟨⟨by decide +kernel, by decide +kernel⟩, List.mem_of_getElem? (i := 569) (by decide +kernel), List.mem_of_getElem? (i := 779) (by decide +kernel), List.mem_of_getElem? (i := 780) (by decide +kernel)⟩
theorem lw_p78 : lw_okq (⟨"FarHeapsModel", "grows", "()Z"⟩, 28) := ⟨⟨by decide +kernel, by decide +kernel⟩, List.mem_of_getElem? (i := 569) (by decide +kernel), List.mem_of_getElem? (i := 783) (by decide +kernel), List.mem_of_getElem? (i := 784) (by decide +kernel)⟩
theorem lw_p79 : lw_okq (⟨"FarHeapsModel", "goesOut", "(I)Z"⟩, 28) := ⟨⟨by decide +kernel, by decide +kernel⟩, List.mem_of_getElem? (i := 569) (by decide +kernel), List.mem_of_getElem? (i := 787) (by decide +kernel), List.mem_of_getElem? (i := 788) (by decide +kernel)⟩
def lw_privs_5 : List (MethodName × Nat) := [(⟨"FarHeapsModel", "firstOf", "(II)I"⟩, 28), (⟨"FarHeapsModel", "stays", "(I)Z"⟩, 28), (⟨"FarHeapsModel", "importsOf", "(I)I"⟩, 28), (⟨"FarHeapsModel", "comes", "(I)V"⟩, 28), (⟨"FarHeapsModel", "takes", "(I)V"⟩, 28), (⟨"FarHeapsModel", "drains", "(I)I"⟩, 28), (⟨"FarHeapsModel", "collects", "(I)I"⟩, 28), (⟨"FarHeapsModel", "marks", "(III)V"⟩, 28), (⟨"FarHeapsModel", "slides", "(I)V"⟩, 28), (⟨"FarHeapsModel", "givesBack", "(II)V"⟩, 28), (⟨"FarHeapsModel", "isObject", "(II)Z"⟩, 28), (⟨"FarHeapsModel", "tries", "(I)I"⟩, 28), (⟨"FarHeapsModel", "grays", "(I)V"⟩, 28), (⟨"FarHeapsModel", "judges", "()V"⟩, 28), (⟨"FarHeapsModel", "grows", "()Z"⟩, 28), (⟨"FarHeapsModel", "goesOut", "(I)Z"⟩, 28)]
theorem lw_r5 : ∀ q ∈ lw_privs_5, lw_okq q := List.forall_mem_cons.mpr ⟨lw_p64, List.forall_mem_cons.mpr ⟨lw_p65, List.forall_mem_cons.mpr ⟨lw_p66, List.forall_mem_cons.mpr ⟨lw_p67, List.forall_mem_cons.mpr ⟨lw_p68, List.forall_mem_cons.mpr ⟨lw_p69, List.forall_mem_cons.mpr ⟨lw_p70, List.forall_mem_cons.mpr ⟨lw_p71, List.forall_mem_cons.mpr ⟨lw_p72, List.forall_mem_cons.mpr ⟨lw_p73, List.forall_mem_cons.mpr ⟨lw_p74, List.forall_mem_cons.mpr ⟨lw_p75, List.forall_mem_cons.mpr ⟨lw_p76, List.forall_mem_cons.mpr ⟨lw_p77, List.forall_mem_cons.mpr ⟨lw_p78, List.forall_mem_cons.mpr ⟨lw_p79, fun _ h => absurd h List.not_mem_nil⟩⟩⟩⟩⟩⟩⟩⟩⟩⟩⟩⟩⟩⟩⟩⟩
theorem lw_p80 : lw_okq (⟨"FarHeapsModel", "settles", "()I"⟩, 28) := ⟨⟨by decide +kernel, by decide +kernel⟩, List.mem_of_getElem? (i := 569) (by decide +kernel), List.mem_of_getElem? (i := 795) (by decide +kernel), List.mem_of_getElem? (i := 796) (by decide +kernel)⟩
theorem lw_p81 : lw_okq (⟨"FarHeapsModel", "hold", "()V"⟩, 28) := ⟨⟨by decide +kernel, by decide +kernel⟩, List.mem_of_getElem? (i := 569) (by decide +kernel), List.mem_of_getElem? (i := 822) (by decide +kernel), List.mem_of_getElem? (i := 823) (by decide +kernel)⟩
theorem lw_p82 : lw_okq (⟨"FarHeapsModel", "reaches", "(I)V"⟩, 28) := ⟨⟨by decide +kernel, by decide +kernel⟩, List.mem_of_getElem? (i := 569) (by decide +kernel), List.mem_of_getElem? (i := 826) (by decide +kernel), List.mem_of_getElem? (i := 827) (by decide +kernel)⟩
def lw_privs_6 : List (MethodName × Nat) := [(⟨"FarHeapsModel", "settles", "()I"⟩, 28), (⟨"FarHeapsModel", "hold", "()V"⟩, 28), (⟨"FarHeapsModel", "reaches", "(I)V"⟩, 28)]
theorem lw_r6 : ∀ q ∈ lw_privs_6, lw_okq q := List.forall_mem_cons.mpr ⟨lw_p80, List.forall_mem_cons.mpr ⟨lw_p81, List.forall_mem_cons.mpr ⟨lw_p82, fun _ h => absurd h List.not_mem_nil⟩⟩⟩
def lw_privs : List (MethodName × Nat) := lw_privs_1 ++ (lw_privs_2 ++ (lw_privs_3 ++ (lw_privs_4 ++ (lw_privs_5 ++ (lw_privs_6)))))
def lw_tbl : List Cond := k2_sels lw_privs ++ tables_1
theorem lw_privs_ok : ∀ q ∈ lw_privs, lw_okq q := by
  show ∀ q ∈ lw_privs_1 ++ (lw_privs_2 ++ (lw_privs_3 ++ (lw_privs_4 ++ (lw_privs_5 ++ (lw_privs_6))))), lw_okq q
  exact List.forall_mem_append.mpr ⟨lw_r1, List.forall_mem_append.mpr ⟨lw_r2, List.forall_mem_append.mpr ⟨lw_r3, List.forall_mem_append.mpr ⟨lw_r4, List.forall_mem_append.mpr ⟨lw_r5, lw_r6⟩⟩⟩⟩⟩

def RX0 : String := "FarHeaps$Letter"
def TX0 : u_T := fun k => match k with
  | 0 => ("FarHeaps$Letter", "kind", "I", false)
  | 1 => ("FarHeaps$Letter", "from", "I", false)
  | 2 => ("FarHeaps$Letter", "to", "I", false)
  | 3 => ("FarHeaps$Letter", "id", "I", false)
  | 4 => ("FarHeaps$Letter", "weight", "I", false)
  | _ => ("FarHeaps$Letter", "register", "I", false)
def tyX0 : Nat → FieldType := fun k => match k with
  | 0 => .int
  | 1 => .int
  | 2 => .int
  | 3 => .int
  | 4 => .int
  | _ => .int
abbrev wsX00 : List Cond := u_ws RX0 TX0 6
theorem nmX0 : ∀ a, a < 6 → ∀ b, b < 6 → a ≠ b → (TX0 a).2.1 ≠ (TX0 b).2.1 := by decide +kernel
theorem tyX0_ok : ∀ k, k < 6 → parseFieldDescriptor (TX0 k).2.2.1 = some (tyX0 k) := by decide +kernel
abbrev cX0_init : ByteArray := prog_2_method_1_code
def yX0_init : MethodName := ⟨RX0, "<init>", "()V"⟩
def RX1 : String := "FarHeaps$Marks"
def TX1 : u_T := fun k => match k with
  | 0 => ("FarHeaps$Marks", "marked", "[Z", true)
  | 1 => ("FarHeaps$Marks", "row", "[I", true)
  | 2 => ("FarHeaps$Marks", "size", "I", false)
  | _ => ("FarHeaps$Marks", "spreadSoFar", "I", false)
def tyX1 : Nat → FieldType := fun k => match k with
  | 0 => .array .boolean
  | 1 => .array .int
  | 2 => .int
  | _ => .int
abbrev wsX10 : List Cond := u_ws RX1 TX1 4
theorem nmX1 : ∀ a, a < 4 → ∀ b, b < 4 → a ≠ b → (TX1 a).2.1 ≠ (TX1 b).2.1 := by decide +kernel
theorem tyX1_ok : ∀ k, k < 4 → parseFieldDescriptor (TX1 k).2.2.1 = some (tyX1 k) := by decide +kernel
abbrev cX1_init : ByteArray := prog_3_method_1_code
def yX1_init : MethodName := ⟨RX1, "<init>", "()V"⟩
abbrev cX1_clear : ByteArray := prog_3_method_2_code
def yX1_clear : MethodName := ⟨RX1, "clear", "()V"⟩
abbrev cX1_has : ByteArray := prog_3_method_3_code
def yX1_has : MethodName := ⟨RX1, "has", "(I)Z"⟩
abbrev cX1_add : ByteArray := prog_3_method_4_code
def yX1_add : MethodName := ⟨RX1, "add", "(I)V"⟩
abbrev cX1_spread : ByteArray := prog_3_method_5_code
def yX1_spread : MethodName := ⟨RX1, "spread", "([LFarHeaps$Node;)V"⟩
def RX2 : String := "FarHeaps$Node"
def TX2 : u_T := fun k => match k with
  | 0 => ("FarHeaps$Node", "index", "I", true)
  | 1 => ("FarHeaps$Node", "kinds", "[I", true)
  | 2 => ("FarHeaps$Node", "contents", "[I", true)
  | 3 => ("FarHeaps$Node", "sizes", "[I", true)
  | 4 => ("FarHeaps$Node", "addresses", "[I", true)
  | 5 => ("FarHeaps$Node", "totals", "[I", true)
  | 6 => ("FarHeaps$Node", "weights", "[I", true)
  | 7 => ("FarHeaps$Node", "order", "[I", true)
  | 8 => ("FarHeaps$Node", "objects", "I", false)
  | 9 => ("FarHeaps$Node", "imports", "I", false)
  | 10 => ("FarHeaps$Node", "top", "I", false)
  | _ => ("FarHeaps$Node", "moved", "I", false)
def tyX2 : Nat → FieldType := fun k => match k with
  | 0 => .int
  | 1 => .array .int
  | 2 => .array .int
  | 3 => .array .int
  | 4 => .array .int
  | 5 => .array .int
  | 6 => .array .int
  | 7 => .array .int
  | 8 => .int
  | 9 => .int
  | 10 => .int
  | _ => .int
abbrev wsX20 : List Cond := u_ws RX2 TX2 12
theorem nmX2 : ∀ a, a < 12 → ∀ b, b < 12 → a ≠ b → (TX2 a).2.1 ≠ (TX2 b).2.1 := by decide +kernel
theorem tyX2_ok : ∀ k, k < 12 → parseFieldDescriptor (TX2 k).2.2.1 = some (tyX2 k) := by decide +kernel
abbrev cX2_init : ByteArray := prog_4_method_1_code
def yX2_init : MethodName := ⟨RX2, "<init>", "(I)V"⟩
abbrev cX2_hasObject : ByteArray := prog_4_method_2_code
def yX2_hasObject : MethodName := ⟨RX2, "hasObject", "(I)Z"⟩
abbrev cX2_hasField : ByteArray := prog_4_method_3_code
def yX2_hasField : MethodName := ⟨RX2, "hasField", "(II)Z"⟩
abbrev cX2_freeNumber : ByteArray := prog_4_method_4_code
def yX2_freeNumber : MethodName := ⟨RX2, "freeNumber", "()I"⟩
abbrev cX2_hasRoom : ByteArray := prog_4_method_5_code
def yX2_hasRoom : MethodName := ⟨RX2, "hasRoom", "(I)Z"⟩
abbrev cX2_lay : ByteArray := prog_4_method_6_code
def yX2_lay : MethodName := ⟨RX2, "lay", "(II)V"⟩
abbrev cX2_objectAt : ByteArray := prog_4_method_7_code
def yX2_objectAt : MethodName := ⟨RX2, "objectAt", "(I)I"⟩
abbrev cX2_fill : ByteArray := prog_4_method_8_code
def yX2_fill : MethodName := ⟨RX2, "fill", "(III)V"⟩
abbrev cX2_empty : ByteArray := prog_4_method_9_code
def yX2_empty : MethodName := ⟨RX2, "empty", "(I)V"⟩
abbrev cX2_copy : ByteArray := prog_4_method_10_code
def yX2_copy : MethodName := ⟨RX2, "copy", "(II)V"⟩
abbrev cX2_holdsObject : ByteArray := prog_4_method_11_code
def yX2_holdsObject : MethodName := ⟨RX2, "holdsObject", "(I)Z"⟩
abbrev cX2_tell : ByteArray := prog_4_method_12_code
def yX2_tell : MethodName := ⟨RX2, "tell", "(II)I"⟩
abbrev cX2_emptyFields : ByteArray := prog_4_method_13_code
def yX2_emptyFields : MethodName := ⟨RX2, "emptyFields", "(I)V"⟩
abbrev cX2_changeTotal : ByteArray := prog_4_method_14_code
def yX2_changeTotal : MethodName := ⟨RX2, "changeTotal", "(II)V"⟩
abbrev cX2_weightOfImport : ByteArray := prog_4_method_15_code
def yX2_weightOfImport : MethodName := ⟨RX2, "weightOfImport", "(I)I"⟩
abbrev cX2_changeWeight : ByteArray := prog_4_method_16_code
def yX2_changeWeight : MethodName := ⟨RX2, "changeWeight", "(II)V"⟩
abbrev cX2_splitOff : ByteArray := prog_4_method_17_code
def yX2_splitOff : MethodName := ⟨RX2, "splitOff", "(I)I"⟩
abbrev cX2_canTake : ByteArray := prog_4_method_18_code
def yX2_canTake : MethodName := ⟨RX2, "canTake", "(I)Z"⟩
abbrev cX2_takeRef : ByteArray := prog_4_method_19_code
def yX2_takeRef : MethodName := ⟨RX2, "takeRef", "(III)V"⟩
abbrev cX2_giveBack : ByteArray := prog_4_method_20_code
def yX2_giveBack : MethodName := ⟨RX2, "giveBack", "(ILFarHeaps$Post;)V"⟩
abbrev cX2_markRegisters : ByteArray := prog_4_method_21_code
def yX2_markRegisters : MethodName := ⟨RX2, "markRegisters", "(LFarHeaps$Marks;)V"⟩
abbrev cX2_markFields : ByteArray := prog_4_method_22_code
def yX2_markFields : MethodName := ⟨RX2, "markFields", "(ILFarHeaps$Marks;)V"⟩
abbrev cX2_markLive : ByteArray := prog_4_method_23_code
def yX2_markLive : MethodName := ⟨RX2, "markLive", "(LFarHeaps$Marks;)V"⟩
abbrev cX2_countUnmarkedImports : ByteArray := prog_4_method_24_code
def yX2_countUnmarkedImports : MethodName := ⟨RX2, "countUnmarkedImports", "(LFarHeaps$Marks;)I"⟩
abbrev cX2_giveBackUnmarked : ByteArray := prog_4_method_25_code
def yX2_giveBackUnmarked : MethodName := ⟨RX2, "giveBackUnmarked", "(LFarHeaps$Marks;LFarHeaps$Post;)V"⟩
abbrev cX2_sweep : ByteArray := prog_4_method_26_code
def yX2_sweep : MethodName := ⟨RX2, "sweep", "(LFarHeaps$Marks;)I"⟩
abbrev cX2_moveTo : ByteArray := prog_4_method_27_code
def yX2_moveTo : MethodName := ⟨RX2, "moveTo", "(II)V"⟩
abbrev cX2_countExports : ByteArray := prog_4_method_28_code
def yX2_countExports : MethodName := ⟨RX2, "countExports", "()I"⟩
abbrev cX2_countUnmarkedObjects : ByteArray := prog_4_method_29_code
def yX2_countUnmarkedObjects : MethodName := ⟨RX2, "countUnmarkedObjects", "(LFarHeaps$Marks;)I"⟩
def RX3 : String := "FarHeaps$Post"
def TX3 : u_T := fun k => match k with
  | 0 => ("FarHeaps$Post", "letters", "[LFarHeaps$Letter;", true)
  | _ => ("FarHeaps$Post", "size", "I", false)
def tyX3 : Nat → FieldType := fun k => match k with
  | 0 => .array (.object "FarHeaps$Letter")
  | _ => .int
abbrev wsX30 : List Cond := u_ws RX3 TX3 2
theorem nmX3 : ∀ a, a < 2 → ∀ b, b < 2 → a ≠ b → (TX3 a).2.1 ≠ (TX3 b).2.1 := by decide +kernel
theorem tyX3_ok : ∀ k, k < 2 → parseFieldDescriptor (TX3 k).2.2.1 = some (tyX3 k) := by decide +kernel
abbrev cX3_init : ByteArray := prog_5_method_1_code
def yX3_init : MethodName := ⟨RX3, "<init>", "()V"⟩
abbrev cX3_isFull : ByteArray := prog_5_method_2_code
def yX3_isFull : MethodName := ⟨RX3, "isFull", "()Z"⟩
abbrev cX3_put : ByteArray := prog_5_method_3_code
def yX3_put : MethodName := ⟨RX3, "put", "(IIIIII)V"⟩
abbrev cX3_find : ByteArray := prog_5_method_4_code
def yX3_find : MethodName := ⟨RX3, "find", "(III)LFarHeaps$Letter;"⟩
abbrev cX3_remove : ByteArray := prog_5_method_5_code
def yX3_remove : MethodName := ⟨RX3, "remove", "(LFarHeaps$Letter;)V"⟩
abbrev cX3_markRefs : ByteArray := prog_5_method_6_code
def yX3_markRefs : MethodName := ⟨RX3, "markRefs", "(LFarHeaps$Marks;)V"⟩
abbrev cX3_countTo : ByteArray := prog_5_method_7_code
def yX3_countTo : MethodName := ⟨RX3, "countTo", "(I)I"⟩
abbrev cX3_weightOf : ByteArray := prog_5_method_8_code
def yX3_weightOf : MethodName := ⟨RX3, "weightOf", "(I)I"⟩
def RX4 : String := "FarHeaps$Trial"
def TX4 : u_T := fun k => match k with
  | 0 => ("FarHeaps$Trial", "gray", "LFarHeaps$Marks;", true)
  | 1 => ("FarHeaps$Trial", "without", "LFarHeaps$Marks;", true)
  | 2 => ("FarHeaps$Trial", "holders", "[I", true)
  | _ => ("FarHeaps$Trial", "innerWeights", "[I", true)
def tyX4 : Nat → FieldType := fun k => match k with
  | 0 => .object "FarHeaps$Marks"
  | 1 => .object "FarHeaps$Marks"
  | 2 => .array .int
  | _ => .array .int
abbrev wsX40 : List Cond := u_ws RX4 TX4 4
theorem nmX4 : ∀ a, a < 4 → ∀ b, b < 4 → a ≠ b → (TX4 a).2.1 ≠ (TX4 b).2.1 := by decide +kernel
theorem tyX4_ok : ∀ k, k < 4 → parseFieldDescriptor (TX4 k).2.2.1 = some (tyX4 k) := by decide +kernel
abbrev cX4_init : ByteArray := prog_6_method_1_code
def yX4_init : MethodName := ⟨RX4, "<init>", "()V"⟩
abbrev cX4_run : ByteArray := prog_6_method_2_code
def yX4_run : MethodName := ⟨RX4, "run", "([LFarHeaps$Node;ILFarHeaps$Post;)I"⟩
abbrev cX4_findWithout : ByteArray := prog_6_method_3_code
def yX4_findWithout : MethodName := ⟨RX4, "findWithout", "([LFarHeaps$Node;I)V"⟩
abbrev cX4_markHeldFromOutside : ByteArray := prog_6_method_4_code
def yX4_markHeldFromOutside : MethodName := ⟨RX4, "markHeldFromOutside", "(LFarHeaps$Node;)V"⟩
abbrev cX4_markLocalGray : ByteArray := prog_6_method_5_code
def yX4_markLocalGray : MethodName := ⟨RX4, "markLocalGray", "(LFarHeaps$Node;I)V"⟩
abbrev cX4_markUncovered : ByteArray := prog_6_method_6_code
def yX4_markUncovered : MethodName := ⟨RX4, "markUncovered", "([LFarHeaps$Node;)Z"⟩
abbrev cX4_sumInnerWeights : ByteArray := prog_6_method_7_code
def yX4_sumInnerWeights : MethodName := ⟨RX4, "sumInnerWeights", "([LFarHeaps$Node;)V"⟩
abbrev cX4_countInner : ByteArray := prog_6_method_8_code
def yX4_countInner : MethodName := ⟨RX4, "countInner", "([LFarHeaps$Node;)I"⟩
abbrev cX4_findHolders : ByteArray := prog_6_method_9_code
def yX4_findHolders : MethodName := ⟨RX4, "findHolders", "(LFarHeaps$Node;)V"⟩
abbrev cX4_noteHolder : ByteArray := prog_6_method_10_code
def yX4_noteHolder : MethodName := ⟨RX4, "noteHolder", "(LFarHeaps$Node;II)V"⟩
abbrev cX4_isLetGo : ByteArray := prog_6_method_11_code
def yX4_isLetGo : MethodName := ⟨RX4, "isLetGo", "(LFarHeaps$Node;I)Z"⟩
abbrev cX4_letGo : ByteArray := prog_6_method_12_code
def yX4_letGo : MethodName := ⟨RX4, "letGo", "(LFarHeaps$Node;LFarHeaps$Post;)V"⟩
def RX5 : String := "FarHeaps"
def TX5 : u_T := fun k => match k with
  | 0 => ("FarHeaps", "nodes", "[LFarHeaps$Node;", true)
  | 1 => ("FarHeaps", "post", "LFarHeaps$Post;", true)
  | 2 => ("FarHeaps", "marks", "LFarHeaps$Marks;", true)
  | _ => ("FarHeaps", "trials", "LFarHeaps$Trial;", true)
def tyX5 : Nat → FieldType := fun k => match k with
  | 0 => .array (.object "FarHeaps$Node")
  | 1 => .object "FarHeaps$Post"
  | 2 => .object "FarHeaps$Marks"
  | _ => .object "FarHeaps$Trial"
abbrev wsX50 : List Cond := u_ws RX5 TX5 4
theorem nmX5 : ∀ a, a < 4 → ∀ b, b < 4 → a ≠ b → (TX5 a).2.1 ≠ (TX5 b).2.1 := by decide +kernel
theorem tyX5_ok : ∀ k, k < 4 → parseFieldDescriptor (TX5 k).2.2.1 = some (tyX5 k) := by decide +kernel
abbrev cX5_init : ByteArray := prog_1_method_1_code
def yX5_init : MethodName := ⟨RX5, "<init>", "(I)V"⟩
abbrev cX5_make : ByteArray := prog_1_method_2_code
def yX5_make : MethodName := ⟨RX5, "make", "(III)I"⟩
abbrev cX5_set : ByteArray := prog_1_method_3_code
def yX5_set : MethodName := ⟨RX5, "set", "(IIII)Z"⟩
abbrev cX5_get : ByteArray := prog_1_method_4_code
def yX5_get : MethodName := ⟨RX5, "get", "(IIII)Z"⟩
abbrev cX5_number : ByteArray := prog_1_method_5_code
def yX5_number : MethodName := ⟨RX5, "number", "(III)Z"⟩
abbrev cX5_drop : ByteArray := prog_1_method_6_code
def yX5_drop : MethodName := ⟨RX5, "drop", "(II)Z"⟩
abbrev cX5_send : ByteArray := prog_1_method_7_code
def yX5_send : MethodName := ⟨RX5, "send", "(IIII)I"⟩
abbrev cX5_ask : ByteArray := prog_1_method_8_code
def yX5_ask : MethodName := ⟨RX5, "ask", "(II)Z"⟩
abbrev cX5_come : ByteArray := prog_1_method_9_code
def yX5_come : MethodName := ⟨RX5, "come", "(II)I"⟩
abbrev cX5_drain : ByteArray := prog_1_method_10_code
def yX5_drain : MethodName := ⟨RX5, "drain", "(I)I"⟩
abbrev cX5_collect : ByteArray := prog_1_method_11_code
def yX5_collect : MethodName := ⟨RX5, "collect", "(I)I"⟩
abbrev cX5_trial : ByteArray := prog_1_method_12_code
def yX5_trial : MethodName := ⟨RX5, "trial", "(II)I"⟩
abbrev cX5_settle : ByteArray := prog_1_method_13_code
def yX5_settle : MethodName := ⟨RX5, "settle", "()I"⟩
abbrev cX5_pass : ByteArray := prog_1_method_14_code
def yX5_pass : MethodName := ⟨RX5, "pass", "()I"⟩
abbrev cX5_register : ByteArray := prog_1_method_15_code
def yX5_register : MethodName := ⟨RX5, "register", "(III)I"⟩
abbrev cX5_field : ByteArray := prog_1_method_16_code
def yX5_field : MethodName := ⟨RX5, "field", "(IIII)I"⟩
abbrev cX5_cell : ByteArray := prog_1_method_17_code
def yX5_cell : MethodName := ⟨RX5, "cell", "(III)I"⟩
abbrev cX5_object : ByteArray := prog_1_method_18_code
def yX5_object : MethodName := ⟨RX5, "object", "(III)I"⟩
abbrev cX5_weight : ByteArray := prog_1_method_19_code
def yX5_weight : MethodName := ⟨RX5, "weight", "(III)I"⟩
abbrev cX5_message : ByteArray := prog_1_method_20_code
def yX5_message : MethodName := ⟨RX5, "message", "(IIII)I"⟩
abbrev cX5_count : ByteArray := prog_1_method_21_code
def yX5_count : MethodName := ⟨RX5, "count", "(II)I"⟩
abbrev cX5_isEven : ByteArray := prog_1_method_22_code
def yX5_isEven : MethodName := ⟨RX5, "isEven", "()Z"⟩
abbrev cX5_idOf : ByteArray := prog_1_method_23_code
def yX5_idOf : MethodName := ⟨RX5, "idOf", "(II)I"⟩
abbrev cX5_isId : ByteArray := prog_1_method_24_code
def yX5_isId : MethodName := ⟨RX5, "isId", "(I)Z"⟩
abbrev cX5_nodeOf : ByteArray := prog_1_method_25_code
def yX5_nodeOf : MethodName := ⟨RX5, "nodeOf", "(I)I"⟩
abbrev cX5_numberOf : ByteArray := prog_1_method_26_code
def yX5_numberOf : MethodName := ⟨RX5, "numberOf", "(I)I"⟩
abbrev cX5_nameOf : ByteArray := prog_1_method_27_code
def yX5_nameOf : MethodName := ⟨RX5, "nameOf", "(I)I"⟩
abbrev cX5_fieldSlot : ByteArray := prog_1_method_28_code
def yX5_fieldSlot : MethodName := ⟨RX5, "fieldSlot", "(II)I"⟩
abbrev cX5_isRegister : ByteArray := prog_1_method_29_code
def yX5_isRegister : MethodName := ⟨RX5, "isRegister", "(I)Z"⟩
abbrev cX5_isNode : ByteArray := prog_1_method_30_code
def yX5_isNode : MethodName := ⟨RX5, "isNode", "(I)Z"⟩
abbrev cX5_isObject : ByteArray := prog_1_method_31_code
def yX5_isObject : MethodName := ⟨RX5, "isObject", "(II)Z"⟩
abbrev cX5_slotBehind : ByteArray := prog_1_method_32_code
def yX5_slotBehind : MethodName := ⟨RX5, "slotBehind", "(III)I"⟩
abbrev cX5_takeGrant : ByteArray := prog_1_method_33_code
def yX5_takeGrant : MethodName := ⟨RX5, "takeGrant", "(III)V"⟩
abbrev cX5_bringNext : ByteArray := prog_1_method_34_code
def yX5_bringNext : MethodName := ⟨RX5, "bringNext", "()Z"⟩
abbrev cX5_markHeld : ByteArray := prog_1_method_35_code
def yX5_markHeld : MethodName := ⟨RX5, "markHeld", "()V"⟩
abbrev cX5_countOf : ByteArray := prog_1_method_36_code
def yX5_countOf : MethodName := ⟨RX5, "countOf", "(LFarHeaps$Node;I)I"⟩
abbrev cX5_weightsOf : ByteArray := prog_1_method_37_code
def yX5_weightsOf : MethodName := ⟨RX5, "weightsOf", "(I)I"⟩
def RX6 : String := "FarHeapsModel"
def TX6 : u_T := fun k => match k with
  | 0 => ("FarHeapsModel", "thrown", "I", false)
  | 1 => ("FarHeapsModel", "nodes", "I", true)
  | 2 => ("FarHeapsModel", "size", "[I", true)
  | 3 => ("FarHeapsModel", "address", "[I", true)
  | 4 => ("FarHeapsModel", "total", "[I", true)
  | 5 => ("FarHeapsModel", "there", "[Z", true)
  | 6 => ("FarHeapsModel", "fieldKind", "[I", true)
  | 7 => ("FarHeapsModel", "fieldValue", "[I", true)
  | 8 => ("FarHeapsModel", "registerKind", "[I", true)
  | 9 => ("FarHeapsModel", "registerValue", "[I", true)
  | 10 => ("FarHeapsModel", "weight", "[I", true)
  | 11 => ("FarHeapsModel", "top", "[I", true)
  | 12 => ("FarHeapsModel", "moved", "[I", true)
  | 13 => ("FarHeapsModel", "messages", "I", false)
  | 14 => ("FarHeapsModel", "mFrom", "[I", true)
  | 15 => ("FarHeapsModel", "mTo", "[I", true)
  | 16 => ("FarHeapsModel", "mKind", "[I", true)
  | 17 => ("FarHeapsModel", "mObject", "[I", true)
  | 18 => ("FarHeapsModel", "mWeight", "[I", true)
  | 19 => ("FarHeapsModel", "mRegister", "[I", true)
  | 20 => ("FarHeapsModel", "marked", "[Z", true)
  | 21 => ("FarHeapsModel", "marksImport", "[Z", true)
  | 22 => ("FarHeapsModel", "waiting", "I", false)
  | 23 => ("FarHeapsModel", "waits", "[I", true)
  | 24 => ("FarHeapsModel", "gray", "[Z", true)
  | 25 => ("FarHeapsModel", "inner", "[Z", true)
  | 26 => ("FarHeapsModel", "outside", "[Z", true)
  | _ => ("FarHeapsModel", "held", "[Z", true)
def tyX6 : Nat → FieldType := fun k => match k with
  | 0 => .int
  | 1 => .int
  | 2 => .array .int
  | 3 => .array .int
  | 4 => .array .int
  | 5 => .array .boolean
  | 6 => .array .int
  | 7 => .array .int
  | 8 => .array .int
  | 9 => .array .int
  | 10 => .array .int
  | 11 => .array .int
  | 12 => .array .int
  | 13 => .int
  | 14 => .array .int
  | 15 => .array .int
  | 16 => .array .int
  | 17 => .array .int
  | 18 => .array .int
  | 19 => .array .int
  | 20 => .array .boolean
  | 21 => .array .boolean
  | 22 => .int
  | 23 => .array .int
  | 24 => .array .boolean
  | 25 => .array .boolean
  | 26 => .array .boolean
  | _ => .array .boolean
abbrev wsX60 : List Cond := u_ws RX6 TX6 28
theorem nmX6 : ∀ a, a < 28 → ∀ b, b < 28 → a ≠ b → (TX6 a).2.1 ≠ (TX6 b).2.1 := by decide +kernel
theorem tyX6_ok : ∀ k, k < 28 → parseFieldDescriptor (TX6 k).2.2.1 = some (tyX6 k) := by decide +kernel
abbrev cX6_init : ByteArray := prog_8_method_2_code
def yX6_init : MethodName := ⟨RX6, "<init>", "(I)V"⟩
abbrev cX6_isNode : ByteArray := prog_8_method_3_code
def yX6_isNode : MethodName := ⟨RX6, "isNode", "(I)Z"⟩
abbrev cX6_isRegister : ByteArray := prog_8_method_4_code
def yX6_isRegister : MethodName := ⟨RX6, "isRegister", "(II)Z"⟩
abbrev cX6_isObject : ByteArray := prog_8_method_5_code
def yX6_isObject : MethodName := ⟨RX6, "isObject", "(II)Z"⟩
abbrev cX6_local : ByteArray := prog_8_method_6_code
def yX6_local : MethodName := ⟨RX6, "local", "(II)I"⟩
abbrev cX6_make : ByteArray := prog_8_method_7_code
def yX6_make : MethodName := ⟨RX6, "make", "(III)I"⟩
abbrev cX6_isField : ByteArray := prog_8_method_8_code
def yX6_isField : MethodName := ⟨RX6, "isField", "(III)Z"⟩
abbrev cX6_set : ByteArray := prog_8_method_9_code
def yX6_set : MethodName := ⟨RX6, "set", "(IIII)Z"⟩
abbrev cX6_get : ByteArray := prog_8_method_10_code
def yX6_get : MethodName := ⟨RX6, "get", "(IIII)Z"⟩
abbrev cX6_holds : ByteArray := prog_8_method_11_code
def yX6_holds : MethodName := ⟨RX6, "holds", "(IIII)V"⟩
abbrev cX6_number : ByteArray := prog_8_method_12_code
def yX6_number : MethodName := ⟨RX6, "number", "(III)Z"⟩
abbrev cX6_drop : ByteArray := prog_8_method_13_code
def yX6_drop : MethodName := ⟨RX6, "drop", "(II)Z"⟩
abbrev cX6_sends : ByteArray := prog_8_method_14_code
def yX6_sends : MethodName := ⟨RX6, "sends", "(IIIIII)V"⟩
abbrev cX6_takes : ByteArray := prog_8_method_15_code
def yX6_takes : MethodName := ⟨RX6, "takes", "(I)V"⟩
abbrev cX6_send : ByteArray := prog_8_method_16_code
def yX6_send : MethodName := ⟨RX6, "send", "(IIII)I"⟩
abbrev cX6_ask : ByteArray := prog_8_method_17_code
def yX6_ask : MethodName := ⟨RX6, "ask", "(II)Z"⟩
abbrev cX6_importsOf : ByteArray := prog_8_method_18_code
def yX6_importsOf : MethodName := ⟨RX6, "importsOf", "(I)I"⟩
abbrev cX6_firstOf : ByteArray := prog_8_method_19_code
def yX6_firstOf : MethodName := ⟨RX6, "firstOf", "(II)I"⟩
abbrev cX6_stays : ByteArray := prog_8_method_20_code
def yX6_stays : MethodName := ⟨RX6, "stays", "(I)Z"⟩
abbrev cX6_comes : ByteArray := prog_8_method_21_code
def yX6_comes : MethodName := ⟨RX6, "comes", "(I)V"⟩
abbrev cX6_come : ByteArray := prog_8_method_22_code
def yX6_come : MethodName := ⟨RX6, "come", "(II)I"⟩
abbrev cX6_drains : ByteArray := prog_8_method_23_code
def yX6_drains : MethodName := ⟨RX6, "drains", "(I)I"⟩
abbrev cX6_drain : ByteArray := prog_8_method_24_code
def yX6_drain : MethodName := ⟨RX6, "drain", "(I)I"⟩
abbrev cX6_marks : ByteArray := prog_8_method_25_code
def yX6_marks : MethodName := ⟨RX6, "marks", "(III)V"⟩
abbrev cX6_collects : ByteArray := prog_8_method_26_code
def yX6_collects : MethodName := ⟨RX6, "collects", "(I)I"⟩
abbrev cX6_givesBack : ByteArray := prog_8_method_27_code
def yX6_givesBack : MethodName := ⟨RX6, "givesBack", "(II)V"⟩
abbrev cX6_slides : ByteArray := prog_8_method_28_code
def yX6_slides : MethodName := ⟨RX6, "slides", "(I)V"⟩
abbrev cX6_collect : ByteArray := prog_8_method_29_code
def yX6_collect : MethodName := ⟨RX6, "collect", "(I)I"⟩
abbrev cX6_grays : ByteArray := prog_8_method_30_code
def yX6_grays : MethodName := ⟨RX6, "grays", "(I)V"⟩
abbrev cX6_trial : ByteArray := prog_8_method_31_code
def yX6_trial : MethodName := ⟨RX6, "trial", "(II)I"⟩
abbrev cX6_tries : ByteArray := prog_8_method_32_code
def yX6_tries : MethodName := ⟨RX6, "tries", "(I)I"⟩
abbrev cX6_judges : ByteArray := prog_8_method_33_code
def yX6_judges : MethodName := ⟨RX6, "judges", "()V"⟩
abbrev cX6_goesOut : ByteArray := prog_8_method_34_code
def yX6_goesOut : MethodName := ⟨RX6, "goesOut", "(I)Z"⟩
abbrev cX6_grows : ByteArray := prog_8_method_35_code
def yX6_grows : MethodName := ⟨RX6, "grows", "()Z"⟩
abbrev cX6_settles : ByteArray := prog_8_method_36_code
def yX6_settles : MethodName := ⟨RX6, "settles", "()I"⟩
abbrev cX6_settle : ByteArray := prog_8_method_37_code
def yX6_settle : MethodName := ⟨RX6, "settle", "()I"⟩
abbrev cX6_pass : ByteArray := prog_8_method_38_code
def yX6_pass : MethodName := ⟨RX6, "pass", "()I"⟩
abbrev cX6_told : ByteArray := prog_8_method_39_code
def yX6_told : MethodName := ⟨RX6, "told", "(IIII)I"⟩
abbrev cX6_register : ByteArray := prog_8_method_40_code
def yX6_register : MethodName := ⟨RX6, "register", "(III)I"⟩
abbrev cX6_field : ByteArray := prog_8_method_41_code
def yX6_field : MethodName := ⟨RX6, "field", "(IIII)I"⟩
abbrev cX6_cell : ByteArray := prog_8_method_42_code
def yX6_cell : MethodName := ⟨RX6, "cell", "(III)I"⟩
abbrev cX6_reaches : ByteArray := prog_8_method_43_code
def yX6_reaches : MethodName := ⟨RX6, "reaches", "(I)V"⟩
abbrev cX6_hold : ByteArray := prog_8_method_44_code
def yX6_hold : MethodName := ⟨RX6, "hold", "()V"⟩
abbrev cX6_object : ByteArray := prog_8_method_45_code
def yX6_object : MethodName := ⟨RX6, "object", "(III)I"⟩
abbrev cX6_weight : ByteArray := prog_8_method_46_code
def yX6_weight : MethodName := ⟨RX6, "weight", "(III)I"⟩
abbrev cX6_message : ByteArray := prog_8_method_47_code
def yX6_message : MethodName := ⟨RX6, "message", "(IIII)I"⟩
abbrev cX6_count : ByteArray := prog_8_method_48_code
def yX6_count : MethodName := ⟨RX6, "count", "(II)I"⟩
abbrev cX6_isEven : ByteArray := prog_8_method_49_code
def yX6_isEven : MethodName := ⟨RX6, "isEven", "()Z"⟩
def RJ9 : String := "java/lang/Math"
def TJ9 : u_T := fun k => match k with
  | _ => ("", "", "", false)
def tyJ9 : Nat → FieldType := fun k => match k with
  | _ => .int
abbrev wsJ90 : List Cond := u_ws RJ9 TJ9 0
theorem nmJ9 : ∀ a, a < 0 → ∀ b, b < 0 → a ≠ b → (TJ9 a).2.1 ≠ (TJ9 b).2.1 := by decide +kernel
theorem tyJ9_ok : ∀ k, k < 0 → parseFieldDescriptor (TJ9 k).2.2.1 = some (tyJ9 k) := by decide +kernel
abbrev cJ9_max_7cf53 : ByteArray := prog_9_method_65_code
def yJ9_max_7cf53 : MethodName := ⟨RJ9, "max", "(II)I"⟩
abbrev cJ9_min_7cf53 : ByteArray := prog_9_method_69_code
def yJ9_min_7cf53 : MethodName := ⟨RJ9, "min", "(II)I"⟩
def RJ7 : String := "java/util/Arrays"
def TJ7 : u_T := fun k => match k with
  | _ => ("", "", "", false)
def tyJ7 : Nat → FieldType := fun k => match k with
  | _ => .int
abbrev wsJ70 : List Cond := u_ws RJ7 TJ7 0
theorem nmJ7 : ∀ a, a < 0 → ∀ b, b < 0 → a ≠ b → (TJ7 a).2.1 ≠ (TJ7 b).2.1 := by decide +kernel
theorem tyJ7_ok : ∀ k, k < 0 → parseFieldDescriptor (TJ7 k).2.2.1 = some (tyJ7 k) := by decide +kernel
abbrev cJ7_fill_53178 : ByteArray := prog_10_method_103_code
def yJ7_fill_53178 : MethodName := ⟨RJ7, "fill", "([II)V"⟩
def RL : String := "FarHeapsLaw"
abbrev cL_cell : ByteArray := method_2_code
def yL_cell : MethodName := ⟨RL, "cell", "([II)I"⟩
abbrev cL_law : ByteArray := code
def yL_law : MethodName := ⟨RL, "law", "([I)Z"⟩
abbrev vwCl : List vw_C := [(RX0, TX0, 6), (RX1, TX1, 4), (RX2, TX2, 12), (RX3, TX3, 2), (RX4, TX4, 4), (RX5, TX5, 4), (RX6, TX6, 28)]
