theorem jm1 {w : Cond} (i : Nat) (h : tables_1_1[i]? = some w) : w ∈ lw_tbl := List.mem_append_right _ (List.mem_append_left _ (List.mem_of_getElem? h))
theorem jm2 {w : Cond} (i : Nat) (h : tables_1_2[i]? = some w) : w ∈ lw_tbl := List.mem_append_right _ (List.mem_append_right _ (List.mem_append_left _ (List.mem_of_getElem? h)))
theorem jm3 {w : Cond} (i : Nat) (h : tables_1_3[i]? = some w) : w ∈ lw_tbl := List.mem_append_right _ (List.mem_append_right _ (List.mem_append_right _ (List.mem_append_left _ (List.mem_of_getElem? h))))
theorem jm4 {w : Cond} (i : Nat) (h : tables_1_4[i]? = some w) : w ∈ lw_tbl := List.mem_append_right _ (List.mem_append_right _ (List.mem_append_right _ (List.mem_append_right _ (List.mem_of_getElem? h))))
theorem jm0 {q : MethodName × Nat} (i : Nat) (h : lw_privs[i]? = some q) : Cond.selects q.1.cls q.1 q.1 ∈ lw_tbl := List.mem_append_left _ (List.mem_map.mpr ⟨q, List.mem_of_getElem? h, rfl⟩)
theorem in_X0 : ∀ w ∈ u_ws RX0 TX0 6, w ∈ jTB := by
  intro w hw
  obtain ⟨k, hk, rfl⟩ := List.mem_map.mp hw
  have hk := List.mem_range.mp hk
  match k, hk with
  | 0, _ => exact jtb (jm1 111 rfl) rfl
  | 1, _ => exact jtb (jm1 113 rfl) rfl
  | 2, _ => exact jtb (jm1 115 rfl) rfl
  | 3, _ => exact jtb (jm1 117 rfl) rfl
  | 4, _ => exact jtb (jm1 119 rfl) rfl
  | 5, _ => exact jtb (jm1 121 rfl) rfl
  | k + 6, hk => exact absurd hk (by omega)
theorem in_X1 : ∀ w ∈ u_ws RX1 TX1 4, w ∈ jTB := by
  intro w hw
  obtain ⟨k, hk, rfl⟩ := List.mem_map.mp hw
  have hk := List.mem_range.mp hk
  match k, hk with
  | 0, _ => exact jtb (jm1 146 rfl) rfl
  | 1, _ => exact jtb (jm1 148 rfl) rfl
  | 2, _ => exact jtb (jm1 150 rfl) rfl
  | 3, _ => exact jtb (jm1 152 rfl) rfl
  | k + 4, hk => exact absurd hk (by omega)
theorem in_X2 : ∀ w ∈ u_ws RX2 TX2 12, w ∈ jTB := by
  intro w hw
  obtain ⟨k, hk, rfl⟩ := List.mem_map.mp hw
  have hk := List.mem_range.mp hk
  match k, hk with
  | 0, _ => exact jtb (jm1 62 rfl) rfl
  | 1, _ => exact jtb (jm1 64 rfl) rfl
  | 2, _ => exact jtb (jm1 66 rfl) rfl
  | 3, _ => exact jtb (jm1 68 rfl) rfl
  | 4, _ => exact jtb (jm1 70 rfl) rfl
  | 5, _ => exact jtb (jm1 72 rfl) rfl
  | 6, _ => exact jtb (jm1 74 rfl) rfl
  | 7, _ => exact jtb (jm1 76 rfl) rfl
  | 8, _ => exact jtb (jm1 78 rfl) rfl
  | 9, _ => exact jtb (jm1 80 rfl) rfl
  | 10, _ => exact jtb (jm1 82 rfl) rfl
  | 11, _ => exact jtb (jm1 84 rfl) rfl
  | k + 12, hk => exact absurd hk (by omega)
theorem in_X3 : ∀ w ∈ u_ws RX3 TX3 2, w ∈ jTB := by
  intro w hw
  obtain ⟨k, hk, rfl⟩ := List.mem_map.mp hw
  have hk := List.mem_range.mp hk
  match k, hk with
  | 0, _ => exact jtb (jm1 128 rfl) rfl
  | 1, _ => exact jtb (jm1 130 rfl) rfl
  | k + 2, hk => exact absurd hk (by omega)
theorem in_X4 : ∀ w ∈ u_ws RX4 TX4 4, w ∈ jTB := by
  intro w hw
  obtain ⟨k, hk, rfl⟩ := List.mem_map.mp hw
  have hk := List.mem_range.mp hk
  match k, hk with
  | 0, _ => exact jtb (jm1 168 rfl) rfl
  | 1, _ => exact jtb (jm1 170 rfl) rfl
  | 2, _ => exact jtb (jm1 172 rfl) rfl
  | 3, _ => exact jtb (jm1 174 rfl) rfl
  | k + 4, hk => exact absurd hk (by omega)
theorem in_X5 : ∀ w ∈ u_ws RX5 TX5 4, w ∈ jTB := by
  intro w hw
  obtain ⟨k, hk, rfl⟩ := List.mem_map.mp hw
  have hk := List.mem_range.mp hk
  match k, hk with
  | 0, _ => exact jtb (jm1 181 rfl) rfl
  | 1, _ => exact jtb (jm1 183 rfl) rfl
  | 2, _ => exact jtb (jm1 185 rfl) rfl
  | 3, _ => exact jtb (jm1 187 rfl) rfl
  | k + 4, hk => exact absurd hk (by omega)
theorem in_X6 : ∀ w ∈ u_ws RX6 TX6 28, w ∈ jTB := by
  intro w hw
  obtain ⟨k, hk, rfl⟩ := List.mem_map.mp hw
  have hk := List.mem_range.mp hk
  match k, hk with
  | 0, _ => exact jtb (jm3 121 rfl) rfl
  | 1, _ => exact jtb (jm3 123 rfl) rfl
  | 2, _ => exact jtb (jm3 125 rfl) rfl
  | 3, _ => exact jtb (jm3 127 rfl) rfl
  | 4, _ => exact jtb (jm3 129 rfl) rfl
  | 5, _ => exact jtb (jm3 131 rfl) rfl
  | 6, _ => exact jtb (jm3 133 rfl) rfl
  | 7, _ => exact jtb (jm3 135 rfl) rfl
  | 8, _ => exact jtb (jm3 137 rfl) rfl
  | 9, _ => exact jtb (jm3 139 rfl) rfl
  | 10, _ => exact jtb (jm3 141 rfl) rfl
  | 11, _ => exact jtb (jm3 143 rfl) rfl
  | 12, _ => exact jtb (jm3 145 rfl) rfl
  | 13, _ => exact jtb (jm3 147 rfl) rfl
  | 14, _ => exact jtb (jm3 149 rfl) rfl
  | 15, _ => exact jtb (jm3 151 rfl) rfl
  | 16, _ => exact jtb (jm3 153 rfl) rfl
  | 17, _ => exact jtb (jm3 155 rfl) rfl
  | 18, _ => exact jtb (jm3 157 rfl) rfl
  | 19, _ => exact jtb (jm3 159 rfl) rfl
  | 20, _ => exact jtb (jm3 161 rfl) rfl
  | 21, _ => exact jtb (jm3 163 rfl) rfl
  | 22, _ => exact jtb (jm3 165 rfl) rfl
  | 23, _ => exact jtb (jm3 167 rfl) rfl
  | 24, _ => exact jtb (jm3 169 rfl) rfl
  | 25, _ => exact jtb (jm3 171 rfl) rfl
  | 26, _ => exact jtb (jm3 173 rfl) rfl
  | 27, _ => exact jtb (jm3 175 rfl) rfl
  | k + 28, hk => exact absurd hk (by omega)
theorem gX5_20 : jG RX5 20 5 0 := ⟨RX5, TX5, 4, rfl, in_X5, by decide, Or.inl (jtb (jm1 177 rfl) rfl)⟩
theorem gfX5_20 : jGf RX5 20 5 0 (.array (.object "FarHeaps$Node")) := ⟨RX5, TX5, 4, tyX5, rfl, in_X5, by decide, jtb (jm1 177 rfl) rfl, tyX5_ok, nmX5, rfl, rfl, by decide +kernel⟩
theorem gX5_30 : jG RX5 30 5 1 := ⟨RX5, TX5, 4, rfl, in_X5, by decide, Or.inl (jtb (jm1 178 rfl) rfl)⟩
theorem gfX5_30 : jGf RX5 30 5 1 (.object "FarHeaps$Post") := ⟨RX5, TX5, 4, tyX5, rfl, in_X5, by decide, jtb (jm1 178 rfl) rfl, tyX5_ok, nmX5, rfl, rfl, by decide +kernel⟩
theorem gX5_37 : jG RX5 37 5 2 := ⟨RX5, TX5, 4, rfl, in_X5, by decide, Or.inl (jtb (jm1 179 rfl) rfl)⟩
theorem gfX5_37 : jGf RX5 37 5 2 (.object "FarHeaps$Marks") := ⟨RX5, TX5, 4, tyX5, rfl, in_X5, by decide, jtb (jm1 179 rfl) rfl, tyX5_ok, nmX5, rfl, rfl, by decide +kernel⟩
theorem gX5_44 : jG RX5 44 5 3 := ⟨RX5, TX5, 4, rfl, in_X5, by decide, Or.inl (jtb (jm1 180 rfl) rfl)⟩
theorem gfX5_44 : jGf RX5 44 5 3 (.object "FarHeaps$Trial") := ⟨RX5, TX5, 4, tyX5, rfl, in_X5, by decide, jtb (jm1 180 rfl) rfl, tyX5_ok, nmX5, rfl, rfl, by decide +kernel⟩
theorem gX5_90 : jG RX5 90 2 2 := ⟨RX2, TX2, 12, rfl, in_X2, by decide, Or.inr ⟨_, jtb (jm1 42 rfl) rfl⟩⟩
theorem gX5_102 : jG RX5 102 2 1 := ⟨RX2, TX2, 12, rfl, in_X2, by decide, Or.inr ⟨_, jtb (jm1 39 rfl) rfl⟩⟩
theorem gX5_112 : jG RX5 112 0 0 := ⟨RX0, TX0, 6, rfl, in_X0, by decide, Or.inr ⟨_, jtb (jm1 102 rfl) rfl⟩⟩
theorem gpX5_112 : jGp RX5 112 0 0 .int := ⟨RX0, TX0, 6, tyX0, rfl, in_X0, by decide, Or.inr ⟨_, jtb (jm1 102 rfl) rfl⟩, tyX0_ok, nmX0, rfl, by decide +kernel⟩
theorem gX5_118 : jG RX5 118 0 3 := ⟨RX0, TX0, 6, rfl, in_X0, by decide, Or.inr ⟨_, jtb (jm1 106 rfl) rfl⟩⟩
theorem gpX5_118 : jGp RX5 118 0 3 .int := ⟨RX0, TX0, 6, tyX0, rfl, in_X0, by decide, Or.inr ⟨_, jtb (jm1 106 rfl) rfl⟩, tyX0_ok, nmX0, rfl, by decide +kernel⟩
theorem gX5_124 : jG RX5 124 0 4 := ⟨RX0, TX0, 6, rfl, in_X0, by decide, Or.inr ⟨_, jtb (jm1 108 rfl) rfl⟩⟩
theorem gpX5_124 : jGp RX5 124 0 4 .int := ⟨RX0, TX0, 6, tyX0, rfl, in_X0, by decide, Or.inr ⟨_, jtb (jm1 108 rfl) rfl⟩, tyX0_ok, nmX0, rfl, by decide +kernel⟩
theorem gX5_127 : jG RX5 127 0 5 := ⟨RX0, TX0, 6, rfl, in_X0, by decide, Or.inr ⟨_, jtb (jm1 110 rfl) rfl⟩⟩
theorem gpX5_127 : jGp RX5 127 0 5 .int := ⟨RX0, TX0, 6, tyX0, rfl, in_X0, by decide, Or.inr ⟨_, jtb (jm1 110 rfl) rfl⟩, tyX0_ok, nmX0, rfl, by decide +kernel⟩
theorem gX5_154 : jG RX5 154 3 1 := ⟨RX3, TX3, 2, rfl, in_X3, by decide, Or.inr ⟨_, jtb (jm1 127 rfl) rfl⟩⟩
theorem gpX5_154 : jGp RX5 154 3 1 .int := ⟨RX3, TX3, 2, tyX3, rfl, in_X3, by decide, Or.inr ⟨_, jtb (jm1 127 rfl) rfl⟩, tyX3_ok, nmX3, rfl, by decide +kernel⟩
theorem gX5_168 : jG RX5 168 2 5 := ⟨RX2, TX2, 12, rfl, in_X2, by decide, Or.inr ⟨_, jtb (jm1 50 rfl) rfl⟩⟩
theorem gX5_203 : jG RX5 203 2 4 := ⟨RX2, TX2, 12, rfl, in_X2, by decide, Or.inr ⟨_, jtb (jm1 47 rfl) rfl⟩⟩
theorem gX5_206 : jG RX5 206 2 3 := ⟨RX2, TX2, 12, rfl, in_X2, by decide, Or.inr ⟨_, jtb (jm1 45 rfl) rfl⟩⟩
theorem gX5_250 : jG RX5 250 2 8 := ⟨RX2, TX2, 12, rfl, in_X2, by decide, Or.inr ⟨_, jtb (jm1 55 rfl) rfl⟩⟩
theorem gpX5_250 : jGp RX5 250 2 8 .int := ⟨RX2, TX2, 12, tyX2, rfl, in_X2, by decide, Or.inr ⟨_, jtb (jm1 55 rfl) rfl⟩, tyX2_ok, nmX2, rfl, by decide +kernel⟩
theorem gX5_256 : jG RX5 256 2 9 := ⟨RX2, TX2, 12, rfl, in_X2, by decide, Or.inr ⟨_, jtb (jm1 57 rfl) rfl⟩⟩
theorem gpX5_256 : jGp RX5 256 2 9 .int := ⟨RX2, TX2, 12, tyX2, rfl, in_X2, by decide, Or.inr ⟨_, jtb (jm1 57 rfl) rfl⟩, tyX2_ok, nmX2, rfl, by decide +kernel⟩
theorem gX5_262 : jG RX5 262 2 0 := ⟨RX2, TX2, 12, rfl, in_X2, by decide, Or.inr ⟨_, jtb (jm1 36 rfl) rfl⟩⟩
theorem gX5_268 : jG RX5 268 2 10 := ⟨RX2, TX2, 12, rfl, in_X2, by decide, Or.inr ⟨_, jtb (jm1 59 rfl) rfl⟩⟩
theorem gpX5_268 : jGp RX5 268 2 10 .int := ⟨RX2, TX2, 12, tyX2, rfl, in_X2, by decide, Or.inr ⟨_, jtb (jm1 59 rfl) rfl⟩, tyX2_ok, nmX2, rfl, by decide +kernel⟩
theorem gX5_271 : jG RX5 271 2 11 := ⟨RX2, TX2, 12, rfl, in_X2, by decide, Or.inr ⟨_, jtb (jm1 61 rfl) rfl⟩⟩
theorem gpX5_271 : jGp RX5 271 2 11 .int := ⟨RX2, TX2, 12, tyX2, rfl, in_X2, by decide, Or.inr ⟨_, jtb (jm1 61 rfl) rfl⟩, tyX2_ok, nmX2, rfl, by decide +kernel⟩
theorem gX1_9 : jG RX1 9 1 0 := ⟨RX1, TX1, 4, rfl, in_X1, by decide, Or.inl (jtb (jm1 139 rfl) rfl)⟩
theorem gfX1_9 : jGf RX1 9 1 0 (.array .boolean) := ⟨RX1, TX1, 4, tyX1, rfl, in_X1, by decide, jtb (jm1 139 rfl) rfl, tyX1_ok, nmX1, rfl, rfl, by decide +kernel⟩
theorem gX1_15 : jG RX1 15 1 1 := ⟨RX1, TX1, 4, rfl, in_X1, by decide, Or.inl (jtb (jm1 140 rfl) rfl)⟩
theorem gfX1_15 : jGf RX1 15 1 1 (.array .int) := ⟨RX1, TX1, 4, tyX1, rfl, in_X1, by decide, jtb (jm1 140 rfl) rfl, tyX1_ok, nmX1, rfl, rfl, by decide +kernel⟩
theorem gX1_19 : jG RX1 19 1 2 := ⟨RX1, TX1, 4, rfl, in_X1, by decide, Or.inl (jtb (jm1 142 rfl) rfl)⟩
theorem gpX1_19 : jGp RX1 19 1 2 .int := ⟨RX1, TX1, 4, tyX1, rfl, in_X1, by decide, Or.inl (jtb (jm1 142 rfl) rfl), tyX1_ok, nmX1, rfl, by decide +kernel⟩
theorem gX1_23 : jG RX1 23 1 3 := ⟨RX1, TX1, 4, rfl, in_X1, by decide, Or.inl (jtb (jm1 145 rfl) rfl)⟩
theorem gpX1_23 : jGp RX1 23 1 3 .int := ⟨RX1, TX1, 4, tyX1, rfl, in_X1, by decide, Or.inl (jtb (jm1 145 rfl) rfl), tyX1_ok, nmX1, rfl, by decide +kernel⟩
theorem gX2_9 : jG RX2 9 2 1 := ⟨RX2, TX2, 12, rfl, in_X2, by decide, Or.inl (jtb (jm1 37 rfl) rfl)⟩
theorem gfX2_9 : jGf RX2 9 2 1 (.array .int) := ⟨RX2, TX2, 12, tyX2, rfl, in_X2, by decide, jtb (jm1 37 rfl) rfl, tyX2_ok, nmX2, rfl, rfl, by decide +kernel⟩
theorem gX2_15 : jG RX2 15 2 2 := ⟨RX2, TX2, 12, rfl, in_X2, by decide, Or.inl (jtb (jm1 40 rfl) rfl)⟩
theorem gfX2_15 : jGf RX2 15 2 2 (.array .int) := ⟨RX2, TX2, 12, tyX2, rfl, in_X2, by decide, jtb (jm1 40 rfl) rfl, tyX2_ok, nmX2, rfl, rfl, by decide +kernel⟩
theorem gX2_18 : jG RX2 18 2 3 := ⟨RX2, TX2, 12, rfl, in_X2, by decide, Or.inl (jtb (jm1 43 rfl) rfl)⟩
theorem gfX2_18 : jGf RX2 18 2 3 (.array .int) := ⟨RX2, TX2, 12, tyX2, rfl, in_X2, by decide, jtb (jm1 43 rfl) rfl, tyX2_ok, nmX2, rfl, rfl, by decide +kernel⟩
theorem gX2_21 : jG RX2 21 2 4 := ⟨RX2, TX2, 12, rfl, in_X2, by decide, Or.inl (jtb (jm1 46 rfl) rfl)⟩
theorem gfX2_21 : jGf RX2 21 2 4 (.array .int) := ⟨RX2, TX2, 12, tyX2, rfl, in_X2, by decide, jtb (jm1 46 rfl) rfl, tyX2_ok, nmX2, rfl, rfl, by decide +kernel⟩
theorem gX2_24 : jG RX2 24 2 5 := ⟨RX2, TX2, 12, rfl, in_X2, by decide, Or.inl (jtb (jm1 48 rfl) rfl)⟩
theorem gfX2_24 : jGf RX2 24 2 5 (.array .int) := ⟨RX2, TX2, 12, tyX2, rfl, in_X2, by decide, jtb (jm1 48 rfl) rfl, tyX2_ok, nmX2, rfl, rfl, by decide +kernel⟩
theorem gX2_27 : jG RX2 27 2 6 := ⟨RX2, TX2, 12, rfl, in_X2, by decide, Or.inl (jtb (jm1 51 rfl) rfl)⟩
theorem gfX2_27 : jGf RX2 27 2 6 (.array .int) := ⟨RX2, TX2, 12, tyX2, rfl, in_X2, by decide, jtb (jm1 51 rfl) rfl, tyX2_ok, nmX2, rfl, rfl, by decide +kernel⟩
theorem gX2_30 : jG RX2 30 2 7 := ⟨RX2, TX2, 12, rfl, in_X2, by decide, Or.inl (jtb (jm1 53 rfl) rfl)⟩
theorem gfX2_30 : jGf RX2 30 2 7 (.array .int) := ⟨RX2, TX2, 12, tyX2, rfl, in_X2, by decide, jtb (jm1 53 rfl) rfl, tyX2_ok, nmX2, rfl, rfl, by decide +kernel⟩
theorem gX2_33 : jG RX2 33 2 0 := ⟨RX2, TX2, 12, rfl, in_X2, by decide, Or.inl (jtb (jm1 34 rfl) rfl)⟩
theorem gfX2_33 : jGf RX2 33 2 0 .int := ⟨RX2, TX2, 12, tyX2, rfl, in_X2, by decide, jtb (jm1 34 rfl) rfl, tyX2_ok, nmX2, rfl, rfl, by decide +kernel⟩
theorem gX2_47 : jG RX2 47 2 8 := ⟨RX2, TX2, 12, rfl, in_X2, by decide, Or.inl (jtb (jm1 54 rfl) rfl)⟩
theorem gpX2_47 : jGp RX2 47 2 8 .int := ⟨RX2, TX2, 12, tyX2, rfl, in_X2, by decide, Or.inl (jtb (jm1 54 rfl) rfl), tyX2_ok, nmX2, rfl, by decide +kernel⟩
theorem gX2_50 : jG RX2 50 2 10 := ⟨RX2, TX2, 12, rfl, in_X2, by decide, Or.inl (jtb (jm1 58 rfl) rfl)⟩
theorem gpX2_50 : jGp RX2 50 2 10 .int := ⟨RX2, TX2, 12, tyX2, rfl, in_X2, by decide, Or.inl (jtb (jm1 58 rfl) rfl), tyX2_ok, nmX2, rfl, by decide +kernel⟩
theorem gX2_77 : jG RX2 77 2 9 := ⟨RX2, TX2, 12, rfl, in_X2, by decide, Or.inl (jtb (jm1 56 rfl) rfl)⟩
theorem gpX2_77 : jGp RX2 77 2 9 .int := ⟨RX2, TX2, 12, tyX2, rfl, in_X2, by decide, Or.inl (jtb (jm1 56 rfl) rfl), tyX2_ok, nmX2, rfl, by decide +kernel⟩
theorem gX2_114 : jG RX2 114 1 2 := ⟨RX1, TX1, 4, rfl, in_X1, by decide, Or.inr ⟨_, jtb (jm1 144 rfl) rfl⟩⟩
theorem gpX2_114 : jGp RX2 114 1 2 .int := ⟨RX1, TX1, 4, tyX1, rfl, in_X1, by decide, Or.inr ⟨_, jtb (jm1 144 rfl) rfl⟩, tyX1_ok, nmX1, rfl, by decide +kernel⟩
theorem gX2_117 : jG RX2 117 1 1 := ⟨RX1, TX1, 4, rfl, in_X1, by decide, Or.inr ⟨_, jtb (jm1 141 rfl) rfl⟩⟩
theorem gX2_137 : jG RX2 137 2 11 := ⟨RX2, TX2, 12, rfl, in_X2, by decide, Or.inl (jtb (jm1 60 rfl) rfl)⟩
theorem gpX2_137 : jGp RX2 137 2 11 .int := ⟨RX2, TX2, 12, tyX2, rfl, in_X2, by decide, Or.inl (jtb (jm1 60 rfl) rfl), tyX2_ok, nmX2, rfl, by decide +kernel⟩
theorem gX3_11 : jG RX3 11 3 0 := ⟨RX3, TX3, 2, rfl, in_X3, by decide, Or.inl (jtb (jm1 124 rfl) rfl)⟩
theorem gfX3_11 : jGf RX3 11 3 0 (.array (.object "FarHeaps$Letter")) := ⟨RX3, TX3, 2, tyX3, rfl, in_X3, by decide, jtb (jm1 124 rfl) rfl, tyX3_ok, nmX3, rfl, rfl, by decide +kernel⟩
theorem gX3_18 : jG RX3 18 3 1 := ⟨RX3, TX3, 2, rfl, in_X3, by decide, Or.inl (jtb (jm1 125 rfl) rfl)⟩
theorem gpX3_18 : jGp RX3 18 3 1 .int := ⟨RX3, TX3, 2, tyX3, rfl, in_X3, by decide, Or.inl (jtb (jm1 125 rfl) rfl), tyX3_ok, nmX3, rfl, by decide +kernel⟩
theorem gX3_26 : jG RX3 26 0 0 := ⟨RX0, TX0, 6, rfl, in_X0, by decide, Or.inr ⟨_, jtb (jm1 101 rfl) rfl⟩⟩
theorem gpX3_26 : jGp RX3 26 0 0 .int := ⟨RX0, TX0, 6, tyX0, rfl, in_X0, by decide, Or.inr ⟨_, jtb (jm1 101 rfl) rfl⟩, tyX0_ok, nmX0, rfl, by decide +kernel⟩
theorem gX3_29 : jG RX3 29 0 1 := ⟨RX0, TX0, 6, rfl, in_X0, by decide, Or.inr ⟨_, jtb (jm1 103 rfl) rfl⟩⟩
theorem gpX3_29 : jGp RX3 29 0 1 .int := ⟨RX0, TX0, 6, tyX0, rfl, in_X0, by decide, Or.inr ⟨_, jtb (jm1 103 rfl) rfl⟩, tyX0_ok, nmX0, rfl, by decide +kernel⟩
theorem gX3_32 : jG RX3 32 0 2 := ⟨RX0, TX0, 6, rfl, in_X0, by decide, Or.inr ⟨_, jtb (jm1 104 rfl) rfl⟩⟩
theorem gpX3_32 : jGp RX3 32 0 2 .int := ⟨RX0, TX0, 6, tyX0, rfl, in_X0, by decide, Or.inr ⟨_, jtb (jm1 104 rfl) rfl⟩, tyX0_ok, nmX0, rfl, by decide +kernel⟩
theorem gX3_35 : jG RX3 35 0 3 := ⟨RX0, TX0, 6, rfl, in_X0, by decide, Or.inr ⟨_, jtb (jm1 105 rfl) rfl⟩⟩
theorem gpX3_35 : jGp RX3 35 0 3 .int := ⟨RX0, TX0, 6, tyX0, rfl, in_X0, by decide, Or.inr ⟨_, jtb (jm1 105 rfl) rfl⟩, tyX0_ok, nmX0, rfl, by decide +kernel⟩
theorem gX3_38 : jG RX3 38 0 4 := ⟨RX0, TX0, 6, rfl, in_X0, by decide, Or.inr ⟨_, jtb (jm1 107 rfl) rfl⟩⟩
theorem gpX3_38 : jGp RX3 38 0 4 .int := ⟨RX0, TX0, 6, tyX0, rfl, in_X0, by decide, Or.inr ⟨_, jtb (jm1 107 rfl) rfl⟩, tyX0_ok, nmX0, rfl, by decide +kernel⟩
theorem gX3_41 : jG RX3 41 0 5 := ⟨RX0, TX0, 6, rfl, in_X0, by decide, Or.inr ⟨_, jtb (jm1 109 rfl) rfl⟩⟩
theorem gpX3_41 : jGp RX3 41 0 5 .int := ⟨RX0, TX0, 6, tyX0, rfl, in_X0, by decide, Or.inr ⟨_, jtb (jm1 109 rfl) rfl⟩, tyX0_ok, nmX0, rfl, by decide +kernel⟩
theorem gX4_12 : jG RX4 12 4 0 := ⟨RX4, TX4, 4, rfl, in_X4, by decide, Or.inl (jtb (jm1 164 rfl) rfl)⟩
theorem gfX4_12 : jGf RX4 12 4 0 (.object "FarHeaps$Marks") := ⟨RX4, TX4, 4, tyX4, rfl, in_X4, by decide, jtb (jm1 164 rfl) rfl, tyX4_ok, nmX4, rfl, rfl, by decide +kernel⟩
theorem gX4_18 : jG RX4 18 4 1 := ⟨RX4, TX4, 4, rfl, in_X4, by decide, Or.inl (jtb (jm1 165 rfl) rfl)⟩
theorem gfX4_18 : jGf RX4 18 4 1 (.object "FarHeaps$Marks") := ⟨RX4, TX4, 4, tyX4, rfl, in_X4, by decide, jtb (jm1 165 rfl) rfl, tyX4_ok, nmX4, rfl, rfl, by decide +kernel⟩
theorem gX4_21 : jG RX4 21 4 2 := ⟨RX4, TX4, 4, rfl, in_X4, by decide, Or.inl (jtb (jm1 166 rfl) rfl)⟩
theorem gfX4_21 : jGf RX4 21 4 2 (.array .int) := ⟨RX4, TX4, 4, tyX4, rfl, in_X4, by decide, jtb (jm1 166 rfl) rfl, tyX4_ok, nmX4, rfl, rfl, by decide +kernel⟩
theorem gX4_25 : jG RX4 25 4 3 := ⟨RX4, TX4, 4, rfl, in_X4, by decide, Or.inl (jtb (jm1 167 rfl) rfl)⟩
theorem gfX4_25 : jGf RX4 25 4 3 (.array .int) := ⟨RX4, TX4, 4, tyX4, rfl, in_X4, by decide, jtb (jm1 167 rfl) rfl, tyX4_ok, nmX4, rfl, rfl, by decide +kernel⟩
theorem gX4_51 : jG RX4 51 3 1 := ⟨RX3, TX3, 2, rfl, in_X3, by decide, Or.inr ⟨_, jtb (jm1 126 rfl) rfl⟩⟩
theorem gpX4_51 : jGp RX4 51 3 1 .int := ⟨RX3, TX3, 2, tyX3, rfl, in_X3, by decide, Or.inr ⟨_, jtb (jm1 126 rfl) rfl⟩, tyX3_ok, nmX3, rfl, by decide +kernel⟩
theorem gX4_61 : jG RX4 61 1 2 := ⟨RX1, TX1, 4, rfl, in_X1, by decide, Or.inr ⟨_, jtb (jm1 143 rfl) rfl⟩⟩
theorem gpX4_61 : jGp RX4 61 1 2 .int := ⟨RX1, TX1, 4, tyX1, rfl, in_X1, by decide, Or.inr ⟨_, jtb (jm1 143 rfl) rfl⟩, tyX1_ok, nmX1, rfl, by decide +kernel⟩
theorem gX4_77 : jG RX4 77 2 0 := ⟨RX2, TX2, 12, rfl, in_X2, by decide, Or.inr ⟨_, jtb (jm1 35 rfl) rfl⟩⟩
theorem gX4_86 : jG RX4 86 2 3 := ⟨RX2, TX2, 12, rfl, in_X2, by decide, Or.inr ⟨_, jtb (jm1 44 rfl) rfl⟩⟩
theorem gX4_92 : jG RX4 92 2 1 := ⟨RX2, TX2, 12, rfl, in_X2, by decide, Or.inr ⟨_, jtb (jm1 38 rfl) rfl⟩⟩
theorem gX4_95 : jG RX4 95 2 2 := ⟨RX2, TX2, 12, rfl, in_X2, by decide, Or.inr ⟨_, jtb (jm1 41 rfl) rfl⟩⟩
theorem gX4_98 : jG RX4 98 2 5 := ⟨RX2, TX2, 12, rfl, in_X2, by decide, Or.inr ⟨_, jtb (jm1 49 rfl) rfl⟩⟩
theorem gX4_110 : jG RX4 110 2 6 := ⟨RX2, TX2, 12, rfl, in_X2, by decide, Or.inr ⟨_, jtb (jm1 52 rfl) rfl⟩⟩
theorem gX6_13 : jG RX6 13 6 2 := ⟨RX6, TX6, 28, rfl, in_X6, by decide, Or.inl (jtb (jm3 95 rfl) rfl)⟩
theorem gfX6_13 : jGf RX6 13 6 2 (.array .int) := ⟨RX6, TX6, 28, tyX6, rfl, in_X6, by decide, jtb (jm3 95 rfl) rfl, tyX6_ok, nmX6, rfl, rfl, by decide +kernel⟩
theorem gX6_17 : jG RX6 17 6 3 := ⟨RX6, TX6, 28, rfl, in_X6, by decide, Or.inl (jtb (jm3 96 rfl) rfl)⟩
theorem gfX6_17 : jGf RX6 17 6 3 (.array .int) := ⟨RX6, TX6, 28, tyX6, rfl, in_X6, by decide, jtb (jm3 96 rfl) rfl, tyX6_ok, nmX6, rfl, rfl, by decide +kernel⟩
theorem gX6_20 : jG RX6 20 6 4 := ⟨RX6, TX6, 28, rfl, in_X6, by decide, Or.inl (jtb (jm3 97 rfl) rfl)⟩
theorem gfX6_20 : jGf RX6 20 6 4 (.array .int) := ⟨RX6, TX6, 28, tyX6, rfl, in_X6, by decide, jtb (jm3 97 rfl) rfl, tyX6_ok, nmX6, rfl, rfl, by decide +kernel⟩
theorem gX6_23 : jG RX6 23 6 5 := ⟨RX6, TX6, 28, rfl, in_X6, by decide, Or.inl (jtb (jm3 98 rfl) rfl)⟩
theorem gfX6_23 : jGf RX6 23 6 5 (.array .boolean) := ⟨RX6, TX6, 28, tyX6, rfl, in_X6, by decide, jtb (jm3 98 rfl) rfl, tyX6_ok, nmX6, rfl, rfl, by decide +kernel⟩
theorem gX6_27 : jG RX6 27 6 6 := ⟨RX6, TX6, 28, rfl, in_X6, by decide, Or.inl (jtb (jm3 99 rfl) rfl)⟩
theorem gfX6_27 : jGf RX6 27 6 6 (.array .int) := ⟨RX6, TX6, 28, tyX6, rfl, in_X6, by decide, jtb (jm3 99 rfl) rfl, tyX6_ok, nmX6, rfl, rfl, by decide +kernel⟩
theorem gX6_30 : jG RX6 30 6 7 := ⟨RX6, TX6, 28, rfl, in_X6, by decide, Or.inl (jtb (jm3 100 rfl) rfl)⟩
theorem gfX6_30 : jGf RX6 30 6 7 (.array .int) := ⟨RX6, TX6, 28, tyX6, rfl, in_X6, by decide, jtb (jm3 100 rfl) rfl, tyX6_ok, nmX6, rfl, rfl, by decide +kernel⟩
theorem gX6_33 : jG RX6 33 6 8 := ⟨RX6, TX6, 28, rfl, in_X6, by decide, Or.inl (jtb (jm3 101 rfl) rfl)⟩
theorem gfX6_33 : jGf RX6 33 6 8 (.array .int) := ⟨RX6, TX6, 28, tyX6, rfl, in_X6, by decide, jtb (jm3 101 rfl) rfl, tyX6_ok, nmX6, rfl, rfl, by decide +kernel⟩
theorem gX6_36 : jG RX6 36 6 9 := ⟨RX6, TX6, 28, rfl, in_X6, by decide, Or.inl (jtb (jm3 102 rfl) rfl)⟩
theorem gfX6_36 : jGf RX6 36 6 9 (.array .int) := ⟨RX6, TX6, 28, tyX6, rfl, in_X6, by decide, jtb (jm3 102 rfl) rfl, tyX6_ok, nmX6, rfl, rfl, by decide +kernel⟩
theorem gX6_39 : jG RX6 39 6 10 := ⟨RX6, TX6, 28, rfl, in_X6, by decide, Or.inl (jtb (jm3 103 rfl) rfl)⟩
theorem gfX6_39 : jGf RX6 39 6 10 (.array .int) := ⟨RX6, TX6, 28, tyX6, rfl, in_X6, by decide, jtb (jm3 103 rfl) rfl, tyX6_ok, nmX6, rfl, rfl, by decide +kernel⟩
theorem gX6_42 : jG RX6 42 6 11 := ⟨RX6, TX6, 28, rfl, in_X6, by decide, Or.inl (jtb (jm3 104 rfl) rfl)⟩
theorem gfX6_42 : jGf RX6 42 6 11 (.array .int) := ⟨RX6, TX6, 28, tyX6, rfl, in_X6, by decide, jtb (jm3 104 rfl) rfl, tyX6_ok, nmX6, rfl, rfl, by decide +kernel⟩
theorem gX6_45 : jG RX6 45 6 12 := ⟨RX6, TX6, 28, rfl, in_X6, by decide, Or.inl (jtb (jm3 105 rfl) rfl)⟩
theorem gfX6_45 : jGf RX6 45 6 12 (.array .int) := ⟨RX6, TX6, 28, tyX6, rfl, in_X6, by decide, jtb (jm3 105 rfl) rfl, tyX6_ok, nmX6, rfl, rfl, by decide +kernel⟩
theorem gX6_48 : jG RX6 48 6 14 := ⟨RX6, TX6, 28, rfl, in_X6, by decide, Or.inl (jtb (jm3 107 rfl) rfl)⟩
theorem gfX6_48 : jGf RX6 48 6 14 (.array .int) := ⟨RX6, TX6, 28, tyX6, rfl, in_X6, by decide, jtb (jm3 107 rfl) rfl, tyX6_ok, nmX6, rfl, rfl, by decide +kernel⟩
theorem gX6_51 : jG RX6 51 6 15 := ⟨RX6, TX6, 28, rfl, in_X6, by decide, Or.inl (jtb (jm3 108 rfl) rfl)⟩
theorem gfX6_51 : jGf RX6 51 6 15 (.array .int) := ⟨RX6, TX6, 28, tyX6, rfl, in_X6, by decide, jtb (jm3 108 rfl) rfl, tyX6_ok, nmX6, rfl, rfl, by decide +kernel⟩
theorem gX6_54 : jG RX6 54 6 16 := ⟨RX6, TX6, 28, rfl, in_X6, by decide, Or.inl (jtb (jm3 109 rfl) rfl)⟩
theorem gfX6_54 : jGf RX6 54 6 16 (.array .int) := ⟨RX6, TX6, 28, tyX6, rfl, in_X6, by decide, jtb (jm3 109 rfl) rfl, tyX6_ok, nmX6, rfl, rfl, by decide +kernel⟩
theorem gX6_57 : jG RX6 57 6 17 := ⟨RX6, TX6, 28, rfl, in_X6, by decide, Or.inl (jtb (jm3 110 rfl) rfl)⟩
theorem gfX6_57 : jGf RX6 57 6 17 (.array .int) := ⟨RX6, TX6, 28, tyX6, rfl, in_X6, by decide, jtb (jm3 110 rfl) rfl, tyX6_ok, nmX6, rfl, rfl, by decide +kernel⟩
theorem gX6_60 : jG RX6 60 6 18 := ⟨RX6, TX6, 28, rfl, in_X6, by decide, Or.inl (jtb (jm3 111 rfl) rfl)⟩
theorem gfX6_60 : jGf RX6 60 6 18 (.array .int) := ⟨RX6, TX6, 28, tyX6, rfl, in_X6, by decide, jtb (jm3 111 rfl) rfl, tyX6_ok, nmX6, rfl, rfl, by decide +kernel⟩
theorem gX6_63 : jG RX6 63 6 19 := ⟨RX6, TX6, 28, rfl, in_X6, by decide, Or.inl (jtb (jm3 112 rfl) rfl)⟩
theorem gfX6_63 : jGf RX6 63 6 19 (.array .int) := ⟨RX6, TX6, 28, tyX6, rfl, in_X6, by decide, jtb (jm3 112 rfl) rfl, tyX6_ok, nmX6, rfl, rfl, by decide +kernel⟩
theorem gX6_66 : jG RX6 66 6 20 := ⟨RX6, TX6, 28, rfl, in_X6, by decide, Or.inl (jtb (jm3 113 rfl) rfl)⟩
theorem gfX6_66 : jGf RX6 66 6 20 (.array .boolean) := ⟨RX6, TX6, 28, tyX6, rfl, in_X6, by decide, jtb (jm3 113 rfl) rfl, tyX6_ok, nmX6, rfl, rfl, by decide +kernel⟩
theorem gX6_69 : jG RX6 69 6 21 := ⟨RX6, TX6, 28, rfl, in_X6, by decide, Or.inl (jtb (jm3 114 rfl) rfl)⟩
theorem gfX6_69 : jGf RX6 69 6 21 (.array .boolean) := ⟨RX6, TX6, 28, tyX6, rfl, in_X6, by decide, jtb (jm3 114 rfl) rfl, tyX6_ok, nmX6, rfl, rfl, by decide +kernel⟩
theorem gX6_72 : jG RX6 72 6 23 := ⟨RX6, TX6, 28, rfl, in_X6, by decide, Or.inl (jtb (jm3 116 rfl) rfl)⟩
theorem gfX6_72 : jGf RX6 72 6 23 (.array .int) := ⟨RX6, TX6, 28, tyX6, rfl, in_X6, by decide, jtb (jm3 116 rfl) rfl, tyX6_ok, nmX6, rfl, rfl, by decide +kernel⟩
theorem gX6_75 : jG RX6 75 6 24 := ⟨RX6, TX6, 28, rfl, in_X6, by decide, Or.inl (jtb (jm3 117 rfl) rfl)⟩
theorem gfX6_75 : jGf RX6 75 6 24 (.array .boolean) := ⟨RX6, TX6, 28, tyX6, rfl, in_X6, by decide, jtb (jm3 117 rfl) rfl, tyX6_ok, nmX6, rfl, rfl, by decide +kernel⟩
theorem gX6_78 : jG RX6 78 6 25 := ⟨RX6, TX6, 28, rfl, in_X6, by decide, Or.inl (jtb (jm3 118 rfl) rfl)⟩
theorem gfX6_78 : jGf RX6 78 6 25 (.array .boolean) := ⟨RX6, TX6, 28, tyX6, rfl, in_X6, by decide, jtb (jm3 118 rfl) rfl, tyX6_ok, nmX6, rfl, rfl, by decide +kernel⟩
theorem gX6_81 : jG RX6 81 6 26 := ⟨RX6, TX6, 28, rfl, in_X6, by decide, Or.inl (jtb (jm3 119 rfl) rfl)⟩
theorem gfX6_81 : jGf RX6 81 6 26 (.array .boolean) := ⟨RX6, TX6, 28, tyX6, rfl, in_X6, by decide, jtb (jm3 119 rfl) rfl, tyX6_ok, nmX6, rfl, rfl, by decide +kernel⟩
theorem gX6_84 : jG RX6 84 6 27 := ⟨RX6, TX6, 28, rfl, in_X6, by decide, Or.inl (jtb (jm3 120 rfl) rfl)⟩
theorem gfX6_84 : jGf RX6 84 6 27 (.array .boolean) := ⟨RX6, TX6, 28, tyX6, rfl, in_X6, by decide, jtb (jm3 120 rfl) rfl, tyX6_ok, nmX6, rfl, rfl, by decide +kernel⟩
theorem gX6_87 : jG RX6 87 6 1 := ⟨RX6, TX6, 28, rfl, in_X6, by decide, Or.inl (jtb (jm3 94 rfl) rfl)⟩
theorem gfX6_87 : jGf RX6 87 6 1 .int := ⟨RX6, TX6, 28, tyX6, rfl, in_X6, by decide, jtb (jm3 94 rfl) rfl, tyX6_ok, nmX6, rfl, rfl, by decide +kernel⟩
theorem gX6_110 : jG RX6 110 6 13 := ⟨RX6, TX6, 28, rfl, in_X6, by decide, Or.inl (jtb (jm3 106 rfl) rfl)⟩
theorem gpX6_110 : jGp RX6 110 6 13 .int := ⟨RX6, TX6, 28, tyX6, rfl, in_X6, by decide, Or.inl (jtb (jm3 106 rfl) rfl), tyX6_ok, nmX6, rfl, by decide +kernel⟩
theorem gX6_137 : jG RX6 137 6 22 := ⟨RX6, TX6, 28, rfl, in_X6, by decide, Or.inl (jtb (jm3 115 rfl) rfl)⟩
theorem gpX6_137 : jGp RX6 137 6 22 .int := ⟨RX6, TX6, 28, tyX6, rfl, in_X6, by decide, Or.inl (jtb (jm3 115 rfl) rfl), tyX6_ok, nmX6, rfl, by decide +kernel⟩
theorem lwX0_init : jLw yX0_init cX0_init 1 none 0 := ⟨jtb (jm1 99 rfl) rfl, jtb (jm1 6 rfl) rfl, by decide +kernel, by decide +kernel, by decide +kernel⟩
theorem imX0_init : Cond.instanceMethod yX0_init ∈ jTB := jtb (jm1 98 rfl) rfl
theorem lwX1_init : jLw yX1_init cX1_init 1 none 0 := ⟨jtb (jm1 137 rfl) rfl, jtb (jm1 7 rfl) rfl, by decide +kernel, by decide +kernel, by decide +kernel⟩
theorem imX1_init : Cond.instanceMethod yX1_init ∈ jTB := jtb (jm1 136 rfl) rfl
theorem lwX1_clear : jLw yX1_clear cX1_clear 2 none 0 := ⟨jtb (jm2 115 rfl) rfl, jtb (jm1 7 rfl) rfl, by decide +kernel, by decide +kernel, by decide +kernel⟩
theorem imX1_clear : Cond.instanceMethod yX1_clear ∈ jTB := jtb (jm2 114 rfl) rfl
theorem seX1_clear : Cond.selects RX1 yX1_clear yX1_clear ∈ jTB := jtb (jm0 (q := (yX1_clear, _)) 24 rfl) rfl
theorem lwX1_has : jLw yX1_has cX1_has 2 (some .boolean) 1 := ⟨jtb (jm2 138 rfl) rfl, jtb (jm1 7 rfl) rfl, by decide +kernel, by decide +kernel, by decide +kernel⟩
theorem imX1_has : Cond.instanceMethod yX1_has ∈ jTB := jtb (jm2 137 rfl) rfl
theorem seX1_has : Cond.selects RX1 yX1_has yX1_has ∈ jTB := jtb (jm0 (q := (yX1_has, _)) 29 rfl) rfl
theorem lwX1_add : jLw yX1_add cX1_add 2 none 1 := ⟨jtb (jm2 124 rfl) rfl, jtb (jm1 7 rfl) rfl, by decide +kernel, by decide +kernel, by decide +kernel⟩
theorem imX1_add : Cond.instanceMethod yX1_add ∈ jTB := jtb (jm2 123 rfl) rfl
theorem seX1_add : Cond.selects RX1 yX1_add yX1_add ∈ jTB := jtb (jm0 (q := (yX1_add, _)) 26 rfl) rfl
theorem lwX1_spread : jLw yX1_spread cX1_spread 4 none 1 := ⟨jtb (jm2 179 rfl) rfl, jtb (jm1 7 rfl) rfl, by decide +kernel, by decide +kernel, by decide +kernel⟩
theorem imX1_spread : Cond.instanceMethod yX1_spread ∈ jTB := jtb (jm2 178 rfl) rfl
theorem seX1_spread : Cond.selects RX1 yX1_spread yX1_spread ∈ jTB := jtb (jm0 (q := (yX1_spread, _)) 37 rfl) rfl
theorem lwX2_init : jLw yX2_init cX2_init 2 none 1 := ⟨jtb (jm1 29 rfl) rfl, jtb (jm1 3 rfl) rfl, by decide +kernel, by decide +kernel, by decide +kernel⟩
theorem imX2_init : Cond.instanceMethod yX2_init ∈ jTB := jtb (jm1 28 rfl) rfl
theorem lwX2_hasObject : jLw yX2_hasObject cX2_hasObject 2 (some .boolean) 1 := ⟨jtb (jm1 238 rfl) rfl, jtb (jm1 3 rfl) rfl, by decide +kernel, by decide +kernel, by decide +kernel⟩
theorem imX2_hasObject : Cond.instanceMethod yX2_hasObject ∈ jTB := jtb (jm1 237 rfl) rfl
theorem seX2_hasObject : Cond.selects RX2 yX2_hasObject yX2_hasObject ∈ jTB := jtb (jm0 (q := (yX2_hasObject, _)) 7 rfl) rfl
theorem lwX2_hasField : jLw yX2_hasField cX2_hasField 3 (some .boolean) 2 := ⟨jtb (jm1 234 rfl) rfl, jtb (jm1 3 rfl) rfl, by decide +kernel, by decide +kernel, by decide +kernel⟩
theorem imX2_hasField : Cond.instanceMethod yX2_hasField ∈ jTB := jtb (jm1 233 rfl) rfl
theorem seX2_hasField : Cond.selects RX2 yX2_hasField yX2_hasField ∈ jTB := jtb (jm0 (q := (yX2_hasField, _)) 6 rfl) rfl
theorem lwX2_freeNumber : jLw yX2_freeNumber cX2_freeNumber 2 (some .int) 0 := ⟨jtb (jm1 204 rfl) rfl, jtb (jm1 3 rfl) rfl, by decide +kernel, by decide +kernel, by decide +kernel⟩
theorem imX2_freeNumber : Cond.instanceMethod yX2_freeNumber ∈ jTB := jtb (jm1 203 rfl) rfl
theorem seX2_freeNumber : Cond.selects RX2 yX2_freeNumber yX2_freeNumber ∈ jTB := jtb (jm0 (q := (yX2_freeNumber, _)) 1 rfl) rfl
theorem lwX2_hasRoom : jLw yX2_hasRoom cX2_hasRoom 2 (some .boolean) 1 := ⟨jtb (jm1 208 rfl) rfl, jtb (jm1 3 rfl) rfl, by decide +kernel, by decide +kernel, by decide +kernel⟩
theorem imX2_hasRoom : Cond.instanceMethod yX2_hasRoom ∈ jTB := jtb (jm1 207 rfl) rfl
theorem seX2_hasRoom : Cond.selects RX2 yX2_hasRoom yX2_hasRoom ∈ jTB := jtb (jm0 (q := (yX2_hasRoom, _)) 2 rfl) rfl
theorem lwX2_lay : jLw yX2_lay cX2_lay 3 none 2 := ⟨jtb (jm1 212 rfl) rfl, jtb (jm1 3 rfl) rfl, by decide +kernel, by decide +kernel, by decide +kernel⟩
theorem imX2_lay : Cond.instanceMethod yX2_lay ∈ jTB := jtb (jm1 211 rfl) rfl
theorem seX2_lay : Cond.selects RX2 yX2_lay yX2_lay ∈ jTB := jtb (jm0 (q := (yX2_lay, _)) 3 rfl) rfl
theorem lwX2_objectAt : jLw yX2_objectAt cX2_objectAt 3 (some .int) 1 := ⟨jtb (jm3 26 rfl) rfl, jtb (jm1 3 rfl) rfl, by decide +kernel, by decide +kernel, by decide +kernel⟩
theorem imX2_objectAt : Cond.instanceMethod yX2_objectAt ∈ jTB := jtb (jm3 25 rfl) rfl
theorem seX2_objectAt : Cond.selects RX2 yX2_objectAt yX2_objectAt ∈ jTB := jtb (jm0 (q := (yX2_objectAt, _)) 49 rfl) rfl
theorem lwX2_fill : jLw yX2_fill cX2_fill 4 none 3 := ⟨jtb (jm1 219 rfl) rfl, jtb (jm1 3 rfl) rfl, by decide +kernel, by decide +kernel, by decide +kernel⟩
theorem imX2_fill : Cond.instanceMethod yX2_fill ∈ jTB := jtb (jm1 218 rfl) rfl
theorem seX2_fill : Cond.selects RX2 yX2_fill yX2_fill ∈ jTB := jtb (jm0 (q := (yX2_fill, _)) 4 rfl) rfl
theorem lwX2_empty : jLw yX2_empty cX2_empty 2 none 1 := ⟨jtb (jm2 22 rfl) rfl, jtb (jm1 3 rfl) rfl, by decide +kernel, by decide +kernel, by decide +kernel⟩
theorem imX2_empty : Cond.instanceMethod yX2_empty ∈ jTB := jtb (jm2 21 rfl) rfl
theorem seX2_empty : Cond.selects RX2 yX2_empty yX2_empty ∈ jTB := jtb (jm0 (q := (yX2_empty, _)) 9 rfl) rfl
theorem lwX2_copy : jLw yX2_copy cX2_copy 3 none 2 := ⟨jtb (jm2 5 rfl) rfl, jtb (jm1 3 rfl) rfl, by decide +kernel, by decide +kernel, by decide +kernel⟩
theorem imX2_copy : Cond.instanceMethod yX2_copy ∈ jTB := jtb (jm2 4 rfl) rfl
theorem seX2_copy : Cond.selects RX2 yX2_copy yX2_copy ∈ jTB := jtb (jm0 (q := (yX2_copy, _)) 8 rfl) rfl
theorem lwX2_holdsObject : jLw yX2_holdsObject cX2_holdsObject 2 (some .boolean) 1 := ⟨jtb (jm2 30 rfl) rfl, jtb (jm1 3 rfl) rfl, by decide +kernel, by decide +kernel, by decide +kernel⟩
theorem imX2_holdsObject : Cond.instanceMethod yX2_holdsObject ∈ jTB := jtb (jm2 29 rfl) rfl
theorem seX2_holdsObject : Cond.selects RX2 yX2_holdsObject yX2_holdsObject ∈ jTB := jtb (jm0 (q := (yX2_holdsObject, _)) 10 rfl) rfl
theorem lwX2_tell : jLw yX2_tell cX2_tell 3 (some .int) 2 := ⟨jtb (jm3 11 rfl) rfl, jtb (jm1 3 rfl) rfl, by decide +kernel, by decide +kernel, by decide +kernel⟩
theorem imX2_tell : Cond.instanceMethod yX2_tell ∈ jTB := jtb (jm3 10 rfl) rfl
theorem seX2_tell : Cond.selects RX2 yX2_tell yX2_tell ∈ jTB := jtb (jm0 (q := (yX2_tell, _)) 48 rfl) rfl
theorem lwX2_emptyFields : jLw yX2_emptyFields cX2_emptyFields 3 none 1 := ⟨jtb (jm2 159 rfl) rfl, jtb (jm1 3 rfl) rfl, by decide +kernel, by decide +kernel, by decide +kernel⟩
theorem imX2_emptyFields : Cond.instanceMethod yX2_emptyFields ∈ jTB := jtb (jm2 158 rfl) rfl
theorem seX2_emptyFields : Cond.selects RX2 yX2_emptyFields yX2_emptyFields ∈ jTB := jtb (jm0 (q := (yX2_emptyFields, _)) 34 rfl) rfl
theorem lwX2_changeTotal : jLw yX2_changeTotal cX2_changeTotal 3 none 2 := ⟨jtb (jm2 45 rfl) rfl, jtb (jm1 3 rfl) rfl, by decide +kernel, by decide +kernel, by decide +kernel⟩
theorem imX2_changeTotal : Cond.instanceMethod yX2_changeTotal ∈ jTB := jtb (jm2 44 rfl) rfl
theorem seX2_changeTotal : Cond.selects RX2 yX2_changeTotal yX2_changeTotal ∈ jTB := jtb (jm0 (q := (yX2_changeTotal, _)) 13 rfl) rfl
theorem lwX2_weightOfImport : jLw yX2_weightOfImport cX2_weightOfImport 2 (some .int) 1 := ⟨jtb (jm2 53 rfl) rfl, jtb (jm1 3 rfl) rfl, by decide +kernel, by decide +kernel, by decide +kernel⟩
theorem imX2_weightOfImport : Cond.instanceMethod yX2_weightOfImport ∈ jTB := jtb (jm2 52 rfl) rfl
theorem seX2_weightOfImport : Cond.selects RX2 yX2_weightOfImport yX2_weightOfImport ∈ jTB := jtb (jm0 (q := (yX2_weightOfImport, _)) 14 rfl) rfl
theorem lwX2_changeWeight : jLw yX2_changeWeight cX2_changeWeight 4 none 2 := ⟨jtb (jm2 57 rfl) rfl, jtb (jm1 3 rfl) rfl, by decide +kernel, by decide +kernel, by decide +kernel⟩
theorem imX2_changeWeight : Cond.instanceMethod yX2_changeWeight ∈ jTB := jtb (jm2 56 rfl) rfl
theorem seX2_changeWeight : Cond.selects RX2 yX2_changeWeight yX2_changeWeight ∈ jTB := jtb (jm0 (q := (yX2_changeWeight, _)) 15 rfl) rfl
theorem lwX2_splitOff : jLw yX2_splitOff cX2_splitOff 3 (some .int) 1 := ⟨jtb (jm2 38 rfl) rfl, jtb (jm1 3 rfl) rfl, by decide +kernel, by decide +kernel, by decide +kernel⟩
theorem imX2_splitOff : Cond.instanceMethod yX2_splitOff ∈ jTB := jtb (jm2 37 rfl) rfl
theorem seX2_splitOff : Cond.selects RX2 yX2_splitOff yX2_splitOff ∈ jTB := jtb (jm0 (q := (yX2_splitOff, _)) 12 rfl) rfl
theorem lwX2_canTake : jLw yX2_canTake cX2_canTake 2 (some .boolean) 1 := ⟨jtb (jm2 79 rfl) rfl, jtb (jm1 3 rfl) rfl, by decide +kernel, by decide +kernel, by decide +kernel⟩
theorem imX2_canTake : Cond.instanceMethod yX2_canTake ∈ jTB := jtb (jm2 78 rfl) rfl
theorem seX2_canTake : Cond.selects RX2 yX2_canTake yX2_canTake ∈ jTB := jtb (jm0 (q := (yX2_canTake, _)) 18 rfl) rfl
theorem lwX2_takeRef : jLw yX2_takeRef cX2_takeRef 4 none 3 := ⟨jtb (jm2 87 rfl) rfl, jtb (jm1 3 rfl) rfl, by decide +kernel, by decide +kernel, by decide +kernel⟩
theorem imX2_takeRef : Cond.instanceMethod yX2_takeRef ∈ jTB := jtb (jm2 86 rfl) rfl
theorem seX2_takeRef : Cond.selects RX2 yX2_takeRef yX2_takeRef ∈ jTB := jtb (jm0 (q := (yX2_takeRef, _)) 20 rfl) rfl
theorem lwX2_giveBack : jLw yX2_giveBack cX2_giveBack 4 none 2 := ⟨jtb (jm2 146 rfl) rfl, jtb (jm1 3 rfl) rfl, by decide +kernel, by decide +kernel, by decide +kernel⟩
theorem imX2_giveBack : Cond.instanceMethod yX2_giveBack ∈ jTB := jtb (jm2 145 rfl) rfl
theorem seX2_giveBack : Cond.selects RX2 yX2_giveBack yX2_giveBack ∈ jTB := jtb (jm0 (q := (yX2_giveBack, _)) 31 rfl) rfl
theorem lwX2_markRegisters : jLw yX2_markRegisters cX2_markRegisters 3 none 1 := ⟨jtb (jm2 119 rfl) rfl, jtb (jm1 3 rfl) rfl, by decide +kernel, by decide +kernel, by decide +kernel⟩
theorem imX2_markRegisters : Cond.instanceMethod yX2_markRegisters ∈ jTB := jtb (jm2 118 rfl) rfl
theorem seX2_markRegisters : Cond.selects RX2 yX2_markRegisters yX2_markRegisters ∈ jTB := jtb (jm0 (q := (yX2_markRegisters, _)) 25 rfl) rfl
theorem lwX2_markFields : jLw yX2_markFields cX2_markFields 5 none 2 := ⟨jtb (jm2 129 rfl) rfl, jtb (jm1 3 rfl) rfl, by decide +kernel, by decide +kernel, by decide +kernel⟩
theorem imX2_markFields : Cond.instanceMethod yX2_markFields ∈ jTB := jtb (jm2 128 rfl) rfl
theorem seX2_markFields : Cond.selects RX2 yX2_markFields yX2_markFields ∈ jTB := jtb (jm0 (q := (yX2_markFields, _)) 27 rfl) rfl
theorem lwX2_markLive : jLw yX2_markLive cX2_markLive 3 none 1 := ⟨jtb (jm2 111 rfl) rfl, jtb (jm1 3 rfl) rfl, by decide +kernel, by decide +kernel, by decide +kernel⟩
theorem imX2_markLive : Cond.instanceMethod yX2_markLive ∈ jTB := jtb (jm2 110 rfl) rfl
theorem seX2_markLive : Cond.selects RX2 yX2_markLive yX2_markLive ∈ jTB := jtb (jm0 (q := (yX2_markLive, _)) 23 rfl) rfl
theorem lwX2_countUnmarkedImports : jLw yX2_countUnmarkedImports cX2_countUnmarkedImports 4 (some .int) 1 := ⟨jtb (jm2 134 rfl) rfl, jtb (jm1 3 rfl) rfl, by decide +kernel, by decide +kernel, by decide +kernel⟩
theorem imX2_countUnmarkedImports : Cond.instanceMethod yX2_countUnmarkedImports ∈ jTB := jtb (jm2 133 rfl) rfl
theorem seX2_countUnmarkedImports : Cond.selects RX2 yX2_countUnmarkedImports yX2_countUnmarkedImports ∈ jTB := jtb (jm0 (q := (yX2_countUnmarkedImports, _)) 28 rfl) rfl
theorem lwX2_giveBackUnmarked : jLw yX2_giveBackUnmarked cX2_giveBackUnmarked 4 none 2 := ⟨jtb (jm2 142 rfl) rfl, jtb (jm1 3 rfl) rfl, by decide +kernel, by decide +kernel, by decide +kernel⟩
theorem imX2_giveBackUnmarked : Cond.instanceMethod yX2_giveBackUnmarked ∈ jTB := jtb (jm2 141 rfl) rfl
theorem seX2_giveBackUnmarked : Cond.selects RX2 yX2_giveBackUnmarked yX2_giveBackUnmarked ∈ jTB := jtb (jm0 (q := (yX2_giveBackUnmarked, _)) 30 rfl) rfl
theorem lwX2_sweep : jLw yX2_sweep cX2_sweep 7 (some .int) 1 := ⟨jtb (jm2 151 rfl) rfl, jtb (jm1 3 rfl) rfl, by decide +kernel, by decide +kernel, by decide +kernel⟩
theorem imX2_sweep : Cond.instanceMethod yX2_sweep ∈ jTB := jtb (jm2 150 rfl) rfl
theorem seX2_sweep : Cond.selects RX2 yX2_sweep yX2_sweep ∈ jTB := jtb (jm0 (q := (yX2_sweep, _)) 32 rfl) rfl
theorem lwX2_moveTo : jLw yX2_moveTo cX2_moveTo 3 none 2 := ⟨jtb (jm2 155 rfl) rfl, jtb (jm1 3 rfl) rfl, by decide +kernel, by decide +kernel, by decide +kernel⟩
theorem imX2_moveTo : Cond.instanceMethod yX2_moveTo ∈ jTB := jtb (jm2 154 rfl) rfl
theorem seX2_moveTo : Cond.selects RX2 yX2_moveTo yX2_moveTo ∈ jTB := jtb (jm0 (q := (yX2_moveTo, _)) 33 rfl) rfl
theorem lwX2_countExports : jLw yX2_countExports cX2_countExports 3 (some .int) 0 := ⟨jtb (jm3 64 rfl) rfl, jtb (jm1 3 rfl) rfl, by decide +kernel, by decide +kernel, by decide +kernel⟩
theorem imX2_countExports : Cond.instanceMethod yX2_countExports ∈ jTB := jtb (jm3 63 rfl) rfl
theorem seX2_countExports : Cond.selects RX2 yX2_countExports yX2_countExports ∈ jTB := jtb (jm0 (q := (yX2_countExports, _)) 53 rfl) rfl
theorem lwX2_countUnmarkedObjects : jLw yX2_countUnmarkedObjects cX2_countUnmarkedObjects 4 (some .int) 1 := ⟨jtb (jm3 68 rfl) rfl, jtb (jm1 3 rfl) rfl, by decide +kernel, by decide +kernel, by decide +kernel⟩
theorem imX2_countUnmarkedObjects : Cond.instanceMethod yX2_countUnmarkedObjects ∈ jTB := jtb (jm3 67 rfl) rfl
theorem seX2_countUnmarkedObjects : Cond.selects RX2 yX2_countUnmarkedObjects yX2_countUnmarkedObjects ∈ jTB := jtb (jm0 (q := (yX2_countUnmarkedObjects, _)) 54 rfl) rfl
theorem lwX3_init : jLw yX3_init cX3_init 2 none 0 := ⟨jtb (jm1 92 rfl) rfl, jtb (jm1 5 rfl) rfl, by decide +kernel, by decide +kernel, by decide +kernel⟩
theorem imX3_init : Cond.instanceMethod yX3_init ∈ jTB := jtb (jm1 91 rfl) rfl
theorem lwX3_isFull : jLw yX3_isFull cX3_isFull 1 (some .boolean) 0 := ⟨jtb (jm2 34 rfl) rfl, jtb (jm1 5 rfl) rfl, by decide +kernel, by decide +kernel, by decide +kernel⟩
theorem imX3_isFull : Cond.instanceMethod yX3_isFull ∈ jTB := jtb (jm2 33 rfl) rfl
theorem seX3_isFull : Cond.selects RX3 yX3_isFull yX3_isFull ∈ jTB := jtb (jm0 (q := (yX3_isFull, _)) 11 rfl) rfl
theorem lwX3_put : jLw yX3_put cX3_put 8 none 6 := ⟨jtb (jm2 61 rfl) rfl, jtb (jm1 5 rfl) rfl, by decide +kernel, by decide +kernel, by decide +kernel⟩
theorem imX3_put : Cond.instanceMethod yX3_put ∈ jTB := jtb (jm2 60 rfl) rfl
theorem seX3_put : Cond.selects RX3 yX3_put yX3_put ∈ jTB := jtb (jm0 (q := (yX3_put, _)) 16 rfl) rfl
theorem lwX3_find : jLw yX3_find cX3_find 7 (some (.object "FarHeaps$Letter")) 3 := ⟨jtb (jm2 75 rfl) rfl, jtb (jm1 5 rfl) rfl, by decide +kernel, by decide +kernel, by decide +kernel⟩
theorem imX3_find : Cond.instanceMethod yX3_find ∈ jTB := jtb (jm2 74 rfl) rfl
theorem seX3_find : Cond.selects RX3 yX3_find yX3_find ∈ jTB := jtb (jm0 (q := (yX3_find, _)) 17 rfl) rfl
theorem lwX3_remove : jLw yX3_remove cX3_remove 4 none 1 := ⟨jtb (jm2 83 rfl) rfl, jtb (jm1 5 rfl) rfl, by decide +kernel, by decide +kernel, by decide +kernel⟩
theorem imX3_remove : Cond.instanceMethod yX3_remove ∈ jTB := jtb (jm2 82 rfl) rfl
theorem seX3_remove : Cond.selects RX3 yX3_remove yX3_remove ∈ jTB := jtb (jm0 (q := (yX3_remove, _)) 19 rfl) rfl
theorem lwX3_markRefs : jLw yX3_markRefs cX3_markRefs 3 none 1 := ⟨jtb (jm3 40 rfl) rfl, jtb (jm1 5 rfl) rfl, by decide +kernel, by decide +kernel, by decide +kernel⟩
theorem imX3_markRefs : Cond.instanceMethod yX3_markRefs ∈ jTB := jtb (jm3 39 rfl) rfl
theorem seX3_markRefs : Cond.selects RX3 yX3_markRefs yX3_markRefs ∈ jTB := jtb (jm0 (q := (yX3_markRefs, _)) 51 rfl) rfl
theorem lwX3_countTo : jLw yX3_countTo cX3_countTo 4 (some .int) 1 := ⟨jtb (jm3 72 rfl) rfl, jtb (jm1 5 rfl) rfl, by decide +kernel, by decide +kernel, by decide +kernel⟩
theorem imX3_countTo : Cond.instanceMethod yX3_countTo ∈ jTB := jtb (jm3 71 rfl) rfl
theorem seX3_countTo : Cond.selects RX3 yX3_countTo yX3_countTo ∈ jTB := jtb (jm0 (q := (yX3_countTo, _)) 55 rfl) rfl
theorem lwX3_weightOf : jLw yX3_weightOf cX3_weightOf 4 (some .int) 1 := ⟨jtb (jm3 84 rfl) rfl, jtb (jm1 5 rfl) rfl, by decide +kernel, by decide +kernel, by decide +kernel⟩
theorem imX3_weightOf : Cond.instanceMethod yX3_weightOf ∈ jTB := jtb (jm3 83 rfl) rfl
theorem seX3_weightOf : Cond.selects RX3 yX3_weightOf yX3_weightOf ∈ jTB := jtb (jm0 (q := (yX3_weightOf, _)) 57 rfl) rfl
theorem lwX4_init : jLw yX4_init cX4_init 1 none 0 := ⟨jtb (jm1 160 rfl) rfl, jtb (jm1 8 rfl) rfl, by decide +kernel, by decide +kernel, by decide +kernel⟩
theorem imX4_init : Cond.instanceMethod yX4_init ∈ jTB := jtb (jm1 159 rfl) rfl
theorem lwX4_run : jLw yX4_run cX4_run 5 (some .int) 3 := ⟨jtb (jm2 173 rfl) rfl, jtb (jm1 8 rfl) rfl, by decide +kernel, by decide +kernel, by decide +kernel⟩
theorem imX4_run : Cond.instanceMethod yX4_run ∈ jTB := jtb (jm2 172 rfl) rfl
theorem seX4_run : Cond.selects RX4 yX4_run yX4_run ∈ jTB := jtb (jm0 (q := (yX4_run, _)) 36 rfl) rfl
theorem lwX4_findWithout : jLw yX4_findWithout cX4_findWithout 4 none 2 := ⟨jtb (jm2 186 rfl) rfl, jtb (jm1 8 rfl) rfl, by decide +kernel, by decide +kernel, by decide +kernel⟩
theorem imX4_findWithout : Cond.instanceMethod yX4_findWithout ∈ jTB := jtb (jm2 185 rfl) rfl
theorem seX4_findWithout : Cond.selects RX4 yX4_findWithout yX4_findWithout ∈ jTB := jtb (jm0 (q := (yX4_findWithout, _)) 38 rfl) rfl
theorem lwX4_markHeldFromOutside : jLw yX4_markHeldFromOutside cX4_markHeldFromOutside 4 none 1 := ⟨jtb (jm2 190 rfl) rfl, jtb (jm1 8 rfl) rfl, by decide +kernel, by decide +kernel, by decide +kernel⟩
theorem imX4_markHeldFromOutside : Cond.instanceMethod yX4_markHeldFromOutside ∈ jTB := jtb (jm2 189 rfl) rfl
theorem seX4_markHeldFromOutside : Cond.selects RX4 yX4_markHeldFromOutside yX4_markHeldFromOutside ∈ jTB := jtb (jm0 (q := (yX4_markHeldFromOutside, _)) 39 rfl) rfl
theorem lwX4_markLocalGray : jLw yX4_markLocalGray cX4_markLocalGray 3 none 2 := ⟨jtb (jm2 194 rfl) rfl, jtb (jm1 8 rfl) rfl, by decide +kernel, by decide +kernel, by decide +kernel⟩
theorem imX4_markLocalGray : Cond.instanceMethod yX4_markLocalGray ∈ jTB := jtb (jm2 193 rfl) rfl
theorem seX4_markLocalGray : Cond.selects RX4 yX4_markLocalGray yX4_markLocalGray ∈ jTB := jtb (jm0 (q := (yX4_markLocalGray, _)) 40 rfl) rfl
theorem lwX4_markUncovered : jLw yX4_markUncovered cX4_markUncovered 7 (some .boolean) 1 := ⟨jtb (jm2 220 rfl) rfl, jtb (jm1 8 rfl) rfl, by decide +kernel, by decide +kernel, by decide +kernel⟩
theorem imX4_markUncovered : Cond.instanceMethod yX4_markUncovered ∈ jTB := jtb (jm2 219 rfl) rfl
theorem seX4_markUncovered : Cond.selects RX4 yX4_markUncovered yX4_markUncovered ∈ jTB := jtb (jm0 (q := (yX4_markUncovered, _)) 45 rfl) rfl
theorem lwX4_sumInnerWeights : jLw yX4_sumInnerWeights cX4_sumInnerWeights 4 none 1 := ⟨jtb (jm2 201 rfl) rfl, jtb (jm1 8 rfl) rfl, by decide +kernel, by decide +kernel, by decide +kernel⟩
theorem imX4_sumInnerWeights : Cond.instanceMethod yX4_sumInnerWeights ∈ jTB := jtb (jm2 200 rfl) rfl
theorem seX4_sumInnerWeights : Cond.selects RX4 yX4_sumInnerWeights yX4_sumInnerWeights ∈ jTB := jtb (jm0 (q := (yX4_sumInnerWeights, _)) 41 rfl) rfl
theorem lwX4_countInner : jLw yX4_countInner cX4_countInner 5 (some .int) 1 := ⟨jtb (jm2 224 rfl) rfl, jtb (jm1 8 rfl) rfl, by decide +kernel, by decide +kernel, by decide +kernel⟩
theorem imX4_countInner : Cond.instanceMethod yX4_countInner ∈ jTB := jtb (jm2 223 rfl) rfl
theorem seX4_countInner : Cond.selects RX4 yX4_countInner yX4_countInner ∈ jTB := jtb (jm0 (q := (yX4_countInner, _)) 46 rfl) rfl
theorem lwX4_findHolders : jLw yX4_findHolders cX4_findHolders 5 none 1 := ⟨jtb (jm2 206 rfl) rfl, jtb (jm1 8 rfl) rfl, by decide +kernel, by decide +kernel, by decide +kernel⟩
theorem imX4_findHolders : Cond.instanceMethod yX4_findHolders ∈ jTB := jtb (jm2 205 rfl) rfl
theorem seX4_findHolders : Cond.selects RX4 yX4_findHolders yX4_findHolders ∈ jTB := jtb (jm0 (q := (yX4_findHolders, _)) 42 rfl) rfl
theorem lwX4_noteHolder : jLw yX4_noteHolder cX4_noteHolder 5 none 3 := ⟨jtb (jm2 210 rfl) rfl, jtb (jm1 8 rfl) rfl, by decide +kernel, by decide +kernel, by decide +kernel⟩
theorem imX4_noteHolder : Cond.instanceMethod yX4_noteHolder ∈ jTB := jtb (jm2 209 rfl) rfl
theorem seX4_noteHolder : Cond.selects RX4 yX4_noteHolder yX4_noteHolder ∈ jTB := jtb (jm0 (q := (yX4_noteHolder, _)) 43 rfl) rfl
theorem lwX4_isLetGo : jLw yX4_isLetGo cX4_isLetGo 4 (some .boolean) 2 := ⟨jtb (jm2 216 rfl) rfl, jtb (jm1 8 rfl) rfl, by decide +kernel, by decide +kernel, by decide +kernel⟩
theorem imX4_isLetGo : Cond.instanceMethod yX4_isLetGo ∈ jTB := jtb (jm2 215 rfl) rfl
theorem seX4_isLetGo : Cond.selects RX4 yX4_isLetGo yX4_isLetGo ∈ jTB := jtb (jm0 (q := (yX4_isLetGo, _)) 44 rfl) rfl
theorem lwX4_letGo : jLw yX4_letGo cX4_letGo 4 none 2 := ⟨jtb (jm2 228 rfl) rfl, jtb (jm1 8 rfl) rfl, by decide +kernel, by decide +kernel, by decide +kernel⟩
theorem imX4_letGo : Cond.instanceMethod yX4_letGo ∈ jTB := jtb (jm2 227 rfl) rfl
theorem seX4_letGo : Cond.selects RX4 yX4_letGo yX4_letGo ∈ jTB := jtb (jm0 (q := (yX4_letGo, _)) 47 rfl) rfl
theorem lwX5_init : jLw yX5_init cX5_init 3 none 1 := ⟨jtb (jm1 14 rfl) rfl, jtb (jm1 1 rfl) rfl, by decide +kernel, by decide +kernel, by decide +kernel⟩
theorem imX5_init : Cond.instanceMethod yX5_init ∈ jTB := jtb (jm1 13 rfl) rfl
theorem lwX5_make : jLw yX5_make cX5_make 6 (some .int) 3 := ⟨jtb (jm1 193 rfl) rfl, jtb (jm1 1 rfl) rfl, by decide +kernel, by decide +kernel, by decide +kernel⟩
theorem imX5_make : Cond.instanceMethod yX5_make ∈ jTB := jtb (jm1 191 rfl) rfl
theorem seX5_make : Cond.selects RX5 yX5_make yX5_make ∈ jTB := jtb (jm1 192 rfl) rfl
theorem lwX5_set : jLw yX5_set cX5_set 6 (some .boolean) 4 := ⟨jtb (jm1 223 rfl) rfl, jtb (jm1 1 rfl) rfl, by decide +kernel, by decide +kernel, by decide +kernel⟩
theorem imX5_set : Cond.instanceMethod yX5_set ∈ jTB := jtb (jm1 221 rfl) rfl
theorem seX5_set : Cond.selects RX5 yX5_set yX5_set ∈ jTB := jtb (jm1 222 rfl) rfl
theorem lwX5_get : jLw yX5_get cX5_get 6 (some .boolean) 4 := ⟨jtb (jm2 10 rfl) rfl, jtb (jm1 1 rfl) rfl, by decide +kernel, by decide +kernel, by decide +kernel⟩
theorem imX5_get : Cond.instanceMethod yX5_get ∈ jTB := jtb (jm2 8 rfl) rfl
theorem seX5_get : Cond.selects RX5 yX5_get yX5_get ∈ jTB := jtb (jm2 9 rfl) rfl
theorem lwX5_number : jLw yX5_number cX5_number 4 (some .boolean) 3 := ⟨jtb (jm2 14 rfl) rfl, jtb (jm1 1 rfl) rfl, by decide +kernel, by decide +kernel, by decide +kernel⟩
theorem imX5_number : Cond.instanceMethod yX5_number ∈ jTB := jtb (jm2 12 rfl) rfl
theorem seX5_number : Cond.selects RX5 yX5_number yX5_number ∈ jTB := jtb (jm2 13 rfl) rfl
theorem lwX5_drop : jLw yX5_drop cX5_drop 3 (some .boolean) 2 := ⟨jtb (jm2 18 rfl) rfl, jtb (jm1 1 rfl) rfl, by decide +kernel, by decide +kernel, by decide +kernel⟩
theorem imX5_drop : Cond.instanceMethod yX5_drop ∈ jTB := jtb (jm2 16 rfl) rfl
theorem seX5_drop : Cond.selects RX5 yX5_drop yX5_drop ∈ jTB := jtb (jm2 17 rfl) rfl
theorem lwX5_send : jLw yX5_send cX5_send 8 (some .int) 4 := ⟨jtb (jm2 26 rfl) rfl, jtb (jm1 1 rfl) rfl, by decide +kernel, by decide +kernel, by decide +kernel⟩
theorem imX5_send : Cond.instanceMethod yX5_send ∈ jTB := jtb (jm2 24 rfl) rfl
theorem seX5_send : Cond.selects RX5 yX5_send yX5_send ∈ jTB := jtb (jm2 25 rfl) rfl
theorem lwX5_ask : jLw yX5_ask cX5_ask 4 (some .boolean) 2 := ⟨jtb (jm2 66 rfl) rfl, jtb (jm1 1 rfl) rfl, by decide +kernel, by decide +kernel, by decide +kernel⟩
theorem imX5_ask : Cond.instanceMethod yX5_ask ∈ jTB := jtb (jm2 64 rfl) rfl
theorem seX5_ask : Cond.selects RX5 yX5_ask yX5_ask ∈ jTB := jtb (jm2 65 rfl) rfl
theorem lwX5_come : jLw yX5_come cX5_come 8 (some .int) 2 := ⟨jtb (jm2 71 rfl) rfl, jtb (jm1 1 rfl) rfl, by decide +kernel, by decide +kernel, by decide +kernel⟩
theorem imX5_come : Cond.instanceMethod yX5_come ∈ jTB := jtb (jm2 69 rfl) rfl
theorem seX5_come : Cond.selects RX5 yX5_come yX5_come ∈ jTB := jtb (jm2 70 rfl) rfl
theorem lwX5_drain : jLw yX5_drain cX5_drain 3 (some .int) 1 := ⟨jtb (jm2 98 rfl) rfl, jtb (jm1 1 rfl) rfl, by decide +kernel, by decide +kernel, by decide +kernel⟩
theorem imX5_drain : Cond.instanceMethod yX5_drain ∈ jTB := jtb (jm2 96 rfl) rfl
theorem seX5_drain : Cond.selects RX5 yX5_drain yX5_drain ∈ jTB := jtb (jm2 97 rfl) rfl
theorem lwX5_collect : jLw yX5_collect cX5_collect 3 (some .int) 1 := ⟨jtb (jm2 107 rfl) rfl, jtb (jm1 1 rfl) rfl, by decide +kernel, by decide +kernel, by decide +kernel⟩
theorem imX5_collect : Cond.instanceMethod yX5_collect ∈ jTB := jtb (jm2 105 rfl) rfl
theorem seX5_collect : Cond.selects RX5 yX5_collect yX5_collect ∈ jTB := jtb (jm2 106 rfl) rfl
theorem lwX5_trial : jLw yX5_trial cX5_trial 3 (some .int) 2 := ⟨jtb (jm2 164 rfl) rfl, jtb (jm1 1 rfl) rfl, by decide +kernel, by decide +kernel, by decide +kernel⟩
theorem imX5_trial : Cond.instanceMethod yX5_trial ∈ jTB := jtb (jm2 162 rfl) rfl
theorem seX5_trial : Cond.selects RX5 yX5_trial yX5_trial ∈ jTB := jtb (jm2 163 rfl) rfl
theorem lwX5_settle : jLw yX5_settle cX5_settle 8 (some .int) 0 := ⟨jtb (jm2 234 rfl) rfl, jtb (jm1 1 rfl) rfl, by decide +kernel, by decide +kernel, by decide +kernel⟩
theorem imX5_settle : Cond.instanceMethod yX5_settle ∈ jTB := jtb (jm2 232 rfl) rfl
theorem seX5_settle : Cond.selects RX5 yX5_settle yX5_settle ∈ jTB := jtb (jm2 233 rfl) rfl
theorem lwX5_pass : jLw yX5_pass cX5_pass 6 (some .int) 0 := ⟨jtb (jm3 1 rfl) rfl, jtb (jm1 1 rfl) rfl, by decide +kernel, by decide +kernel, by decide +kernel⟩
theorem imX5_pass : Cond.instanceMethod yX5_pass ∈ jTB := jtb (jm2 239 rfl) rfl
theorem seX5_pass : Cond.selects RX5 yX5_pass yX5_pass ∈ jTB := jtb (jm3 0 rfl) rfl
theorem lwX5_register : jLw yX5_register cX5_register 4 (some .int) 3 := ⟨jtb (jm3 7 rfl) rfl, jtb (jm1 1 rfl) rfl, by decide +kernel, by decide +kernel, by decide +kernel⟩
theorem imX5_register : Cond.instanceMethod yX5_register ∈ jTB := jtb (jm3 5 rfl) rfl
theorem seX5_register : Cond.selects RX5 yX5_register yX5_register ∈ jTB := jtb (jm3 6 rfl) rfl
theorem lwX5_field : jLw yX5_field cX5_field 5 (some .int) 4 := ⟨jtb (jm3 18 rfl) rfl, jtb (jm1 1 rfl) rfl, by decide +kernel, by decide +kernel, by decide +kernel⟩
theorem imX5_field : Cond.instanceMethod yX5_field ∈ jTB := jtb (jm3 16 rfl) rfl
theorem seX5_field : Cond.selects RX5 yX5_field yX5_field ∈ jTB := jtb (jm3 17 rfl) rfl
theorem lwX5_cell : jLw yX5_cell cX5_cell 5 (some .int) 3 := ⟨jtb (jm3 22 rfl) rfl, jtb (jm1 1 rfl) rfl, by decide +kernel, by decide +kernel, by decide +kernel⟩
theorem imX5_cell : Cond.instanceMethod yX5_cell ∈ jTB := jtb (jm3 20 rfl) rfl
theorem seX5_cell : Cond.selects RX5 yX5_cell yX5_cell ∈ jTB := jtb (jm3 21 rfl) rfl
theorem lwX5_object : jLw yX5_object cX5_object 4 (some .int) 3 := ⟨jtb (jm3 30 rfl) rfl, jtb (jm1 1 rfl) rfl, by decide +kernel, by decide +kernel, by decide +kernel⟩
theorem imX5_object : Cond.instanceMethod yX5_object ∈ jTB := jtb (jm3 28 rfl) rfl
theorem seX5_object : Cond.selects RX5 yX5_object yX5_object ∈ jTB := jtb (jm3 29 rfl) rfl
theorem lwX5_weight : jLw yX5_weight cX5_weight 4 (some .int) 3 := ⟨jtb (jm3 47 rfl) rfl, jtb (jm1 1 rfl) rfl, by decide +kernel, by decide +kernel, by decide +kernel⟩
theorem imX5_weight : Cond.instanceMethod yX5_weight ∈ jTB := jtb (jm3 45 rfl) rfl
theorem seX5_weight : Cond.selects RX5 yX5_weight yX5_weight ∈ jTB := jtb (jm3 46 rfl) rfl
theorem lwX5_message : jLw yX5_message cX5_message 6 (some .int) 4 := ⟨jtb (jm3 51 rfl) rfl, jtb (jm1 1 rfl) rfl, by decide +kernel, by decide +kernel, by decide +kernel⟩
theorem imX5_message : Cond.instanceMethod yX5_message ∈ jTB := jtb (jm3 49 rfl) rfl
theorem seX5_message : Cond.selects RX5 yX5_message yX5_message ∈ jTB := jtb (jm3 50 rfl) rfl
theorem lwX5_count : jLw yX5_count cX5_count 5 (some .int) 2 := ⟨jtb (jm3 56 rfl) rfl, jtb (jm1 1 rfl) rfl, by decide +kernel, by decide +kernel, by decide +kernel⟩
theorem imX5_count : Cond.instanceMethod yX5_count ∈ jTB := jtb (jm3 54 rfl) rfl
theorem seX5_count : Cond.selects RX5 yX5_count yX5_count ∈ jTB := jtb (jm3 55 rfl) rfl
theorem lwX5_isEven : jLw yX5_isEven cX5_isEven 4 (some .boolean) 0 := ⟨jtb (jm3 76 rfl) rfl, jtb (jm1 1 rfl) rfl, by decide +kernel, by decide +kernel, by decide +kernel⟩
theorem imX5_isEven : Cond.instanceMethod yX5_isEven ∈ jTB := jtb (jm3 74 rfl) rfl
theorem seX5_isEven : Cond.selects RX5 yX5_isEven yX5_isEven ∈ jTB := jtb (jm3 75 rfl) rfl
theorem lwX5_idOf : jLw yX5_idOf cX5_idOf 2 (some .int) 2 := ⟨jtb (jm1 215 rfl) rfl, jtb (jm1 1 rfl) rfl, by decide +kernel, by decide +kernel, by decide +kernel⟩
theorem stX5_idOf : Cond.static yX5_idOf ∈ jTB := jtb (jm1 214 rfl) rfl
theorem lwX5_isId : jLw yX5_isId cX5_isId 1 (some .boolean) 1 := ⟨jtb (jm2 48 rfl) rfl, jtb (jm1 1 rfl) rfl, by decide +kernel, by decide +kernel, by decide +kernel⟩
theorem stX5_isId : Cond.static yX5_isId ∈ jTB := jtb (jm2 47 rfl) rfl
theorem lwX5_nodeOf : jLw yX5_nodeOf cX5_nodeOf 1 (some .int) 1 := ⟨jtb (jm2 41 rfl) rfl, jtb (jm1 1 rfl) rfl, by decide +kernel, by decide +kernel, by decide +kernel⟩
theorem stX5_nodeOf : Cond.static yX5_nodeOf ∈ jTB := jtb (jm2 40 rfl) rfl
theorem lwX5_numberOf : jLw yX5_numberOf cX5_numberOf 1 (some .int) 1 := ⟨jtb (jm1 230 rfl) rfl, jtb (jm1 1 rfl) rfl, by decide +kernel, by decide +kernel, by decide +kernel⟩
theorem stX5_numberOf : Cond.static yX5_numberOf ∈ jTB := jtb (jm1 229 rfl) rfl
theorem lwX5_nameOf : jLw yX5_nameOf cX5_nameOf 1 (some .int) 1 := ⟨jtb (jm3 14 rfl) rfl, jtb (jm1 1 rfl) rfl, by decide +kernel, by decide +kernel, by decide +kernel⟩
theorem stX5_nameOf : Cond.static yX5_nameOf ∈ jTB := jtb (jm3 13 rfl) rfl
theorem lwX5_fieldSlot : jLw yX5_fieldSlot cX5_fieldSlot 2 (some .int) 2 := ⟨jtb (jm2 1 rfl) rfl, jtb (jm1 1 rfl) rfl, by decide +kernel, by decide +kernel, by decide +kernel⟩
theorem stX5_fieldSlot : Cond.static yX5_fieldSlot ∈ jTB := jtb (jm2 0 rfl) rfl
theorem lwX5_isRegister : jLw yX5_isRegister cX5_isRegister 1 (some .boolean) 1 := ⟨jtb (jm1 200 rfl) rfl, jtb (jm1 1 rfl) rfl, by decide +kernel, by decide +kernel, by decide +kernel⟩
theorem stX5_isRegister : Cond.static yX5_isRegister ∈ jTB := jtb (jm1 199 rfl) rfl
theorem lwX5_isNode : jLw yX5_isNode cX5_isNode 2 (some .boolean) 1 := ⟨jtb (jm1 197 rfl) rfl, jtb (jm1 1 rfl) rfl, by decide +kernel, by decide +kernel, by decide +kernel⟩
theorem imX5_isNode : Cond.instanceMethod yX5_isNode ∈ jTB := jtb (jm1 196 rfl) rfl
theorem seX5_isNode : Cond.selects RX5 yX5_isNode yX5_isNode ∈ jTB := jtb (jm0 (q := (yX5_isNode, _)) 0 rfl) rfl
theorem lwX5_isObject : jLw yX5_isObject cX5_isObject 3 (some .boolean) 2 := ⟨jtb (jm2 168 rfl) rfl, jtb (jm1 1 rfl) rfl, by decide +kernel, by decide +kernel, by decide +kernel⟩
theorem imX5_isObject : Cond.instanceMethod yX5_isObject ∈ jTB := jtb (jm2 167 rfl) rfl
theorem seX5_isObject : Cond.selects RX5 yX5_isObject yX5_isObject ∈ jTB := jtb (jm0 (q := (yX5_isObject, _)) 35 rfl) rfl
theorem lwX5_slotBehind : jLw yX5_slotBehind cX5_slotBehind 5 (some .int) 3 := ⟨jtb (jm1 227 rfl) rfl, jtb (jm1 1 rfl) rfl, by decide +kernel, by decide +kernel, by decide +kernel⟩
theorem imX5_slotBehind : Cond.instanceMethod yX5_slotBehind ∈ jTB := jtb (jm1 226 rfl) rfl
theorem seX5_slotBehind : Cond.selects RX5 yX5_slotBehind yX5_slotBehind ∈ jTB := jtb (jm0 (q := (yX5_slotBehind, _)) 5 rfl) rfl
theorem lwX5_takeGrant : jLw yX5_takeGrant cX5_takeGrant 4 none 3 := ⟨jtb (jm2 92 rfl) rfl, jtb (jm1 1 rfl) rfl, by decide +kernel, by decide +kernel, by decide +kernel⟩
theorem imX5_takeGrant : Cond.instanceMethod yX5_takeGrant ∈ jTB := jtb (jm2 91 rfl) rfl
theorem seX5_takeGrant : Cond.selects RX5 yX5_takeGrant yX5_takeGrant ∈ jTB := jtb (jm0 (q := (yX5_takeGrant, _)) 21 rfl) rfl
theorem lwX5_bringNext : jLw yX5_bringNext cX5_bringNext 3 (some .boolean) 0 := ⟨jtb (jm2 102 rfl) rfl, jtb (jm1 1 rfl) rfl, by decide +kernel, by decide +kernel, by decide +kernel⟩
theorem imX5_bringNext : Cond.instanceMethod yX5_bringNext ∈ jTB := jtb (jm2 101 rfl) rfl
theorem seX5_bringNext : Cond.selects RX5 yX5_bringNext yX5_bringNext ∈ jTB := jtb (jm0 (q := (yX5_bringNext, _)) 22 rfl) rfl
theorem lwX5_markHeld : jLw yX5_markHeld cX5_markHeld 2 none 0 := ⟨jtb (jm3 34 rfl) rfl, jtb (jm1 1 rfl) rfl, by decide +kernel, by decide +kernel, by decide +kernel⟩
theorem imX5_markHeld : Cond.instanceMethod yX5_markHeld ∈ jTB := jtb (jm3 33 rfl) rfl
theorem seX5_markHeld : Cond.selects RX5 yX5_markHeld yX5_markHeld ∈ jTB := jtb (jm0 (q := (yX5_markHeld, _)) 50 rfl) rfl
theorem lwX5_countOf : jLw yX5_countOf cX5_countOf 3 (some .int) 2 := ⟨jtb (jm3 60 rfl) rfl, jtb (jm1 1 rfl) rfl, by decide +kernel, by decide +kernel, by decide +kernel⟩
theorem imX5_countOf : Cond.instanceMethod yX5_countOf ∈ jTB := jtb (jm3 59 rfl) rfl
theorem seX5_countOf : Cond.selects RX5 yX5_countOf yX5_countOf ∈ jTB := jtb (jm0 (q := (yX5_countOf, _)) 52 rfl) rfl
theorem lwX5_weightsOf : jLw yX5_weightsOf cX5_weightsOf 4 (some .int) 1 := ⟨jtb (jm3 80 rfl) rfl, jtb (jm1 1 rfl) rfl, by decide +kernel, by decide +kernel, by decide +kernel⟩
theorem imX5_weightsOf : Cond.instanceMethod yX5_weightsOf ∈ jTB := jtb (jm3 79 rfl) rfl
theorem seX5_weightsOf : Cond.selects RX5 yX5_weightsOf yX5_weightsOf ∈ jTB := jtb (jm0 (q := (yX5_weightsOf, _)) 56 rfl) rfl
theorem lwX6_init : jLw yX6_init cX6_init 2 none 1 := ⟨jtb (jm3 92 rfl) rfl, jtb (jm1 9 rfl) rfl, by decide +kernel, by decide +kernel, by decide +kernel⟩
theorem imX6_init : Cond.instanceMethod yX6_init ∈ jTB := jtb (jm3 91 rfl) rfl
theorem lwX6_isNode : jLw yX6_isNode cX6_isNode 2 (some .boolean) 1 := ⟨jtb (jm3 189 rfl) rfl, jtb (jm1 9 rfl) rfl, by decide +kernel, by decide +kernel, by decide +kernel⟩
theorem imX6_isNode : Cond.instanceMethod yX6_isNode ∈ jTB := jtb (jm3 188 rfl) rfl
theorem seX6_isNode : Cond.selects RX6 yX6_isNode yX6_isNode ∈ jTB := jtb (jm0 (q := (yX6_isNode, _)) 59 rfl) rfl
theorem lwX6_isRegister : jLw yX6_isRegister cX6_isRegister 3 (some .boolean) 2 := ⟨jtb (jm3 185 rfl) rfl, jtb (jm1 9 rfl) rfl, by decide +kernel, by decide +kernel, by decide +kernel⟩
theorem imX6_isRegister : Cond.instanceMethod yX6_isRegister ∈ jTB := jtb (jm3 184 rfl) rfl
theorem seX6_isRegister : Cond.selects RX6 yX6_isRegister yX6_isRegister ∈ jTB := jtb (jm0 (q := (yX6_isRegister, _)) 58 rfl) rfl
theorem lwX6_isObject : jLw yX6_isObject cX6_isObject 3 (some .boolean) 2 := ⟨jtb (jm4 49 rfl) rfl, jtb (jm1 9 rfl) rfl, by decide +kernel, by decide +kernel, by decide +kernel⟩
theorem imX6_isObject : Cond.instanceMethod yX6_isObject ∈ jTB := jtb (jm4 48 rfl) rfl
theorem seX6_isObject : Cond.selects RX6 yX6_isObject yX6_isObject ∈ jTB := jtb (jm0 (q := (yX6_isObject, _)) 74 rfl) rfl
theorem lwX6_local : jLw yX6_local cX6_local 4 (some .int) 2 := ⟨jtb (jm3 201 rfl) rfl, jtb (jm1 9 rfl) rfl, by decide +kernel, by decide +kernel, by decide +kernel⟩
theorem imX6_local : Cond.instanceMethod yX6_local ∈ jTB := jtb (jm3 200 rfl) rfl
theorem seX6_local : Cond.selects RX6 yX6_local yX6_local ∈ jTB := jtb (jm0 (q := (yX6_local, _)) 61 rfl) rfl
theorem lwX6_make : jLw yX6_make cX6_make 7 (some .int) 3 := ⟨jtb (jm3 181 rfl) rfl, jtb (jm1 9 rfl) rfl, by decide +kernel, by decide +kernel, by decide +kernel⟩
theorem imX6_make : Cond.instanceMethod yX6_make ∈ jTB := jtb (jm3 179 rfl) rfl
theorem seX6_make : Cond.selects RX6 yX6_make yX6_make ∈ jTB := jtb (jm3 180 rfl) rfl
theorem lwX6_isField : jLw yX6_isField cX6_isField 4 (some .boolean) 3 := ⟨jtb (jm3 197 rfl) rfl, jtb (jm1 9 rfl) rfl, by decide +kernel, by decide +kernel, by decide +kernel⟩
theorem imX6_isField : Cond.instanceMethod yX6_isField ∈ jTB := jtb (jm3 196 rfl) rfl
theorem seX6_isField : Cond.selects RX6 yX6_isField yX6_isField ∈ jTB := jtb (jm0 (q := (yX6_isField, _)) 60 rfl) rfl
theorem lwX6_set : jLw yX6_set cX6_set 6 (some .boolean) 4 := ⟨jtb (jm3 193 rfl) rfl, jtb (jm1 9 rfl) rfl, by decide +kernel, by decide +kernel, by decide +kernel⟩
theorem imX6_set : Cond.instanceMethod yX6_set ∈ jTB := jtb (jm3 191 rfl) rfl
theorem seX6_set : Cond.selects RX6 yX6_set yX6_set ∈ jTB := jtb (jm3 192 rfl) rfl
theorem lwX6_get : jLw yX6_get cX6_get 6 (some .boolean) 4 := ⟨jtb (jm3 205 rfl) rfl, jtb (jm1 9 rfl) rfl, by decide +kernel, by decide +kernel, by decide +kernel⟩
theorem imX6_get : Cond.instanceMethod yX6_get ∈ jTB := jtb (jm3 203 rfl) rfl
theorem seX6_get : Cond.selects RX6 yX6_get yX6_get ∈ jTB := jtb (jm3 204 rfl) rfl
theorem lwX6_holds : jLw yX6_holds cX6_holds 5 none 4 := ⟨jtb (jm3 213 rfl) rfl, jtb (jm1 9 rfl) rfl, by decide +kernel, by decide +kernel, by decide +kernel⟩
theorem imX6_holds : Cond.instanceMethod yX6_holds ∈ jTB := jtb (jm3 212 rfl) rfl
theorem seX6_holds : Cond.selects RX6 yX6_holds yX6_holds ∈ jTB := jtb (jm0 (q := (yX6_holds, _)) 62 rfl) rfl
theorem lwX6_number : jLw yX6_number cX6_number 4 (some .boolean) 3 := ⟨jtb (jm3 209 rfl) rfl, jtb (jm1 9 rfl) rfl, by decide +kernel, by decide +kernel, by decide +kernel⟩
theorem imX6_number : Cond.instanceMethod yX6_number ∈ jTB := jtb (jm3 207 rfl) rfl
theorem seX6_number : Cond.selects RX6 yX6_number yX6_number ∈ jTB := jtb (jm3 208 rfl) rfl
theorem lwX6_drop : jLw yX6_drop cX6_drop 3 (some .boolean) 2 := ⟨jtb (jm3 217 rfl) rfl, jtb (jm1 9 rfl) rfl, by decide +kernel, by decide +kernel, by decide +kernel⟩
theorem imX6_drop : Cond.instanceMethod yX6_drop ∈ jTB := jtb (jm3 215 rfl) rfl
theorem seX6_drop : Cond.selects RX6 yX6_drop yX6_drop ∈ jTB := jtb (jm3 216 rfl) rfl
theorem lwX6_sends : jLw yX6_sends cX6_sends 7 none 6 := ⟨jtb (jm3 225 rfl) rfl, jtb (jm1 9 rfl) rfl, by decide +kernel, by decide +kernel, by decide +kernel⟩
theorem imX6_sends : Cond.instanceMethod yX6_sends ∈ jTB := jtb (jm3 224 rfl) rfl
theorem seX6_sends : Cond.selects RX6 yX6_sends yX6_sends ∈ jTB := jtb (jm0 (q := (yX6_sends, _)) 63 rfl) rfl
theorem lwX6_takes : jLw yX6_takes cX6_takes 3 none 1 := ⟨jtb (jm4 13 rfl) rfl, jtb (jm1 9 rfl) rfl, by decide +kernel, by decide +kernel, by decide +kernel⟩
theorem imX6_takes : Cond.instanceMethod yX6_takes ∈ jTB := jtb (jm4 12 rfl) rfl
theorem seX6_takes : Cond.selects RX6 yX6_takes yX6_takes ∈ jTB := jtb (jm0 (q := (yX6_takes, _)) 68 rfl) rfl
theorem lwX6_send : jLw yX6_send cX6_send 8 (some .int) 4 := ⟨jtb (jm3 221 rfl) rfl, jtb (jm1 9 rfl) rfl, by decide +kernel, by decide +kernel, by decide +kernel⟩
theorem imX6_send : Cond.instanceMethod yX6_send ∈ jTB := jtb (jm3 219 rfl) rfl
theorem seX6_send : Cond.selects RX6 yX6_send yX6_send ∈ jTB := jtb (jm3 220 rfl) rfl
theorem lwX6_ask : jLw yX6_ask cX6_ask 4 (some .boolean) 2 := ⟨jtb (jm3 229 rfl) rfl, jtb (jm1 9 rfl) rfl, by decide +kernel, by decide +kernel, by decide +kernel⟩
theorem imX6_ask : Cond.instanceMethod yX6_ask ∈ jTB := jtb (jm3 227 rfl) rfl
theorem seX6_ask : Cond.selects RX6 yX6_ask yX6_ask ∈ jTB := jtb (jm3 228 rfl) rfl
theorem lwX6_importsOf : jLw yX6_importsOf cX6_importsOf 4 (some .int) 1 := ⟨jtb (jm4 5 rfl) rfl, jtb (jm1 9 rfl) rfl, by decide +kernel, by decide +kernel, by decide +kernel⟩
theorem imX6_importsOf : Cond.instanceMethod yX6_importsOf ∈ jTB := jtb (jm4 4 rfl) rfl
theorem seX6_importsOf : Cond.selects RX6 yX6_importsOf yX6_importsOf ∈ jTB := jtb (jm0 (q := (yX6_importsOf, _)) 66 rfl) rfl
theorem lwX6_firstOf : jLw yX6_firstOf cX6_firstOf 4 (some .int) 2 := ⟨jtb (jm3 237 rfl) rfl, jtb (jm1 9 rfl) rfl, by decide +kernel, by decide +kernel, by decide +kernel⟩
theorem imX6_firstOf : Cond.instanceMethod yX6_firstOf ∈ jTB := jtb (jm3 236 rfl) rfl
theorem seX6_firstOf : Cond.selects RX6 yX6_firstOf yX6_firstOf ∈ jTB := jtb (jm0 (q := (yX6_firstOf, _)) 64 rfl) rfl
theorem lwX6_stays : jLw yX6_stays cX6_stays 4 (some .boolean) 1 := ⟨jtb (jm4 1 rfl) rfl, jtb (jm1 9 rfl) rfl, by decide +kernel, by decide +kernel, by decide +kernel⟩
theorem imX6_stays : Cond.instanceMethod yX6_stays ∈ jTB := jtb (jm4 0 rfl) rfl
theorem seX6_stays : Cond.selects RX6 yX6_stays yX6_stays ∈ jTB := jtb (jm0 (q := (yX6_stays, _)) 65 rfl) rfl
theorem lwX6_comes : jLw yX6_comes cX6_comes 8 none 1 := ⟨jtb (jm4 9 rfl) rfl, jtb (jm1 9 rfl) rfl, by decide +kernel, by decide +kernel, by decide +kernel⟩
theorem imX6_comes : Cond.instanceMethod yX6_comes ∈ jTB := jtb (jm4 8 rfl) rfl
theorem seX6_comes : Cond.selects RX6 yX6_comes yX6_comes ∈ jTB := jtb (jm0 (q := (yX6_comes, _)) 67 rfl) rfl
theorem lwX6_come : jLw yX6_come cX6_come 5 (some .int) 2 := ⟨jtb (jm3 233 rfl) rfl, jtb (jm1 9 rfl) rfl, by decide +kernel, by decide +kernel, by decide +kernel⟩
theorem imX6_come : Cond.instanceMethod yX6_come ∈ jTB := jtb (jm3 231 rfl) rfl
theorem seX6_come : Cond.selects RX6 yX6_come yX6_come ∈ jTB := jtb (jm3 232 rfl) rfl
theorem lwX6_drains : jLw yX6_drains cX6_drains 7 (some .int) 1 := ⟨jtb (jm4 21 rfl) rfl, jtb (jm1 9 rfl) rfl, by decide +kernel, by decide +kernel, by decide +kernel⟩
theorem imX6_drains : Cond.instanceMethod yX6_drains ∈ jTB := jtb (jm4 20 rfl) rfl
theorem seX6_drains : Cond.selects RX6 yX6_drains yX6_drains ∈ jTB := jtb (jm0 (q := (yX6_drains, _)) 69 rfl) rfl
theorem lwX6_drain : jLw yX6_drain cX6_drain 2 (some .int) 1 := ⟨jtb (jm4 17 rfl) rfl, jtb (jm1 9 rfl) rfl, by decide +kernel, by decide +kernel, by decide +kernel⟩
theorem imX6_drain : Cond.instanceMethod yX6_drain ∈ jTB := jtb (jm4 15 rfl) rfl
theorem seX6_drain : Cond.selects RX6 yX6_drain yX6_drain ∈ jTB := jtb (jm4 16 rfl) rfl
theorem lwX6_marks : jLw yX6_marks cX6_marks 4 none 3 := ⟨jtb (jm4 33 rfl) rfl, jtb (jm1 9 rfl) rfl, by decide +kernel, by decide +kernel, by decide +kernel⟩
theorem imX6_marks : Cond.instanceMethod yX6_marks ∈ jTB := jtb (jm4 32 rfl) rfl
theorem seX6_marks : Cond.selects RX6 yX6_marks yX6_marks ∈ jTB := jtb (jm0 (q := (yX6_marks, _)) 71 rfl) rfl
theorem lwX6_collects : jLw yX6_collects cX6_collects 6 (some .int) 1 := ⟨jtb (jm4 29 rfl) rfl, jtb (jm1 9 rfl) rfl, by decide +kernel, by decide +kernel, by decide +kernel⟩
theorem imX6_collects : Cond.instanceMethod yX6_collects ∈ jTB := jtb (jm4 28 rfl) rfl
theorem seX6_collects : Cond.selects RX6 yX6_collects yX6_collects ∈ jTB := jtb (jm0 (q := (yX6_collects, _)) 70 rfl) rfl
theorem lwX6_givesBack : jLw yX6_givesBack cX6_givesBack 3 none 2 := ⟨jtb (jm4 41 rfl) rfl, jtb (jm1 9 rfl) rfl, by decide +kernel, by decide +kernel, by decide +kernel⟩
theorem imX6_givesBack : Cond.instanceMethod yX6_givesBack ∈ jTB := jtb (jm4 40 rfl) rfl
theorem seX6_givesBack : Cond.selects RX6 yX6_givesBack yX6_givesBack ∈ jTB := jtb (jm0 (q := (yX6_givesBack, _)) 73 rfl) rfl
theorem lwX6_slides : jLw yX6_slides cX6_slides 6 none 1 := ⟨jtb (jm4 37 rfl) rfl, jtb (jm1 9 rfl) rfl, by decide +kernel, by decide +kernel, by decide +kernel⟩
theorem imX6_slides : Cond.instanceMethod yX6_slides ∈ jTB := jtb (jm4 36 rfl) rfl
theorem seX6_slides : Cond.selects RX6 yX6_slides yX6_slides ∈ jTB := jtb (jm0 (q := (yX6_slides, _)) 72 rfl) rfl
theorem lwX6_collect : jLw yX6_collect cX6_collect 2 (some .int) 1 := ⟨jtb (jm4 25 rfl) rfl, jtb (jm1 9 rfl) rfl, by decide +kernel, by decide +kernel, by decide +kernel⟩
theorem imX6_collect : Cond.instanceMethod yX6_collect ∈ jTB := jtb (jm4 23 rfl) rfl
theorem seX6_collect : Cond.selects RX6 yX6_collect yX6_collect ∈ jTB := jtb (jm4 24 rfl) rfl
theorem lwX6_grays : jLw yX6_grays cX6_grays 2 none 1 := ⟨jtb (jm4 57 rfl) rfl, jtb (jm1 9 rfl) rfl, by decide +kernel, by decide +kernel, by decide +kernel⟩
theorem imX6_grays : Cond.instanceMethod yX6_grays ∈ jTB := jtb (jm4 56 rfl) rfl
theorem seX6_grays : Cond.selects RX6 yX6_grays yX6_grays ∈ jTB := jtb (jm0 (q := (yX6_grays, _)) 76 rfl) rfl
theorem lwX6_trial : jLw yX6_trial cX6_trial 3 (some .int) 2 := ⟨jtb (jm4 45 rfl) rfl, jtb (jm1 9 rfl) rfl, by decide +kernel, by decide +kernel, by decide +kernel⟩
theorem imX6_trial : Cond.instanceMethod yX6_trial ∈ jTB := jtb (jm4 43 rfl) rfl
theorem seX6_trial : Cond.selects RX6 yX6_trial yX6_trial ∈ jTB := jtb (jm4 44 rfl) rfl
theorem lwX6_tries : jLw yX6_tries cX6_tries 7 (some .int) 1 := ⟨jtb (jm4 53 rfl) rfl, jtb (jm1 9 rfl) rfl, by decide +kernel, by decide +kernel, by decide +kernel⟩
theorem imX6_tries : Cond.instanceMethod yX6_tries ∈ jTB := jtb (jm4 52 rfl) rfl
theorem seX6_tries : Cond.selects RX6 yX6_tries yX6_tries ∈ jTB := jtb (jm0 (q := (yX6_tries, _)) 75 rfl) rfl
theorem lwX6_judges : jLw yX6_judges cX6_judges 3 none 0 := ⟨jtb (jm4 61 rfl) rfl, jtb (jm1 9 rfl) rfl, by decide +kernel, by decide +kernel, by decide +kernel⟩
theorem imX6_judges : Cond.instanceMethod yX6_judges ∈ jTB := jtb (jm4 60 rfl) rfl
theorem seX6_judges : Cond.selects RX6 yX6_judges yX6_judges ∈ jTB := jtb (jm0 (q := (yX6_judges, _)) 77 rfl) rfl
theorem lwX6_goesOut : jLw yX6_goesOut cX6_goesOut 2 (some .boolean) 1 := ⟨jtb (jm4 69 rfl) rfl, jtb (jm1 9 rfl) rfl, by decide +kernel, by decide +kernel, by decide +kernel⟩
theorem imX6_goesOut : Cond.instanceMethod yX6_goesOut ∈ jTB := jtb (jm4 68 rfl) rfl
theorem seX6_goesOut : Cond.selects RX6 yX6_goesOut yX6_goesOut ∈ jTB := jtb (jm0 (q := (yX6_goesOut, _)) 79 rfl) rfl
theorem lwX6_grows : jLw yX6_grows cX6_grows 6 (some .boolean) 0 := ⟨jtb (jm4 65 rfl) rfl, jtb (jm1 9 rfl) rfl, by decide +kernel, by decide +kernel, by decide +kernel⟩
theorem imX6_grows : Cond.instanceMethod yX6_grows ∈ jTB := jtb (jm4 64 rfl) rfl
theorem seX6_grows : Cond.selects RX6 yX6_grows yX6_grows ∈ jTB := jtb (jm0 (q := (yX6_grows, _)) 78 rfl) rfl
theorem lwX6_settles : jLw yX6_settles cX6_settles 8 (some .int) 0 := ⟨jtb (jm4 77 rfl) rfl, jtb (jm1 9 rfl) rfl, by decide +kernel, by decide +kernel, by decide +kernel⟩
theorem imX6_settles : Cond.instanceMethod yX6_settles ∈ jTB := jtb (jm4 76 rfl) rfl
theorem seX6_settles : Cond.selects RX6 yX6_settles yX6_settles ∈ jTB := jtb (jm0 (q := (yX6_settles, _)) 80 rfl) rfl
theorem lwX6_settle : jLw yX6_settle cX6_settle 1 (some .int) 0 := ⟨jtb (jm4 73 rfl) rfl, jtb (jm1 9 rfl) rfl, by decide +kernel, by decide +kernel, by decide +kernel⟩
theorem imX6_settle : Cond.instanceMethod yX6_settle ∈ jTB := jtb (jm4 71 rfl) rfl
theorem seX6_settle : Cond.selects RX6 yX6_settle yX6_settle ∈ jTB := jtb (jm4 72 rfl) rfl
theorem lwX6_pass : jLw yX6_pass cX6_pass 5 (some .int) 0 := ⟨jtb (jm4 81 rfl) rfl, jtb (jm1 9 rfl) rfl, by decide +kernel, by decide +kernel, by decide +kernel⟩
theorem imX6_pass : Cond.instanceMethod yX6_pass ∈ jTB := jtb (jm4 79 rfl) rfl
theorem seX6_pass : Cond.selects RX6 yX6_pass yX6_pass ∈ jTB := jtb (jm4 80 rfl) rfl
theorem lwX6_told : jLw yX6_told cX6_told 4 (some .int) 4 := ⟨jtb (jm4 88 rfl) rfl, jtb (jm1 9 rfl) rfl, by decide +kernel, by decide +kernel, by decide +kernel⟩
theorem stX6_told : Cond.static yX6_told ∈ jTB := jtb (jm4 87 rfl) rfl
theorem lwX6_register : jLw yX6_register cX6_register 4 (some .int) 3 := ⟨jtb (jm4 85 rfl) rfl, jtb (jm1 9 rfl) rfl, by decide +kernel, by decide +kernel, by decide +kernel⟩
theorem imX6_register : Cond.instanceMethod yX6_register ∈ jTB := jtb (jm4 83 rfl) rfl
theorem seX6_register : Cond.selects RX6 yX6_register yX6_register ∈ jTB := jtb (jm4 84 rfl) rfl
theorem lwX6_field : jLw yX6_field cX6_field 6 (some .int) 4 := ⟨jtb (jm4 92 rfl) rfl, jtb (jm1 9 rfl) rfl, by decide +kernel, by decide +kernel, by decide +kernel⟩
theorem imX6_field : Cond.instanceMethod yX6_field ∈ jTB := jtb (jm4 90 rfl) rfl
theorem seX6_field : Cond.selects RX6 yX6_field yX6_field ∈ jTB := jtb (jm4 91 rfl) rfl
theorem lwX6_cell : jLw yX6_cell cX6_cell 6 (some .int) 3 := ⟨jtb (jm4 96 rfl) rfl, jtb (jm1 9 rfl) rfl, by decide +kernel, by decide +kernel, by decide +kernel⟩
theorem imX6_cell : Cond.instanceMethod yX6_cell ∈ jTB := jtb (jm4 94 rfl) rfl
theorem seX6_cell : Cond.selects RX6 yX6_cell yX6_cell ∈ jTB := jtb (jm4 95 rfl) rfl
theorem lwX6_reaches : jLw yX6_reaches cX6_reaches 2 none 1 := ⟨jtb (jm4 108 rfl) rfl, jtb (jm1 9 rfl) rfl, by decide +kernel, by decide +kernel, by decide +kernel⟩
theorem imX6_reaches : Cond.instanceMethod yX6_reaches ∈ jTB := jtb (jm4 107 rfl) rfl
theorem seX6_reaches : Cond.selects RX6 yX6_reaches yX6_reaches ∈ jTB := jtb (jm0 (q := (yX6_reaches, _)) 82 rfl) rfl
theorem lwX6_hold : jLw yX6_hold cX6_hold 3 none 0 := ⟨jtb (jm4 104 rfl) rfl, jtb (jm1 9 rfl) rfl, by decide +kernel, by decide +kernel, by decide +kernel⟩
theorem imX6_hold : Cond.instanceMethod yX6_hold ∈ jTB := jtb (jm4 103 rfl) rfl
theorem seX6_hold : Cond.selects RX6 yX6_hold yX6_hold ∈ jTB := jtb (jm0 (q := (yX6_hold, _)) 81 rfl) rfl
theorem lwX6_object : jLw yX6_object cX6_object 5 (some .int) 3 := ⟨jtb (jm4 100 rfl) rfl, jtb (jm1 9 rfl) rfl, by decide +kernel, by decide +kernel, by decide +kernel⟩
theorem imX6_object : Cond.instanceMethod yX6_object ∈ jTB := jtb (jm4 98 rfl) rfl
theorem seX6_object : Cond.selects RX6 yX6_object yX6_object ∈ jTB := jtb (jm4 99 rfl) rfl
theorem lwX6_weight : jLw yX6_weight cX6_weight 4 (some .int) 3 := ⟨jtb (jm4 112 rfl) rfl, jtb (jm1 9 rfl) rfl, by decide +kernel, by decide +kernel, by decide +kernel⟩
theorem imX6_weight : Cond.instanceMethod yX6_weight ∈ jTB := jtb (jm4 110 rfl) rfl
theorem seX6_weight : Cond.selects RX6 yX6_weight yX6_weight ∈ jTB := jtb (jm4 111 rfl) rfl
theorem lwX6_message : jLw yX6_message cX6_message 7 (some .int) 4 := ⟨jtb (jm4 116 rfl) rfl, jtb (jm1 9 rfl) rfl, by decide +kernel, by decide +kernel, by decide +kernel⟩
theorem imX6_message : Cond.instanceMethod yX6_message ∈ jTB := jtb (jm4 114 rfl) rfl
theorem seX6_message : Cond.selects RX6 yX6_message yX6_message ∈ jTB := jtb (jm4 115 rfl) rfl
theorem lwX6_count : jLw yX6_count cX6_count 6 (some .int) 2 := ⟨jtb (jm4 120 rfl) rfl, jtb (jm1 9 rfl) rfl, by decide +kernel, by decide +kernel, by decide +kernel⟩
theorem imX6_count : Cond.instanceMethod yX6_count ∈ jTB := jtb (jm4 118 rfl) rfl
theorem seX6_count : Cond.selects RX6 yX6_count yX6_count ∈ jTB := jtb (jm4 119 rfl) rfl
theorem lwX6_isEven : jLw yX6_isEven cX6_isEven 4 (some .boolean) 0 := ⟨jtb (jm4 124 rfl) rfl, jtb (jm1 9 rfl) rfl, by decide +kernel, by decide +kernel, by decide +kernel⟩
theorem imX6_isEven : Cond.instanceMethod yX6_isEven ∈ jTB := jtb (jm4 122 rfl) rfl
theorem seX6_isEven : Cond.selects RX6 yX6_isEven yX6_isEven ∈ jTB := jtb (jm4 123 rfl) rfl
theorem lwJ9_max_7cf53 : jLw yJ9_max_7cf53 cJ9_max_7cf53 2 (some .int) 2 := ⟨jtb (jm1 23 rfl) rfl, jtb (jm1 2 rfl) rfl, by decide +kernel, by decide +kernel, by decide +kernel⟩
theorem stJ9_max_7cf53 : Cond.static yJ9_max_7cf53 ∈ jTB := jtb (jm1 22 rfl) rfl
theorem lwJ9_min_7cf53 : jLw yJ9_min_7cf53 cJ9_min_7cf53 2 (some .int) 2 := ⟨jtb (jm1 20 rfl) rfl, jtb (jm1 2 rfl) rfl, by decide +kernel, by decide +kernel, by decide +kernel⟩
theorem stJ9_min_7cf53 : Cond.static yJ9_min_7cf53 ∈ jTB := jtb (jm1 19 rfl) rfl
theorem lwJ7_fill_53178 : jLw yJ7_fill_53178 cJ7_fill_53178 4 none 2 := ⟨jtb (jm1 33 rfl) rfl, jtb (jm1 4 rfl) rfl, by decide +kernel, by decide +kernel, by decide +kernel⟩
theorem stJ7_fill_53178 : Cond.static yJ7_fill_53178 ∈ jTB := jtb (jm1 32 rfl) rfl
theorem lwL_cell : jLw yL_cell cL_cell 2 (some .int) 2 := ⟨jtb (jm3 87 rfl) rfl, jtb (jm1 0 rfl) rfl, by decide +kernel, by decide +kernel, by decide +kernel⟩
theorem stL_cell : Cond.static yL_cell ∈ jTB := jtb (jm3 86 rfl) rfl
theorem lkX5_3 : Cond.methodLink RX5 3 objectInit ∈ jTB := jtb (jm1 15 rfl) rfl
theorem lkX5_9 : Cond.methodLink RX5 9 Lib.Math.min.name ∈ jTB := jtb (jm1 18 rfl) rfl
theorem lkX5_15 : Cond.methodLink RX5 15 Lib.Math.max.name ∈ jTB := jtb (jm1 21 rfl) rfl
theorem lkX5_24 : jLk RX5 24 yX2_init := Or.inr ⟨_, jtb (jm1 27 rfl) rfl⟩
theorem lkX5_29 : jLk RX5 29 yX3_init := Or.inr ⟨_, jtb (jm1 90 rfl) rfl⟩
theorem lkX5_36 : jLk RX5 36 yX1_init := Or.inr ⟨_, jtb (jm1 135 rfl) rfl⟩
theorem lkX5_43 : jLk RX5 43 yX4_init := Or.inr ⟨_, jtb (jm1 158 rfl) rfl⟩
theorem lkX5_48 : jLk RX5 48 yX5_isNode := Or.inl (jtb (jm1 194 rfl) rfl)
theorem lkX5_52 : jLk RX5 52 yX5_isRegister := Or.inl (jtb (jm1 198 rfl) rfl)
theorem lkX5_55 : jLk RX5 55 yX2_freeNumber := Or.inr ⟨_, jtb (jm1 201 rfl) rfl⟩
theorem lkX5_59 : jLk RX5 59 yX2_hasRoom := Or.inr ⟨_, jtb (jm1 205 rfl) rfl⟩
theorem lkX5_62 : jLk RX5 62 yX2_lay := Or.inr ⟨_, jtb (jm1 209 rfl) rfl⟩
theorem lkX5_66 : jLk RX5 66 yX5_idOf := Or.inl (jtb (jm1 213 rfl) rfl)
theorem lkX5_69 : jLk RX5 69 yX2_fill := Or.inr ⟨_, jtb (jm1 216 rfl) rfl⟩
theorem lkX5_73 : jLk RX5 73 yX5_slotBehind := Or.inl (jtb (jm1 224 rfl) rfl)
theorem lkX5_77 : jLk RX5 77 yX2_copy := Or.inr ⟨_, jtb (jm2 2 rfl) rfl⟩
theorem lkX5_80 : jLk RX5 80 yX2_empty := Or.inr ⟨_, jtb (jm2 19 rfl) rfl⟩
theorem lkX5_83 : jLk RX5 83 yX2_holdsObject := Or.inr ⟨_, jtb (jm2 27 rfl) rfl⟩
theorem lkX5_86 : jLk RX5 86 yX3_isFull := Or.inr ⟨_, jtb (jm2 31 rfl) rfl⟩
theorem lkX5_94 : jLk RX5 94 yX2_splitOff := Or.inr ⟨_, jtb (jm2 35 rfl) rfl⟩
theorem lkX5_98 : jLk RX5 98 yX3_put := Or.inr ⟨_, jtb (jm2 58 rfl) rfl⟩
theorem lkX5_105 : jLk RX5 105 yX5_nodeOf := Or.inl (jtb (jm2 67 rfl) rfl)
theorem lkX5_108 : jLk RX5 108 yX3_find := Or.inr ⟨_, jtb (jm2 72 rfl) rfl⟩
theorem lkX5_121 : jLk RX5 121 yX2_canTake := Or.inr ⟨_, jtb (jm2 76 rfl) rfl⟩
theorem lkX5_130 : jLk RX5 130 yX3_remove := Or.inr ⟨_, jtb (jm2 80 rfl) rfl⟩
theorem lkX5_134 : jLk RX5 134 yX2_takeRef := Or.inr ⟨_, jtb (jm2 84 rfl) rfl⟩
theorem lkX5_137 : jLk RX5 137 yX2_changeTotal := Or.inr ⟨_, jtb (jm2 88 rfl) rfl⟩
theorem lkX5_140 : jLk RX5 140 yX5_takeGrant := Or.inl (jtb (jm2 89 rfl) rfl)
theorem lkX5_143 : jLk RX5 143 yX5_bringNext := Or.inl (jtb (jm2 99 rfl) rfl)
theorem lkX5_146 : jLk RX5 146 yX2_markLive := Or.inr ⟨_, jtb (jm2 108 rfl) rfl⟩
theorem lkX5_150 : jLk RX5 150 yX2_countUnmarkedImports := Or.inr ⟨_, jtb (jm2 131 rfl) rfl⟩
theorem lkX5_157 : jLk RX5 157 yX2_giveBackUnmarked := Or.inr ⟨_, jtb (jm2 139 rfl) rfl⟩
theorem lkX5_161 : jLk RX5 161 yX2_sweep := Or.inr ⟨_, jtb (jm2 148 rfl) rfl⟩
theorem lkX5_164 : jLk RX5 164 yX5_isObject := Or.inl (jtb (jm2 165 rfl) rfl)
theorem lkX5_171 : jLk RX5 171 yX4_run := Or.inr ⟨_, jtb (jm2 170 rfl) rfl⟩
theorem lkX5_176 : jLk RX5 176 yX5_drain := Or.inl (jtb (jm2 236 rfl) rfl)
theorem lkX5_179 : jLk RX5 179 yX5_collect := Or.inl (jtb (jm2 237 rfl) rfl)
theorem lkX5_182 : jLk RX5 182 yX5_settle := Or.inl (jtb (jm3 2 rfl) rfl)
theorem lkX5_185 : jLk RX5 185 yX5_numberOf := Or.inl (jtb (jm1 228 rfl) rfl)
theorem lkX5_188 : jLk RX5 188 yX5_trial := Or.inl (jtb (jm3 3 rfl) rfl)
theorem lkX5_191 : jLk RX5 191 yX2_tell := Or.inr ⟨_, jtb (jm3 8 rfl) rfl⟩
theorem lkX5_194 : jLk RX5 194 yX2_hasField := Or.inr ⟨_, jtb (jm1 231 rfl) rfl⟩
theorem lkX5_197 : jLk RX5 197 yX5_fieldSlot := Or.inl (jtb (jm1 239 rfl) rfl)
theorem lkX5_200 : jLk RX5 200 yX2_objectAt := Or.inr ⟨_, jtb (jm3 23 rfl) rfl⟩
theorem lkX5_209 : jLk RX5 209 yX5_markHeld := Or.inl (jtb (jm3 31 rfl) rfl)
theorem lkX5_212 : jLk RX5 212 yX1_has := Or.inr ⟨_, jtb (jm3 43 rfl) rfl⟩
theorem lkX5_215 : jLk RX5 215 yX2_weightOfImport := Or.inr ⟨_, jtb (jm2 93 rfl) rfl⟩
theorem lkX5_218 : jLk RX5 218 yX5_nameOf := Or.inl (jtb (jm3 52 rfl) rfl)
theorem lkX5_221 : jLk RX5 221 yX5_countOf := Or.inl (jtb (jm3 57 rfl) rfl)
theorem lkX5_225 : jLk RX5 225 yX5_weightsOf := Or.inl (jtb (jm3 77 rfl) rfl)
theorem lkX5_228 : jLk RX5 228 yX2_hasObject := Or.inr ⟨_, jtb (jm2 169 rfl) rfl⟩
theorem lkX5_231 : jLk RX5 231 yX2_changeWeight := Or.inr ⟨_, jtb (jm2 94 rfl) rfl⟩
theorem lkX5_234 : jLk RX5 234 yX5_come := Or.inl (jtb (jm2 103 rfl) rfl)
theorem lkX5_237 : jLk RX5 237 yX1_clear := Or.inr ⟨_, jtb (jm3 35 rfl) rfl⟩
theorem lkX5_240 : jLk RX5 240 yX2_markRegisters := Or.inr ⟨_, jtb (jm3 36 rfl) rfl⟩
theorem lkX5_243 : jLk RX5 243 yX3_markRefs := Or.inr ⟨_, jtb (jm3 37 rfl) rfl⟩
theorem lkX5_246 : jLk RX5 246 yX1_spread := Or.inr ⟨_, jtb (jm3 42 rfl) rfl⟩
theorem lkX5_253 : jLk RX5 253 yX2_countExports := Or.inr ⟨_, jtb (jm3 61 rfl) rfl⟩
theorem lkX5_259 : jLk RX5 259 yX2_countUnmarkedObjects := Or.inr ⟨_, jtb (jm3 65 rfl) rfl⟩
theorem lkX5_265 : jLk RX5 265 yX3_countTo := Or.inr ⟨_, jtb (jm3 69 rfl) rfl⟩
theorem lkX5_274 : jLk RX5 274 yX3_weightOf := Or.inr ⟨_, jtb (jm3 81 rfl) rfl⟩
theorem lkX0_1 : Cond.methodLink RX0 1 objectInit ∈ jTB := jtb (jm1 100 rfl) rfl
theorem lkX1_3 : Cond.methodLink RX1 3 objectInit ∈ jTB := jtb (jm1 138 rfl) rfl
theorem lkX1_26 : jLk RX1 26 yX5_nodeOf := Or.inr ⟨_, jtb (jm2 180 rfl) rfl⟩
theorem lkX1_30 : jLk RX1 30 yX5_numberOf := Or.inr ⟨_, jtb (jm2 181 rfl) rfl⟩
theorem lkX1_33 : jLk RX1 33 yX2_markFields := Or.inr ⟨_, jtb (jm2 182 rfl) rfl⟩
theorem lkX2_3 : Cond.methodLink RX2 3 objectInit ∈ jTB := jtb (jm1 30 rfl) rfl
theorem lkX2_37 : jLk RX2 37 yJ7_fill_53178 := Or.inl (jtb (jm1 31 rfl) rfl)
theorem lkX2_43 : jLk RX2 43 yX2_hasObject := Or.inl (jtb (jm1 235 rfl) rfl)
theorem lkX2_53 : jLk RX2 53 yX2_fill := Or.inl (jtb (jm2 6 rfl) rfl)
theorem lkX2_56 : jLk RX2 56 yX2_holdsObject := Or.inl (jtb (jm2 120 rfl) rfl)
theorem lkX2_59 : jLk RX2 59 yX5_nameOf := Or.inr ⟨_, jtb (jm3 12 rfl) rfl⟩
theorem lkX2_63 : jLk RX2 63 yX5_fieldSlot := Or.inr ⟨_, jtb (jm2 130 rfl) rfl⟩
theorem lkX2_67 : jLk RX2 67 yX2_empty := Or.inl (jtb (jm2 160 rfl) rfl)
theorem lkX2_71 : jLk RX2 71 yX5_isId := Or.inr ⟨_, jtb (jm2 46 rfl) rfl⟩
theorem lkX2_74 : jLk RX2 74 yX5_numberOf := Or.inr ⟨_, jtb (jm2 49 rfl) rfl⟩
theorem lkX2_80 : jLk RX2 80 yX5_nodeOf := Or.inr ⟨_, jtb (jm2 39 rfl) rfl⟩
theorem lkX2_83 : jLk RX2 83 yX2_changeTotal := Or.inl (jtb (jm2 42 rfl) rfl)
theorem lkX2_87 : jLk RX2 87 yX2_weightOfImport := Or.inl (jtb (jm2 50 rfl) rfl)
theorem lkX2_90 : jLk RX2 90 yX2_changeWeight := Or.inl (jtb (jm2 54 rfl) rfl)
theorem lkX2_93 : jLk RX2 93 yX3_put := Or.inr ⟨_, jtb (jm2 147 rfl) rfl⟩
theorem lkX2_99 : jLk RX2 99 yX1_add := Or.inr ⟨_, jtb (jm2 121 rfl) rfl⟩
theorem lkX2_104 : jLk RX2 104 yX1_clear := Or.inr ⟨_, jtb (jm2 112 rfl) rfl⟩
theorem lkX2_107 : jLk RX2 107 yX2_markRegisters := Or.inl (jtb (jm2 116 rfl) rfl)
theorem lkX2_111 : jLk RX2 111 yX5_idOf := Or.inr ⟨_, jtb (jm2 125 rfl) rfl⟩
theorem lkX2_120 : jLk RX2 120 yX2_markFields := Or.inl (jtb (jm2 126 rfl) rfl)
theorem lkX2_124 : jLk RX2 124 yX1_has := Or.inr ⟨_, jtb (jm2 135 rfl) rfl⟩
theorem lkX2_127 : jLk RX2 127 yX2_giveBack := Or.inl (jtb (jm2 143 rfl) rfl)
theorem lkX2_131 : jLk RX2 131 yX2_moveTo := Or.inl (jtb (jm2 152 rfl) rfl)
theorem lkX2_134 : jLk RX2 134 yX2_emptyFields := Or.inl (jtb (jm2 156 rfl) rfl)
theorem lkX3_3 : Cond.methodLink RX3 3 objectInit ∈ jTB := jtb (jm1 93 rfl) rfl
theorem lkX3_17 : jLk RX3 17 yX0_init := Or.inr ⟨_, jtb (jm1 97 rfl) rfl⟩
theorem lkX3_22 : jLk RX3 22 yX3_isFull := Or.inl (jtb (jm2 62 rfl) rfl)
theorem lkX3_44 : jLk RX3 44 yX1_add := Or.inr ⟨_, jtb (jm3 41 rfl) rfl⟩
theorem lkX4_3 : Cond.methodLink RX4 3 objectInit ∈ jTB := jtb (jm1 161 rfl) rfl
theorem lkX4_11 : jLk RX4 11 yX1_init := Or.inr ⟨_, jtb (jm1 163 rfl) rfl⟩
theorem lkX4_28 : jLk RX4 28 yX1_clear := Or.inr ⟨_, jtb (jm2 174 rfl) rfl⟩
theorem lkX4_31 : jLk RX4 31 yX1_add := Or.inr ⟨_, jtb (jm2 175 rfl) rfl⟩
theorem lkX4_35 : jLk RX4 35 yX1_spread := Or.inr ⟨_, jtb (jm2 176 rfl) rfl⟩
theorem lkX4_39 : jLk RX4 39 yX4_findWithout := Or.inl (jtb (jm2 183 rfl) rfl)
theorem lkX4_43 : jLk RX4 43 yX1_has := Or.inr ⟨_, jtb (jm2 195 rfl) rfl⟩
theorem lkX4_47 : jLk RX4 47 yX4_countInner := Or.inl (jtb (jm2 221 rfl) rfl)
theorem lkX4_57 : jLk RX4 57 yX4_letGo := Or.inl (jtb (jm2 225 rfl) rfl)
theorem lkX4_62 : jLk RX4 62 yX4_markHeldFromOutside := Or.inl (jtb (jm2 187 rfl) rfl)
theorem lkX4_66 : jLk RX4 66 yX4_sumInnerWeights := Or.inl (jtb (jm2 198 rfl) rfl)
theorem lkX4_69 : jLk RX4 69 yX4_markUncovered := Or.inl (jtb (jm2 217 rfl) rfl)
theorem lkX4_73 : jLk RX4 73 yX4_markLocalGray := Or.inl (jtb (jm2 191 rfl) rfl)
theorem lkX4_82 : jLk RX4 82 yX5_idOf := Or.inr ⟨_, jtb (jm2 196 rfl) rfl⟩
theorem lkX4_89 : jLk RX4 89 yX5_fieldSlot := Or.inr ⟨_, jtb (jm2 197 rfl) rfl⟩
theorem lkX4_101 : jLk RX4 101 yJ7_fill_53178 := Or.inl (jtb (jm2 202 rfl) rfl)
theorem lkX4_107 : jLk RX4 107 yX4_findHolders := Or.inl (jtb (jm2 203 rfl) rfl)
theorem lkX4_113 : jLk RX4 113 yX4_noteHolder := Or.inl (jtb (jm2 207 rfl) rfl)
theorem lkX4_117 : jLk RX4 117 yX4_isLetGo := Or.inl (jtb (jm2 213 rfl) rfl)
theorem lkX4_121 : jLk RX4 121 yX5_isId := Or.inr ⟨_, jtb (jm2 211 rfl) rfl⟩
theorem lkX4_124 : Cond.methodLink RX4 124 Lib.Math.max.name ∈ jTB := jtb (jm2 212 rfl) rfl
theorem lkX4_129 : jLk RX4 129 yX2_giveBack := Or.inr ⟨_, jtb (jm2 229 rfl) rfl⟩
theorem lkX4_133 : jLk RX4 133 yX2_emptyFields := Or.inr ⟨_, jtb (jm2 230 rfl) rfl⟩
theorem lkL_9 : jLk RL 9 yL_cell := Or.inl (jtb (jm3 85 rfl) rfl)
theorem lkL_15 : jLk RL 15 yX5_init := Or.inl (jtb (jm1 12 rfl) rfl)
theorem lkL_20 : jLk RL 20 yX6_init := Or.inl (jtb (jm3 90 rfl) rfl)
theorem lkL_21 : jLk RL 21 yX5_make := Or.inl (jtb (jm1 190 rfl) rfl)
theorem lkL_25 : jLk RL 25 yX6_make := Or.inl (jtb (jm3 178 rfl) rfl)
theorem lkL_26 : jLk RL 26 yX5_set := Or.inl (jtb (jm1 220 rfl) rfl)
theorem lkL_30 : jLk RL 30 yX6_set := Or.inl (jtb (jm3 190 rfl) rfl)
theorem lkL_31 : jLk RL 31 yX5_get := Or.inl (jtb (jm2 7 rfl) rfl)
theorem lkL_34 : jLk RL 34 yX6_get := Or.inl (jtb (jm3 202 rfl) rfl)
theorem lkL_35 : jLk RL 35 yX5_number := Or.inl (jtb (jm2 11 rfl) rfl)
theorem lkL_39 : jLk RL 39 yX6_number := Or.inl (jtb (jm3 206 rfl) rfl)
theorem lkL_40 : jLk RL 40 yX5_drop := Or.inl (jtb (jm2 15 rfl) rfl)
theorem lkL_44 : jLk RL 44 yX6_drop := Or.inl (jtb (jm3 214 rfl) rfl)
theorem lkL_45 : jLk RL 45 yX5_send := Or.inl (jtb (jm2 23 rfl) rfl)
theorem lkL_49 : jLk RL 49 yX6_send := Or.inl (jtb (jm3 218 rfl) rfl)
theorem lkL_50 : jLk RL 50 yX5_ask := Or.inl (jtb (jm2 63 rfl) rfl)
theorem lkL_53 : jLk RL 53 yX6_ask := Or.inl (jtb (jm3 226 rfl) rfl)
theorem lkL_54 : jLk RL 54 yX5_come := Or.inl (jtb (jm2 68 rfl) rfl)
theorem lkL_58 : jLk RL 58 yX6_come := Or.inl (jtb (jm3 230 rfl) rfl)
theorem lkL_59 : jLk RL 59 yX5_drain := Or.inl (jtb (jm2 95 rfl) rfl)
theorem lkL_63 : jLk RL 63 yX6_drain := Or.inl (jtb (jm4 14 rfl) rfl)
theorem lkL_64 : jLk RL 64 yX5_collect := Or.inl (jtb (jm2 104 rfl) rfl)
theorem lkL_67 : jLk RL 67 yX6_collect := Or.inl (jtb (jm4 22 rfl) rfl)
theorem lkL_68 : jLk RL 68 yX5_trial := Or.inl (jtb (jm2 161 rfl) rfl)
theorem lkL_71 : jLk RL 71 yX6_trial := Or.inl (jtb (jm4 42 rfl) rfl)
theorem lkL_72 : jLk RL 72 yX5_settle := Or.inl (jtb (jm2 231 rfl) rfl)
theorem lkL_76 : jLk RL 76 yX6_settle := Or.inl (jtb (jm4 70 rfl) rfl)
theorem lkL_77 : jLk RL 77 yX5_pass := Or.inl (jtb (jm2 238 rfl) rfl)
theorem lkL_80 : jLk RL 80 yX6_pass := Or.inl (jtb (jm4 78 rfl) rfl)
theorem lkL_81 : jLk RL 81 yX5_register := Or.inl (jtb (jm3 4 rfl) rfl)
theorem lkL_84 : jLk RL 84 yX6_register := Or.inl (jtb (jm4 82 rfl) rfl)
theorem lkL_85 : jLk RL 85 yX5_field := Or.inl (jtb (jm3 15 rfl) rfl)
theorem lkL_88 : jLk RL 88 yX6_field := Or.inl (jtb (jm4 89 rfl) rfl)
theorem lkL_89 : jLk RL 89 yX5_cell := Or.inl (jtb (jm3 19 rfl) rfl)
theorem lkL_91 : jLk RL 91 yX6_cell := Or.inl (jtb (jm4 93 rfl) rfl)
theorem lkL_92 : jLk RL 92 yX5_object := Or.inl (jtb (jm3 27 rfl) rfl)
theorem lkL_95 : jLk RL 95 yX6_object := Or.inl (jtb (jm4 97 rfl) rfl)
theorem lkL_96 : jLk RL 96 yX5_weight := Or.inl (jtb (jm3 44 rfl) rfl)
theorem lkL_99 : jLk RL 99 yX6_weight := Or.inl (jtb (jm4 109 rfl) rfl)
theorem lkL_100 : jLk RL 100 yX5_message := Or.inl (jtb (jm3 48 rfl) rfl)
theorem lkL_103 : jLk RL 103 yX6_message := Or.inl (jtb (jm4 113 rfl) rfl)
theorem lkL_104 : jLk RL 104 yX5_count := Or.inl (jtb (jm3 53 rfl) rfl)
theorem lkL_107 : jLk RL 107 yX6_count := Or.inl (jtb (jm4 117 rfl) rfl)
theorem lkL_108 : jLk RL 108 yX5_isEven := Or.inl (jtb (jm3 73 rfl) rfl)
theorem lkL_112 : jLk RL 112 yX6_isEven := Or.inl (jtb (jm4 121 rfl) rfl)
theorem lkX6_7 : Cond.methodLink RX6 7 objectInit ∈ jTB := jtb (jm3 93 rfl) rfl
theorem lkX6_90 : jLk RX6 90 yX6_isNode := Or.inl (jtb (jm3 186 rfl) rfl)
theorem lkX6_94 : jLk RX6 94 yX6_isRegister := Or.inl (jtb (jm3 182 rfl) rfl)
theorem lkX6_98 : jLk RX6 98 yX6_local := Or.inl (jtb (jm3 198 rfl) rfl)
theorem lkX6_102 : jLk RX6 102 yX6_isField := Or.inl (jtb (jm3 194 rfl) rfl)
theorem lkX6_106 : jLk RX6 106 yX6_holds := Or.inl (jtb (jm3 210 rfl) rfl)
theorem lkX6_113 : jLk RX6 113 yX6_sends := Or.inl (jtb (jm3 222 rfl) rfl)
theorem lkX6_117 : jLk RX6 117 yX6_importsOf := Or.inl (jtb (jm4 2 rfl) rfl)
theorem lkX6_121 : jLk RX6 121 yX6_takes := Or.inl (jtb (jm4 10 rfl) rfl)
theorem lkX6_125 : jLk RX6 125 yX6_firstOf := Or.inl (jtb (jm3 234 rfl) rfl)
theorem lkX6_128 : jLk RX6 128 yX6_stays := Or.inl (jtb (jm3 238 rfl) rfl)
theorem lkX6_131 : jLk RX6 131 yX6_comes := Or.inl (jtb (jm4 6 rfl) rfl)
theorem lkX6_134 : jLk RX6 134 yX6_drains := Or.inl (jtb (jm4 18 rfl) rfl)
theorem lkX6_140 : jLk RX6 140 yX6_marks := Or.inl (jtb (jm4 30 rfl) rfl)
theorem lkX6_144 : jLk RX6 144 yX6_slides := Or.inl (jtb (jm4 34 rfl) rfl)
theorem lkX6_147 : jLk RX6 147 yX6_givesBack := Or.inl (jtb (jm4 38 rfl) rfl)
theorem lkX6_151 : jLk RX6 151 yX6_collects := Or.inl (jtb (jm4 26 rfl) rfl)
theorem lkX6_154 : jLk RX6 154 yX6_isObject := Or.inl (jtb (jm4 46 rfl) rfl)
theorem lkX6_157 : jLk RX6 157 yX6_tries := Or.inl (jtb (jm4 50 rfl) rfl)
theorem lkX6_160 : jLk RX6 160 yX6_grays := Or.inl (jtb (jm4 54 rfl) rfl)
theorem lkX6_163 : jLk RX6 163 yX6_judges := Or.inl (jtb (jm4 58 rfl) rfl)
theorem lkX6_166 : jLk RX6 166 yX6_grows := Or.inl (jtb (jm4 62 rfl) rfl)
theorem lkX6_170 : jLk RX6 170 yX6_goesOut := Or.inl (jtb (jm4 66 rfl) rfl)
theorem lkX6_173 : jLk RX6 173 yX6_settles := Or.inl (jtb (jm4 74 rfl) rfl)
theorem lkX6_177 : jLk RX6 177 yX6_told := Or.inl (jtb (jm4 86 rfl) rfl)
theorem lkX6_181 : jLk RX6 181 yX6_reaches := Or.inl (jtb (jm4 105 rfl) rfl)
theorem lkX6_184 : jLk RX6 184 yX6_hold := Or.inl (jtb (jm4 101 rfl) rfl)
theorem ma_st_max : Cond.static Lib.Math.max.name ∈ jTB := jtb (jm1 22 rfl) rfl
theorem ma_co_max : Cond.code Lib.Math.max.name Lib.Math.max.code 2 (some .int) ∈ jTB := jtb (jm1 23 rfl) rfl
theorem ma_st_min : Cond.static Lib.Math.min.name ∈ jTB := jtb (jm1 19 rfl) rfl
theorem ma_co_min : Cond.code Lib.Math.min.name Lib.Math.min.code 2 (some .int) ∈ jTB := jtb (jm1 20 rfl) rfl
theorem ma_in : Cond.initialized "java/lang/Math" ∈ jTB := jtb (jm1 2 rfl) rfl
theorem oi_in : Cond.instanceMethod objectInit ∈ jTB := jtb (jm1 16 rfl) rfl
theorem oi_co : Cond.code objectInit ⟨#[0xb1]⟩ 1 none ∈ jTB := jtb (jm1 17 rfl) rfl
theorem clX5_18 : Cond.classLink RX5 18 RX2 ∈ jTB := jtb (jm1 24 rfl) rfl
theorem clX5_27 : Cond.classLink RX5 27 RX3 ∈ jTB := jtb (jm1 88 rfl) rfl
theorem clX5_34 : Cond.classLink RX5 34 RX1 ∈ jTB := jtb (jm1 133 rfl) rfl
theorem clX5_41 : Cond.classLink RX5 41 RX4 ∈ jTB := jtb (jm1 156 rfl) rfl
theorem clX3_9 : Cond.classLink RX3 9 RX0 ∈ jTB := jtb (jm1 94 rfl) rfl
theorem clX4_9 : Cond.classLink RX4 9 RX1 ∈ jTB := jtb (jm1 162 rfl) rfl
theorem clL_7 : Cond.classLink RL 7 RX5 ∈ jTB := jtb (jm1 10 rfl) rfl
theorem clL_18 : Cond.classLink RL 18 RX6 ∈ jTB := jtb (jm3 88 rfl) rfl
theorem insX0 : Cond.instantiable RX0 6 ∈ jTB := jtb (jm1 96 rfl) rfl
theorem iniX0 : Cond.initialized RX0 ∈ jTB := jtb (jm1 6 rfl) rfl
theorem insX1 : Cond.instantiable RX1 4 ∈ jTB := jtb (jm1 134 rfl) rfl
theorem iniX1 : Cond.initialized RX1 ∈ jTB := jtb (jm1 7 rfl) rfl
theorem insX2 : Cond.instantiable RX2 12 ∈ jTB := jtb (jm1 26 rfl) rfl
theorem iniX2 : Cond.initialized RX2 ∈ jTB := jtb (jm1 3 rfl) rfl
theorem insX3 : Cond.instantiable RX3 2 ∈ jTB := jtb (jm1 89 rfl) rfl
theorem iniX3 : Cond.initialized RX3 ∈ jTB := jtb (jm1 5 rfl) rfl
theorem insX4 : Cond.instantiable RX4 4 ∈ jTB := jtb (jm1 157 rfl) rfl
theorem iniX4 : Cond.initialized RX4 ∈ jTB := jtb (jm1 8 rfl) rfl
theorem insX5 : Cond.instantiable RX5 4 ∈ jTB := jtb (jm1 11 rfl) rfl
theorem iniX5 : Cond.initialized RX5 ∈ jTB := jtb (jm1 1 rfl) rfl
theorem insX6 : Cond.instantiable RX6 28 ∈ jTB := jtb (jm3 89 rfl) rfl
theorem iniX6 : Cond.initialized RX6 ∈ jTB := jtb (jm1 9 rfl) rfl
theorem kcX5_175 : Cond.constant RX5 175 1000000 ∈ jTB := jtb (jm2 235 rfl) rfl
