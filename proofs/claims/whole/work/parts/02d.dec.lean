theorem dX6_local_5 : decode cX6_local 5 = .ok (.iadd, 1) := by decide +kernel
theorem dX6_local_6 : decode cX6_local 6 = .ok (.istore_n 3, 1) := by decide +kernel
theorem dX6_local_7 : decode cX6_local 7 = .ok (.aload_n 0, 1) := by decide +kernel
theorem dX6_local_8 : decode cX6_local 8 = .ok (.getfield 33, 3) := by decide +kernel
theorem dX6_local_11 : decode cX6_local 11 = .ok (.iload_n 3, 1) := by decide +kernel
theorem dX6_local_12 : decode cX6_local 12 = .ok (.iaload, 1) := by decide +kernel
theorem dX6_local_13 : decode cX6_local 13 = .ok (.iconst 2, 1) := by decide +kernel
theorem dX6_local_14 : decode cX6_local 14 = .ok (.if_icmp .ne 25, 3) := by decide +kernel
theorem dX6_local_17 : decode cX6_local 17 = .ok (.aload_n 0, 1) := by decide +kernel
theorem dX6_local_18 : decode cX6_local 18 = .ok (.getfield 36, 3) := by decide +kernel
theorem dX6_local_21 : decode cX6_local 21 = .ok (.iload_n 3, 1) := by decide +kernel
theorem dX6_local_22 : decode cX6_local 22 = .ok (.iaload, 1) := by decide +kernel
theorem dX6_local_23 : decode cX6_local 23 = .ok (.bipush 24, 2) := by decide +kernel
theorem dX6_local_25 : decode cX6_local 25 = .ok (.idiv, 1) := by decide +kernel
theorem dX6_local_26 : decode cX6_local 26 = .ok (.iload_n 1, 1) := by decide +kernel
theorem dX6_local_27 : decode cX6_local 27 = .ok (.if_icmp .ne 12, 3) := by decide +kernel
theorem dX6_local_30 : decode cX6_local 30 = .ok (.aload_n 0, 1) := by decide +kernel
theorem dX6_local_31 : decode cX6_local 31 = .ok (.getfield 36, 3) := by decide +kernel
theorem dX6_local_34 : decode cX6_local 34 = .ok (.iload_n 3, 1) := by decide +kernel
theorem dX6_local_35 : decode cX6_local 35 = .ok (.iaload, 1) := by decide +kernel
theorem dX6_local_36 : decode cX6_local 36 = .ok (.goto 4, 3) := by decide +kernel
theorem dX6_local_39 : decode cX6_local 39 = .ok (.iconst (-1), 1) := by decide +kernel
theorem dX6_local_40 : decode cX6_local 40 = .ok (.ireturn, 1) := by decide +kernel
theorem dX6_make_0 : decode cX6_make 0 = .ok (.aload_n 0, 1) := by decide +kernel
theorem dX6_make_1 : decode cX6_make 1 = .ok (.iload_n 1, 1) := by decide +kernel
theorem dX6_make_2 : decode cX6_make 2 = .ok (.iload_n 2, 1) := by decide +kernel
theorem dX6_make_3 : decode cX6_make 3 = .ok (.invokevirtual 94, 3) := by decide +kernel
theorem dX6_make_6 : decode cX6_make 6 = .ok (.ifCond .eq 13, 3) := by decide +kernel
theorem dX6_make_9 : decode cX6_make 9 = .ok (.iload_n 3, 1) := by decide +kernel
theorem dX6_make_10 : decode cX6_make 10 = .ok (.ifCond .lt 9, 3) := by decide +kernel
theorem dX6_make_13 : decode cX6_make 13 = .ok (.iload_n 3, 1) := by decide +kernel
theorem dX6_make_14 : decode cX6_make 14 = .ok (.bipush 12, 2) := by decide +kernel
theorem dX6_make_16 : decode cX6_make 16 = .ok (.if_icmp .le 5, 3) := by decide +kernel
theorem dX6_make_19 : decode cX6_make 19 = .ok (.iconst (-1), 1) := by decide +kernel
theorem dX6_make_20 : decode cX6_make 20 = .ok (.ireturn, 1) := by decide +kernel
theorem dX6_make_21 : decode cX6_make 21 = .ok (.iconst 0, 1) := by decide +kernel
theorem dX6_make_22 : decode cX6_make 22 = .ok (.istore 4, 2) := by decide +kernel
theorem dX6_make_24 : decode cX6_make 24 = .ok (.iload 4, 2) := by decide +kernel
theorem dX6_make_26 : decode cX6_make 26 = .ok (.bipush 24, 2) := by decide +kernel
theorem dX6_make_28 : decode cX6_make 28 = .ok (.if_icmp .ge 24, 3) := by decide +kernel
theorem dX6_make_31 : decode cX6_make 31 = .ok (.aload_n 0, 1) := by decide +kernel
theorem dX6_make_32 : decode cX6_make 32 = .ok (.getfield 23, 3) := by decide +kernel
theorem dX6_make_35 : decode cX6_make 35 = .ok (.bipush 24, 2) := by decide +kernel
theorem dX6_make_37 : decode cX6_make 37 = .ok (.iload_n 1, 1) := by decide +kernel
theorem dX6_make_38 : decode cX6_make 38 = .ok (.imul, 1) := by decide +kernel
theorem dX6_make_39 : decode cX6_make 39 = .ok (.iload 4, 2) := by decide +kernel
theorem dX6_make_41 : decode cX6_make 41 = .ok (.iadd, 1) := by decide +kernel
theorem dX6_make_42 : decode cX6_make 42 = .ok (.baload, 1) := by decide +kernel
theorem dX6_make_43 : decode cX6_make 43 = .ok (.ifCond .eq 9, 3) := by decide +kernel
theorem dX6_make_46 : decode cX6_make 46 = .ok (.iinc 4 1, 3) := by decide +kernel
theorem dX6_make_49 : decode cX6_make 49 = .ok (.goto (-25), 3) := by decide +kernel
theorem dX6_make_52 : decode cX6_make 52 = .ok (.iload 4, 2) := by decide +kernel
theorem dX6_make_54 : decode cX6_make 54 = .ok (.bipush 24, 2) := by decide +kernel
theorem dX6_make_56 : decode cX6_make 56 = .ok (.if_icmp .ne 5, 3) := by decide +kernel
theorem dX6_make_59 : decode cX6_make 59 = .ok (.iconst (-1), 1) := by decide +kernel
theorem dX6_make_60 : decode cX6_make 60 = .ok (.ireturn, 1) := by decide +kernel
theorem dX6_make_61 : decode cX6_make 61 = .ok (.aload_n 0, 1) := by decide +kernel
theorem dX6_make_62 : decode cX6_make 62 = .ok (.getfield 42, 3) := by decide +kernel
theorem dX6_make_65 : decode cX6_make 65 = .ok (.iload_n 1, 1) := by decide +kernel
theorem dX6_make_66 : decode cX6_make 66 = .ok (.iaload, 1) := by decide +kernel
theorem dX6_make_67 : decode cX6_make 67 = .ok (.iload_n 3, 1) := by decide +kernel
theorem dX6_make_68 : decode cX6_make 68 = .ok (.iadd, 1) := by decide +kernel
theorem dX6_make_69 : decode cX6_make 69 = .ok (.iconst 1, 1) := by decide +kernel
theorem dX6_make_70 : decode cX6_make 70 = .ok (.iadd, 1) := by decide +kernel
theorem dX6_make_71 : decode cX6_make 71 = .ok (.sipush 160, 3) := by decide +kernel
theorem dX6_make_74 : decode cX6_make 74 = .ok (.if_icmp .le 6, 3) := by decide +kernel
theorem dX6_make_77 : decode cX6_make 77 = .ok (.bipush (-2), 2) := by decide +kernel
theorem dX6_make_79 : decode cX6_make 79 = .ok (.ireturn, 1) := by decide +kernel
theorem dX6_make_80 : decode cX6_make 80 = .ok (.bipush 24, 2) := by decide +kernel
theorem dX6_make_82 : decode cX6_make 82 = .ok (.iload_n 1, 1) := by decide +kernel
theorem dX6_make_83 : decode cX6_make 83 = .ok (.imul, 1) := by decide +kernel
theorem dX6_make_84 : decode cX6_make 84 = .ok (.iload 4, 2) := by decide +kernel
theorem dX6_make_86 : decode cX6_make 86 = .ok (.iadd, 1) := by decide +kernel
theorem dX6_make_87 : decode cX6_make 87 = .ok (.istore 5, 2) := by decide +kernel
theorem dX6_make_89 : decode cX6_make 89 = .ok (.aload_n 0, 1) := by decide +kernel
theorem dX6_make_90 : decode cX6_make 90 = .ok (.getfield 23, 3) := by decide +kernel
theorem dX6_make_93 : decode cX6_make 93 = .ok (.iload 5, 2) := by decide +kernel
theorem dX6_make_95 : decode cX6_make 95 = .ok (.iconst 1, 1) := by decide +kernel
theorem dX6_make_96 : decode cX6_make 96 = .ok (.bastore, 1) := by decide +kernel
theorem dX6_make_97 : decode cX6_make 97 = .ok (.aload_n 0, 1) := by decide +kernel
theorem dX6_make_98 : decode cX6_make 98 = .ok (.getfield 13, 3) := by decide +kernel
theorem dX6_make_101 : decode cX6_make 101 = .ok (.iload 5, 2) := by decide +kernel
theorem dX6_make_103 : decode cX6_make 103 = .ok (.iload_n 3, 1) := by decide +kernel
theorem dX6_make_104 : decode cX6_make 104 = .ok (.iastore, 1) := by decide +kernel
theorem dX6_make_105 : decode cX6_make 105 = .ok (.aload_n 0, 1) := by decide +kernel
theorem dX6_make_106 : decode cX6_make 106 = .ok (.getfield 17, 3) := by decide +kernel
theorem dX6_make_109 : decode cX6_make 109 = .ok (.iload 5, 2) := by decide +kernel
theorem dX6_make_111 : decode cX6_make 111 = .ok (.aload_n 0, 1) := by decide +kernel
theorem dX6_make_112 : decode cX6_make 112 = .ok (.getfield 42, 3) := by decide +kernel
theorem dX6_make_115 : decode cX6_make 115 = .ok (.iload_n 1, 1) := by decide +kernel
theorem dX6_make_116 : decode cX6_make 116 = .ok (.iaload, 1) := by decide +kernel
theorem dX6_make_117 : decode cX6_make 117 = .ok (.iastore, 1) := by decide +kernel
theorem dX6_make_118 : decode cX6_make 118 = .ok (.aload_n 0, 1) := by decide +kernel
theorem dX6_make_119 : decode cX6_make 119 = .ok (.getfield 20, 3) := by decide +kernel
theorem dX6_make_122 : decode cX6_make 122 = .ok (.iload 5, 2) := by decide +kernel
theorem dX6_make_124 : decode cX6_make 124 = .ok (.iconst 0, 1) := by decide +kernel
theorem dX6_make_125 : decode cX6_make 125 = .ok (.iastore, 1) := by decide +kernel
theorem dX6_make_126 : decode cX6_make 126 = .ok (.aload_n 0, 1) := by decide +kernel
theorem dX6_make_127 : decode cX6_make 127 = .ok (.getfield 42, 3) := by decide +kernel
theorem dX6_make_130 : decode cX6_make 130 = .ok (.iload_n 1, 1) := by decide +kernel
theorem dX6_make_131 : decode cX6_make 131 = .ok (.dup2, 1) := by decide +kernel
theorem dX6_make_132 : decode cX6_make 132 = .ok (.iaload, 1) := by decide +kernel
theorem dX6_make_133 : decode cX6_make 133 = .ok (.iload_n 3, 1) := by decide +kernel
theorem dX6_make_134 : decode cX6_make 134 = .ok (.iconst 1, 1) := by decide +kernel
theorem dX6_make_135 : decode cX6_make 135 = .ok (.iadd, 1) := by decide +kernel
theorem dX6_make_136 : decode cX6_make 136 = .ok (.iadd, 1) := by decide +kernel
theorem dX6_make_137 : decode cX6_make 137 = .ok (.iastore, 1) := by decide +kernel
theorem dX6_make_138 : decode cX6_make 138 = .ok (.iconst 0, 1) := by decide +kernel
theorem dX6_make_139 : decode cX6_make 139 = .ok (.istore 6, 2) := by decide +kernel
theorem dX6_make_141 : decode cX6_make 141 = .ok (.iload 6, 2) := by decide +kernel
theorem dX6_make_143 : decode cX6_make 143 = .ok (.bipush 12, 2) := by decide +kernel
theorem dX6_make_145 : decode cX6_make 145 = .ok (.if_icmp .ge 37, 3) := by decide +kernel
theorem dX6_make_148 : decode cX6_make 148 = .ok (.aload_n 0, 1) := by decide +kernel
theorem dX6_make_149 : decode cX6_make 149 = .ok (.getfield 27, 3) := by decide +kernel
theorem dX6_make_152 : decode cX6_make 152 = .ok (.bipush 12, 2) := by decide +kernel
theorem dX6_make_154 : decode cX6_make 154 = .ok (.iload 5, 2) := by decide +kernel
theorem dX6_make_156 : decode cX6_make 156 = .ok (.imul, 1) := by decide +kernel
theorem dX6_make_157 : decode cX6_make 157 = .ok (.iload 6, 2) := by decide +kernel
theorem dX6_make_159 : decode cX6_make 159 = .ok (.iadd, 1) := by decide +kernel
theorem dX6_make_160 : decode cX6_make 160 = .ok (.iconst 0, 1) := by decide +kernel
theorem dX6_make_161 : decode cX6_make 161 = .ok (.iastore, 1) := by decide +kernel
theorem dX6_make_162 : decode cX6_make 162 = .ok (.aload_n 0, 1) := by decide +kernel
theorem dX6_make_163 : decode cX6_make 163 = .ok (.getfield 30, 3) := by decide +kernel
theorem dX6_make_166 : decode cX6_make 166 = .ok (.bipush 12, 2) := by decide +kernel
theorem dX6_make_168 : decode cX6_make 168 = .ok (.iload 5, 2) := by decide +kernel
theorem dX6_make_170 : decode cX6_make 170 = .ok (.imul, 1) := by decide +kernel
theorem dX6_make_171 : decode cX6_make 171 = .ok (.iload 6, 2) := by decide +kernel
theorem dX6_make_173 : decode cX6_make 173 = .ok (.iadd, 1) := by decide +kernel
theorem dX6_make_174 : decode cX6_make 174 = .ok (.iconst 0, 1) := by decide +kernel
theorem dX6_make_175 : decode cX6_make 175 = .ok (.iastore, 1) := by decide +kernel
theorem dX6_make_176 : decode cX6_make 176 = .ok (.iinc 6 1, 3) := by decide +kernel
theorem dX6_make_179 : decode cX6_make 179 = .ok (.goto (-38), 3) := by decide +kernel
theorem dX6_make_182 : decode cX6_make 182 = .ok (.aload_n 0, 1) := by decide +kernel
theorem dX6_make_183 : decode cX6_make 183 = .ok (.getfield 33, 3) := by decide +kernel
theorem dX6_make_186 : decode cX6_make 186 = .ok (.bipush 6, 2) := by decide +kernel
theorem dX6_make_188 : decode cX6_make 188 = .ok (.iload_n 1, 1) := by decide +kernel
theorem dX6_make_189 : decode cX6_make 189 = .ok (.imul, 1) := by decide +kernel
theorem dX6_make_190 : decode cX6_make 190 = .ok (.iload_n 2, 1) := by decide +kernel
theorem dX6_make_191 : decode cX6_make 191 = .ok (.iadd, 1) := by decide +kernel
theorem dX6_make_192 : decode cX6_make 192 = .ok (.iconst 2, 1) := by decide +kernel
theorem dX6_make_193 : decode cX6_make 193 = .ok (.iastore, 1) := by decide +kernel
theorem dX6_make_194 : decode cX6_make 194 = .ok (.aload_n 0, 1) := by decide +kernel
theorem dX6_make_195 : decode cX6_make 195 = .ok (.getfield 36, 3) := by decide +kernel
theorem dX6_make_198 : decode cX6_make 198 = .ok (.bipush 6, 2) := by decide +kernel
theorem dX6_make_200 : decode cX6_make 200 = .ok (.iload_n 1, 1) := by decide +kernel
theorem dX6_make_201 : decode cX6_make 201 = .ok (.imul, 1) := by decide +kernel
theorem dX6_make_202 : decode cX6_make 202 = .ok (.iload_n 2, 1) := by decide +kernel
theorem dX6_make_203 : decode cX6_make 203 = .ok (.iadd, 1) := by decide +kernel
theorem dX6_make_204 : decode cX6_make 204 = .ok (.iload 5, 2) := by decide +kernel
theorem dX6_make_206 : decode cX6_make 206 = .ok (.iastore, 1) := by decide +kernel
theorem dX6_make_207 : decode cX6_make 207 = .ok (.iload 4, 2) := by decide +kernel
theorem dX6_make_209 : decode cX6_make 209 = .ok (.ireturn, 1) := by decide +kernel
theorem dX6_isField_0 : decode cX6_isField 0 = .ok (.aload_n 0, 1) := by decide +kernel
theorem dX6_isField_1 : decode cX6_isField 1 = .ok (.iload_n 1, 1) := by decide +kernel
theorem dX6_isField_2 : decode cX6_isField 2 = .ok (.iload_n 2, 1) := by decide +kernel
theorem dX6_isField_3 : decode cX6_isField 3 = .ok (.invokevirtual 98, 3) := by decide +kernel
theorem dX6_isField_6 : decode cX6_isField 6 = .ok (.iconst (-1), 1) := by decide +kernel
theorem dX6_isField_7 : decode cX6_isField 7 = .ok (.if_icmp .eq 26, 3) := by decide +kernel
theorem dX6_isField_10 : decode cX6_isField 10 = .ok (.iload_n 3, 1) := by decide +kernel
theorem dX6_isField_11 : decode cX6_isField 11 = .ok (.ifCond .lt 22, 3) := by decide +kernel
theorem dX6_isField_14 : decode cX6_isField 14 = .ok (.iload_n 3, 1) := by decide +kernel
theorem dX6_isField_15 : decode cX6_isField 15 = .ok (.aload_n 0, 1) := by decide +kernel
theorem dX6_isField_16 : decode cX6_isField 16 = .ok (.getfield 13, 3) := by decide +kernel
theorem dX6_isField_19 : decode cX6_isField 19 = .ok (.aload_n 0, 1) := by decide +kernel
theorem dX6_isField_20 : decode cX6_isField 20 = .ok (.iload_n 1, 1) := by decide +kernel
theorem dX6_isField_21 : decode cX6_isField 21 = .ok (.iload_n 2, 1) := by decide +kernel
theorem dX6_isField_22 : decode cX6_isField 22 = .ok (.invokevirtual 98, 3) := by decide +kernel
theorem dX6_isField_25 : decode cX6_isField 25 = .ok (.iaload, 1) := by decide +kernel
theorem dX6_isField_26 : decode cX6_isField 26 = .ok (.if_icmp .ge 7, 3) := by decide +kernel
theorem dX6_isField_29 : decode cX6_isField 29 = .ok (.iconst 1, 1) := by decide +kernel
theorem dX6_isField_30 : decode cX6_isField 30 = .ok (.goto 4, 3) := by decide +kernel
theorem dX6_isField_33 : decode cX6_isField 33 = .ok (.iconst 0, 1) := by decide +kernel
theorem dX6_isField_34 : decode cX6_isField 34 = .ok (.ireturn, 1) := by decide +kernel
theorem dX6_set_0 : decode cX6_set 0 = .ok (.aload_n 0, 1) := by decide +kernel
theorem dX6_set_1 : decode cX6_set 1 = .ok (.iload_n 1, 1) := by decide +kernel
theorem dX6_set_2 : decode cX6_set 2 = .ok (.iload_n 2, 1) := by decide +kernel
theorem dX6_set_3 : decode cX6_set 3 = .ok (.invokevirtual 94, 3) := by decide +kernel
theorem dX6_set_6 : decode cX6_set 6 = .ok (.ifCond .eq 23, 3) := by decide +kernel
theorem dX6_set_9 : decode cX6_set 9 = .ok (.aload_n 0, 1) := by decide +kernel
theorem dX6_set_10 : decode cX6_set 10 = .ok (.iload_n 1, 1) := by decide +kernel
theorem dX6_set_11 : decode cX6_set 11 = .ok (.iload 4, 2) := by decide +kernel
theorem dX6_set_13 : decode cX6_set 13 = .ok (.invokevirtual 94, 3) := by decide +kernel
theorem dX6_set_16 : decode cX6_set 16 = .ok (.ifCond .eq 13, 3) := by decide +kernel
theorem dX6_set_19 : decode cX6_set 19 = .ok (.aload_n 0, 1) := by decide +kernel
theorem dX6_set_20 : decode cX6_set 20 = .ok (.iload_n 1, 1) := by decide +kernel
theorem dX6_set_21 : decode cX6_set 21 = .ok (.iload_n 2, 1) := by decide +kernel
theorem dX6_set_22 : decode cX6_set 22 = .ok (.iload_n 3, 1) := by decide +kernel
theorem dX6_set_23 : decode cX6_set 23 = .ok (.invokevirtual 102, 3) := by decide +kernel
theorem dX6_set_26 : decode cX6_set 26 = .ok (.ifCond .ne 5, 3) := by decide +kernel
theorem dX6_set_29 : decode cX6_set 29 = .ok (.iconst 0, 1) := by decide +kernel
theorem dX6_set_30 : decode cX6_set 30 = .ok (.ireturn, 1) := by decide +kernel
theorem dX6_set_31 : decode cX6_set 31 = .ok (.bipush 12, 2) := by decide +kernel
theorem dX6_set_33 : decode cX6_set 33 = .ok (.aload_n 0, 1) := by decide +kernel
theorem dX6_set_34 : decode cX6_set 34 = .ok (.iload_n 1, 1) := by decide +kernel
theorem dX6_set_35 : decode cX6_set 35 = .ok (.iload_n 2, 1) := by decide +kernel
theorem dX6_set_36 : decode cX6_set 36 = .ok (.invokevirtual 98, 3) := by decide +kernel
theorem dX6_set_39 : decode cX6_set 39 = .ok (.imul, 1) := by decide +kernel
theorem dX6_set_40 : decode cX6_set 40 = .ok (.iload_n 3, 1) := by decide +kernel
theorem dX6_set_41 : decode cX6_set 41 = .ok (.iadd, 1) := by decide +kernel
theorem dX6_set_42 : decode cX6_set 42 = .ok (.istore 5, 2) := by decide +kernel
theorem dX6_set_44 : decode cX6_set 44 = .ok (.aload_n 0, 1) := by decide +kernel
theorem dX6_set_45 : decode cX6_set 45 = .ok (.getfield 27, 3) := by decide +kernel
theorem dX6_set_48 : decode cX6_set 48 = .ok (.iload 5, 2) := by decide +kernel
theorem dX6_set_50 : decode cX6_set 50 = .ok (.aload_n 0, 1) := by decide +kernel
theorem dX6_set_51 : decode cX6_set 51 = .ok (.getfield 33, 3) := by decide +kernel
theorem dX6_set_54 : decode cX6_set 54 = .ok (.bipush 6, 2) := by decide +kernel
theorem dX6_set_56 : decode cX6_set 56 = .ok (.iload_n 1, 1) := by decide +kernel
theorem dX6_set_57 : decode cX6_set 57 = .ok (.imul, 1) := by decide +kernel
theorem dX6_set_58 : decode cX6_set 58 = .ok (.iload 4, 2) := by decide +kernel
theorem dX6_set_60 : decode cX6_set 60 = .ok (.iadd, 1) := by decide +kernel
theorem dX6_set_61 : decode cX6_set 61 = .ok (.iaload, 1) := by decide +kernel
theorem dX6_set_62 : decode cX6_set 62 = .ok (.iastore, 1) := by decide +kernel
theorem dX6_set_63 : decode cX6_set 63 = .ok (.aload_n 0, 1) := by decide +kernel
theorem dX6_set_64 : decode cX6_set 64 = .ok (.getfield 30, 3) := by decide +kernel
theorem dX6_set_67 : decode cX6_set 67 = .ok (.iload 5, 2) := by decide +kernel
theorem dX6_set_69 : decode cX6_set 69 = .ok (.aload_n 0, 1) := by decide +kernel
theorem dX6_set_70 : decode cX6_set 70 = .ok (.getfield 36, 3) := by decide +kernel
theorem dX6_set_73 : decode cX6_set 73 = .ok (.bipush 6, 2) := by decide +kernel
theorem dX6_set_75 : decode cX6_set 75 = .ok (.iload_n 1, 1) := by decide +kernel
theorem dX6_set_76 : decode cX6_set 76 = .ok (.imul, 1) := by decide +kernel
theorem dX6_set_77 : decode cX6_set 77 = .ok (.iload 4, 2) := by decide +kernel
theorem dX6_set_79 : decode cX6_set 79 = .ok (.iadd, 1) := by decide +kernel
theorem dX6_set_80 : decode cX6_set 80 = .ok (.iaload, 1) := by decide +kernel
theorem dX6_set_81 : decode cX6_set 81 = .ok (.iastore, 1) := by decide +kernel
theorem dX6_set_82 : decode cX6_set 82 = .ok (.iconst 1, 1) := by decide +kernel
theorem dX6_set_83 : decode cX6_set 83 = .ok (.ireturn, 1) := by decide +kernel
theorem dX6_get_0 : decode cX6_get 0 = .ok (.aload_n 0, 1) := by decide +kernel
theorem dX6_get_1 : decode cX6_get 1 = .ok (.iload_n 1, 1) := by decide +kernel
theorem dX6_get_2 : decode cX6_get 2 = .ok (.iload_n 2, 1) := by decide +kernel
theorem dX6_get_3 : decode cX6_get 3 = .ok (.invokevirtual 94, 3) := by decide +kernel
theorem dX6_get_6 : decode cX6_get 6 = .ok (.ifCond .eq 23, 3) := by decide +kernel
theorem dX6_get_9 : decode cX6_get 9 = .ok (.aload_n 0, 1) := by decide +kernel
theorem dX6_get_10 : decode cX6_get 10 = .ok (.iload_n 1, 1) := by decide +kernel
theorem dX6_get_11 : decode cX6_get 11 = .ok (.iload 4, 2) := by decide +kernel
theorem dX6_get_13 : decode cX6_get 13 = .ok (.invokevirtual 94, 3) := by decide +kernel
theorem dX6_get_16 : decode cX6_get 16 = .ok (.ifCond .eq 13, 3) := by decide +kernel
theorem dX6_get_19 : decode cX6_get 19 = .ok (.aload_n 0, 1) := by decide +kernel
theorem dX6_get_20 : decode cX6_get 20 = .ok (.iload_n 1, 1) := by decide +kernel
theorem dX6_get_21 : decode cX6_get 21 = .ok (.iload_n 2, 1) := by decide +kernel
theorem dX6_get_22 : decode cX6_get 22 = .ok (.iload_n 3, 1) := by decide +kernel
theorem dX6_get_23 : decode cX6_get 23 = .ok (.invokevirtual 102, 3) := by decide +kernel
theorem dX6_get_26 : decode cX6_get 26 = .ok (.ifCond .ne 5, 3) := by decide +kernel
theorem dX6_get_29 : decode cX6_get 29 = .ok (.iconst 0, 1) := by decide +kernel
theorem dX6_get_30 : decode cX6_get 30 = .ok (.ireturn, 1) := by decide +kernel
theorem dX6_get_31 : decode cX6_get 31 = .ok (.bipush 12, 2) := by decide +kernel
theorem dX6_get_33 : decode cX6_get 33 = .ok (.aload_n 0, 1) := by decide +kernel
theorem dX6_get_34 : decode cX6_get 34 = .ok (.iload_n 1, 1) := by decide +kernel
theorem dX6_get_35 : decode cX6_get 35 = .ok (.iload_n 2, 1) := by decide +kernel
theorem dX6_get_36 : decode cX6_get 36 = .ok (.invokevirtual 98, 3) := by decide +kernel
theorem dX6_get_39 : decode cX6_get 39 = .ok (.imul, 1) := by decide +kernel
theorem dX6_get_40 : decode cX6_get 40 = .ok (.iload_n 3, 1) := by decide +kernel
theorem dX6_get_41 : decode cX6_get 41 = .ok (.iadd, 1) := by decide +kernel
theorem dX6_get_42 : decode cX6_get 42 = .ok (.istore 5, 2) := by decide +kernel
theorem dX6_get_44 : decode cX6_get 44 = .ok (.aload_n 0, 1) := by decide +kernel
theorem dX6_get_45 : decode cX6_get 45 = .ok (.getfield 33, 3) := by decide +kernel
theorem dX6_get_48 : decode cX6_get 48 = .ok (.bipush 6, 2) := by decide +kernel
theorem dX6_get_50 : decode cX6_get 50 = .ok (.iload_n 1, 1) := by decide +kernel
theorem dX6_get_51 : decode cX6_get 51 = .ok (.imul, 1) := by decide +kernel
theorem dX6_get_52 : decode cX6_get 52 = .ok (.iload 4, 2) := by decide +kernel
theorem dX6_get_54 : decode cX6_get 54 = .ok (.iadd, 1) := by decide +kernel
theorem dX6_get_55 : decode cX6_get 55 = .ok (.aload_n 0, 1) := by decide +kernel
theorem dX6_get_56 : decode cX6_get 56 = .ok (.getfield 27, 3) := by decide +kernel
theorem dX6_get_59 : decode cX6_get 59 = .ok (.iload 5, 2) := by decide +kernel
theorem dX6_get_61 : decode cX6_get 61 = .ok (.iaload, 1) := by decide +kernel
theorem dX6_get_62 : decode cX6_get 62 = .ok (.iastore, 1) := by decide +kernel
theorem dX6_get_63 : decode cX6_get 63 = .ok (.aload_n 0, 1) := by decide +kernel
theorem dX6_get_64 : decode cX6_get 64 = .ok (.getfield 36, 3) := by decide +kernel
theorem dX6_get_67 : decode cX6_get 67 = .ok (.bipush 6, 2) := by decide +kernel
theorem dX6_get_69 : decode cX6_get 69 = .ok (.iload_n 1, 1) := by decide +kernel
theorem dX6_get_70 : decode cX6_get 70 = .ok (.imul, 1) := by decide +kernel
theorem dX6_get_71 : decode cX6_get 71 = .ok (.iload 4, 2) := by decide +kernel
theorem dX6_get_73 : decode cX6_get 73 = .ok (.iadd, 1) := by decide +kernel
theorem dX6_get_74 : decode cX6_get 74 = .ok (.aload_n 0, 1) := by decide +kernel
theorem dX6_get_75 : decode cX6_get 75 = .ok (.getfield 30, 3) := by decide +kernel
theorem dX6_get_78 : decode cX6_get 78 = .ok (.iload 5, 2) := by decide +kernel
theorem dX6_get_80 : decode cX6_get 80 = .ok (.iaload, 1) := by decide +kernel
theorem dX6_get_81 : decode cX6_get 81 = .ok (.iastore, 1) := by decide +kernel
theorem dX6_get_82 : decode cX6_get 82 = .ok (.iconst 1, 1) := by decide +kernel
theorem dX6_get_83 : decode cX6_get 83 = .ok (.ireturn, 1) := by decide +kernel
theorem dX6_holds_0 : decode cX6_holds 0 = .ok (.aload_n 0, 1) := by decide +kernel
theorem dX6_holds_1 : decode cX6_holds 1 = .ok (.getfield 33, 3) := by decide +kernel
theorem dX6_holds_4 : decode cX6_holds 4 = .ok (.bipush 6, 2) := by decide +kernel
theorem dX6_holds_6 : decode cX6_holds 6 = .ok (.iload_n 1, 1) := by decide +kernel
theorem dX6_holds_7 : decode cX6_holds 7 = .ok (.imul, 1) := by decide +kernel
theorem dX6_holds_8 : decode cX6_holds 8 = .ok (.iload_n 2, 1) := by decide +kernel
theorem dX6_holds_9 : decode cX6_holds 9 = .ok (.iadd, 1) := by decide +kernel
theorem dX6_holds_10 : decode cX6_holds 10 = .ok (.iload_n 3, 1) := by decide +kernel
theorem dX6_holds_11 : decode cX6_holds 11 = .ok (.iastore, 1) := by decide +kernel
theorem dX6_holds_12 : decode cX6_holds 12 = .ok (.aload_n 0, 1) := by decide +kernel
theorem dX6_holds_13 : decode cX6_holds 13 = .ok (.getfield 36, 3) := by decide +kernel
theorem dX6_holds_16 : decode cX6_holds 16 = .ok (.bipush 6, 2) := by decide +kernel
theorem dX6_holds_18 : decode cX6_holds 18 = .ok (.iload_n 1, 1) := by decide +kernel
theorem dX6_holds_19 : decode cX6_holds 19 = .ok (.imul, 1) := by decide +kernel
theorem dX6_holds_20 : decode cX6_holds 20 = .ok (.iload_n 2, 1) := by decide +kernel
theorem dX6_holds_21 : decode cX6_holds 21 = .ok (.iadd, 1) := by decide +kernel
theorem dX6_holds_22 : decode cX6_holds 22 = .ok (.iload 4, 2) := by decide +kernel
theorem dX6_holds_24 : decode cX6_holds 24 = .ok (.iastore, 1) := by decide +kernel
theorem dX6_holds_25 : decode cX6_holds 25 = .ok (.return_, 1) := by decide +kernel
theorem dX6_number_0 : decode cX6_number 0 = .ok (.aload_n 0, 1) := by decide +kernel
theorem dX6_number_1 : decode cX6_number 1 = .ok (.iload_n 1, 1) := by decide +kernel
theorem dX6_number_2 : decode cX6_number 2 = .ok (.iload_n 2, 1) := by decide +kernel
theorem dX6_number_3 : decode cX6_number 3 = .ok (.invokevirtual 94, 3) := by decide +kernel
theorem dX6_number_6 : decode cX6_number 6 = .ok (.ifCond .ne 5, 3) := by decide +kernel
theorem dX6_number_9 : decode cX6_number 9 = .ok (.iconst 0, 1) := by decide +kernel
theorem dX6_number_10 : decode cX6_number 10 = .ok (.ireturn, 1) := by decide +kernel
theorem dX6_number_11 : decode cX6_number 11 = .ok (.aload_n 0, 1) := by decide +kernel
theorem dX6_number_12 : decode cX6_number 12 = .ok (.iload_n 1, 1) := by decide +kernel
theorem dX6_number_13 : decode cX6_number 13 = .ok (.iload_n 2, 1) := by decide +kernel
theorem dX6_number_14 : decode cX6_number 14 = .ok (.iconst 1, 1) := by decide +kernel
theorem dX6_number_15 : decode cX6_number 15 = .ok (.iload_n 3, 1) := by decide +kernel
theorem dX6_number_16 : decode cX6_number 16 = .ok (.invokevirtual 106, 3) := by decide +kernel
theorem dX6_number_19 : decode cX6_number 19 = .ok (.iconst 1, 1) := by decide +kernel
theorem dX6_number_20 : decode cX6_number 20 = .ok (.ireturn, 1) := by decide +kernel
theorem dX6_drop_0 : decode cX6_drop 0 = .ok (.aload_n 0, 1) := by decide +kernel
theorem dX6_drop_1 : decode cX6_drop 1 = .ok (.iload_n 1, 1) := by decide +kernel
theorem dX6_drop_2 : decode cX6_drop 2 = .ok (.iload_n 2, 1) := by decide +kernel
theorem dX6_drop_3 : decode cX6_drop 3 = .ok (.invokevirtual 94, 3) := by decide +kernel
theorem dX6_drop_6 : decode cX6_drop 6 = .ok (.ifCond .ne 5, 3) := by decide +kernel
theorem dX6_drop_9 : decode cX6_drop 9 = .ok (.iconst 0, 1) := by decide +kernel
theorem dX6_drop_10 : decode cX6_drop 10 = .ok (.ireturn, 1) := by decide +kernel
theorem dX6_drop_11 : decode cX6_drop 11 = .ok (.aload_n 0, 1) := by decide +kernel
theorem dX6_drop_12 : decode cX6_drop 12 = .ok (.iload_n 1, 1) := by decide +kernel
theorem dX6_drop_13 : decode cX6_drop 13 = .ok (.iload_n 2, 1) := by decide +kernel
theorem dX6_drop_14 : decode cX6_drop 14 = .ok (.iconst 0, 1) := by decide +kernel
theorem dX6_drop_15 : decode cX6_drop 15 = .ok (.iconst 0, 1) := by decide +kernel
theorem dX6_drop_16 : decode cX6_drop 16 = .ok (.invokevirtual 106, 3) := by decide +kernel
theorem dX6_drop_19 : decode cX6_drop 19 = .ok (.iconst 1, 1) := by decide +kernel
theorem dX6_drop_20 : decode cX6_drop 20 = .ok (.ireturn, 1) := by decide +kernel
theorem dX6_sends_0 : decode cX6_sends 0 = .ok (.aload_n 0, 1) := by decide +kernel
theorem dX6_sends_1 : decode cX6_sends 1 = .ok (.getfield 48, 3) := by decide +kernel
theorem dX6_sends_4 : decode cX6_sends 4 = .ok (.aload_n 0, 1) := by decide +kernel
theorem dX6_sends_5 : decode cX6_sends 5 = .ok (.getfield 110, 3) := by decide +kernel
theorem dX6_sends_8 : decode cX6_sends 8 = .ok (.iload_n 1, 1) := by decide +kernel
theorem dX6_sends_9 : decode cX6_sends 9 = .ok (.iastore, 1) := by decide +kernel
theorem dX6_sends_10 : decode cX6_sends 10 = .ok (.aload_n 0, 1) := by decide +kernel
theorem dX6_sends_11 : decode cX6_sends 11 = .ok (.getfield 51, 3) := by decide +kernel
theorem dX6_sends_14 : decode cX6_sends 14 = .ok (.aload_n 0, 1) := by decide +kernel
theorem dX6_sends_15 : decode cX6_sends 15 = .ok (.getfield 110, 3) := by decide +kernel
theorem dX6_sends_18 : decode cX6_sends 18 = .ok (.iload_n 2, 1) := by decide +kernel
theorem dX6_sends_19 : decode cX6_sends 19 = .ok (.iastore, 1) := by decide +kernel
theorem dX6_sends_20 : decode cX6_sends 20 = .ok (.aload_n 0, 1) := by decide +kernel
theorem dX6_sends_21 : decode cX6_sends 21 = .ok (.getfield 54, 3) := by decide +kernel
theorem dX6_sends_24 : decode cX6_sends 24 = .ok (.aload_n 0, 1) := by decide +kernel
theorem dX6_sends_25 : decode cX6_sends 25 = .ok (.getfield 110, 3) := by decide +kernel
theorem dX6_sends_28 : decode cX6_sends 28 = .ok (.iload_n 3, 1) := by decide +kernel
theorem dX6_sends_29 : decode cX6_sends 29 = .ok (.iastore, 1) := by decide +kernel
theorem dX6_sends_30 : decode cX6_sends 30 = .ok (.aload_n 0, 1) := by decide +kernel
theorem dX6_sends_31 : decode cX6_sends 31 = .ok (.getfield 57, 3) := by decide +kernel
theorem dX6_sends_34 : decode cX6_sends 34 = .ok (.aload_n 0, 1) := by decide +kernel
theorem dX6_sends_35 : decode cX6_sends 35 = .ok (.getfield 110, 3) := by decide +kernel
theorem dX6_sends_38 : decode cX6_sends 38 = .ok (.iload 4, 2) := by decide +kernel
theorem dX6_sends_40 : decode cX6_sends 40 = .ok (.iastore, 1) := by decide +kernel
theorem dX6_sends_41 : decode cX6_sends 41 = .ok (.aload_n 0, 1) := by decide +kernel
theorem dX6_sends_42 : decode cX6_sends 42 = .ok (.getfield 60, 3) := by decide +kernel
theorem dX6_sends_45 : decode cX6_sends 45 = .ok (.aload_n 0, 1) := by decide +kernel
theorem dX6_sends_46 : decode cX6_sends 46 = .ok (.getfield 110, 3) := by decide +kernel
theorem dX6_sends_49 : decode cX6_sends 49 = .ok (.iload 5, 2) := by decide +kernel
theorem dX6_sends_51 : decode cX6_sends 51 = .ok (.iastore, 1) := by decide +kernel
theorem dX6_sends_52 : decode cX6_sends 52 = .ok (.aload_n 0, 1) := by decide +kernel
theorem dX6_sends_53 : decode cX6_sends 53 = .ok (.getfield 63, 3) := by decide +kernel
theorem dX6_sends_56 : decode cX6_sends 56 = .ok (.aload_n 0, 1) := by decide +kernel
theorem dX6_sends_57 : decode cX6_sends 57 = .ok (.getfield 110, 3) := by decide +kernel
theorem dX6_sends_60 : decode cX6_sends 60 = .ok (.iload 6, 2) := by decide +kernel
theorem dX6_sends_62 : decode cX6_sends 62 = .ok (.iastore, 1) := by decide +kernel
theorem dX6_sends_63 : decode cX6_sends 63 = .ok (.aload_n 0, 1) := by decide +kernel
theorem dX6_sends_64 : decode cX6_sends 64 = .ok (.dup, 1) := by decide +kernel
theorem dX6_sends_65 : decode cX6_sends 65 = .ok (.getfield 110, 3) := by decide +kernel
theorem dX6_sends_68 : decode cX6_sends 68 = .ok (.iconst 1, 1) := by decide +kernel
theorem dX6_sends_69 : decode cX6_sends 69 = .ok (.iadd, 1) := by decide +kernel
theorem dX6_sends_70 : decode cX6_sends 70 = .ok (.putfield 110, 3) := by decide +kernel
theorem dX6_sends_73 : decode cX6_sends 73 = .ok (.return_, 1) := by decide +kernel
theorem dX6_takes_0 : decode cX6_takes 0 = .ok (.aload_n 0, 1) := by decide +kernel
theorem dX6_takes_1 : decode cX6_takes 1 = .ok (.dup, 1) := by decide +kernel
theorem dX6_takes_2 : decode cX6_takes 2 = .ok (.getfield 110, 3) := by decide +kernel
theorem dX6_takes_5 : decode cX6_takes 5 = .ok (.iconst 1, 1) := by decide +kernel
theorem dX6_takes_6 : decode cX6_takes 6 = .ok (.isub, 1) := by decide +kernel
theorem dX6_takes_7 : decode cX6_takes 7 = .ok (.putfield 110, 3) := by decide +kernel
theorem dX6_takes_10 : decode cX6_takes 10 = .ok (.iload_n 1, 1) := by decide +kernel
theorem dX6_takes_11 : decode cX6_takes 11 = .ok (.istore_n 2, 1) := by decide +kernel
theorem dX6_takes_12 : decode cX6_takes 12 = .ok (.iload_n 2, 1) := by decide +kernel
theorem dX6_takes_13 : decode cX6_takes 13 = .ok (.aload_n 0, 1) := by decide +kernel
theorem dX6_takes_14 : decode cX6_takes 14 = .ok (.getfield 110, 3) := by decide +kernel
theorem dX6_takes_17 : decode cX6_takes 17 = .ok (.if_icmp .ge 93, 3) := by decide +kernel
theorem dX6_takes_20 : decode cX6_takes 20 = .ok (.aload_n 0, 1) := by decide +kernel
theorem dX6_takes_21 : decode cX6_takes 21 = .ok (.getfield 48, 3) := by decide +kernel
theorem dX6_takes_24 : decode cX6_takes 24 = .ok (.iload_n 2, 1) := by decide +kernel
theorem dX6_takes_25 : decode cX6_takes 25 = .ok (.aload_n 0, 1) := by decide +kernel
theorem dX6_takes_26 : decode cX6_takes 26 = .ok (.getfield 48, 3) := by decide +kernel
theorem dX6_takes_29 : decode cX6_takes 29 = .ok (.iload_n 2, 1) := by decide +kernel
theorem dX6_takes_30 : decode cX6_takes 30 = .ok (.iconst 1, 1) := by decide +kernel
theorem dX6_takes_31 : decode cX6_takes 31 = .ok (.iadd, 1) := by decide +kernel
theorem dX6_takes_32 : decode cX6_takes 32 = .ok (.iaload, 1) := by decide +kernel
theorem dX6_takes_33 : decode cX6_takes 33 = .ok (.iastore, 1) := by decide +kernel
theorem dX6_takes_34 : decode cX6_takes 34 = .ok (.aload_n 0, 1) := by decide +kernel
theorem dX6_takes_35 : decode cX6_takes 35 = .ok (.getfield 51, 3) := by decide +kernel
theorem dX6_takes_38 : decode cX6_takes 38 = .ok (.iload_n 2, 1) := by decide +kernel
theorem dX6_takes_39 : decode cX6_takes 39 = .ok (.aload_n 0, 1) := by decide +kernel
theorem dX6_takes_40 : decode cX6_takes 40 = .ok (.getfield 51, 3) := by decide +kernel
theorem dX6_takes_43 : decode cX6_takes 43 = .ok (.iload_n 2, 1) := by decide +kernel
theorem dX6_takes_44 : decode cX6_takes 44 = .ok (.iconst 1, 1) := by decide +kernel
theorem dX6_takes_45 : decode cX6_takes 45 = .ok (.iadd, 1) := by decide +kernel
theorem dX6_takes_46 : decode cX6_takes 46 = .ok (.iaload, 1) := by decide +kernel
theorem dX6_takes_47 : decode cX6_takes 47 = .ok (.iastore, 1) := by decide +kernel
theorem dX6_takes_48 : decode cX6_takes 48 = .ok (.aload_n 0, 1) := by decide +kernel
theorem dX6_takes_49 : decode cX6_takes 49 = .ok (.getfield 54, 3) := by decide +kernel
theorem dX6_takes_52 : decode cX6_takes 52 = .ok (.iload_n 2, 1) := by decide +kernel
theorem dX6_takes_53 : decode cX6_takes 53 = .ok (.aload_n 0, 1) := by decide +kernel
theorem dX6_takes_54 : decode cX6_takes 54 = .ok (.getfield 54, 3) := by decide +kernel
theorem dX6_takes_57 : decode cX6_takes 57 = .ok (.iload_n 2, 1) := by decide +kernel
theorem dX6_takes_58 : decode cX6_takes 58 = .ok (.iconst 1, 1) := by decide +kernel
theorem dX6_takes_59 : decode cX6_takes 59 = .ok (.iadd, 1) := by decide +kernel
theorem dX6_takes_60 : decode cX6_takes 60 = .ok (.iaload, 1) := by decide +kernel
theorem dX6_takes_61 : decode cX6_takes 61 = .ok (.iastore, 1) := by decide +kernel
theorem dX6_takes_62 : decode cX6_takes 62 = .ok (.aload_n 0, 1) := by decide +kernel
theorem dX6_takes_63 : decode cX6_takes 63 = .ok (.getfield 57, 3) := by decide +kernel
theorem dX6_takes_66 : decode cX6_takes 66 = .ok (.iload_n 2, 1) := by decide +kernel
theorem dX6_takes_67 : decode cX6_takes 67 = .ok (.aload_n 0, 1) := by decide +kernel
theorem dX6_takes_68 : decode cX6_takes 68 = .ok (.getfield 57, 3) := by decide +kernel
theorem dX6_takes_71 : decode cX6_takes 71 = .ok (.iload_n 2, 1) := by decide +kernel
theorem dX6_takes_72 : decode cX6_takes 72 = .ok (.iconst 1, 1) := by decide +kernel
theorem dX6_takes_73 : decode cX6_takes 73 = .ok (.iadd, 1) := by decide +kernel
theorem dX6_takes_74 : decode cX6_takes 74 = .ok (.iaload, 1) := by decide +kernel
theorem dX6_takes_75 : decode cX6_takes 75 = .ok (.iastore, 1) := by decide +kernel
theorem dX6_takes_76 : decode cX6_takes 76 = .ok (.aload_n 0, 1) := by decide +kernel
theorem dX6_takes_77 : decode cX6_takes 77 = .ok (.getfield 60, 3) := by decide +kernel
theorem dX6_takes_80 : decode cX6_takes 80 = .ok (.iload_n 2, 1) := by decide +kernel
theorem dX6_takes_81 : decode cX6_takes 81 = .ok (.aload_n 0, 1) := by decide +kernel
theorem dX6_takes_82 : decode cX6_takes 82 = .ok (.getfield 60, 3) := by decide +kernel
theorem dX6_takes_85 : decode cX6_takes 85 = .ok (.iload_n 2, 1) := by decide +kernel
theorem dX6_takes_86 : decode cX6_takes 86 = .ok (.iconst 1, 1) := by decide +kernel
theorem dX6_takes_87 : decode cX6_takes 87 = .ok (.iadd, 1) := by decide +kernel
theorem dX6_takes_88 : decode cX6_takes 88 = .ok (.iaload, 1) := by decide +kernel
theorem dX6_takes_89 : decode cX6_takes 89 = .ok (.iastore, 1) := by decide +kernel
theorem dX6_takes_90 : decode cX6_takes 90 = .ok (.aload_n 0, 1) := by decide +kernel
theorem dX6_takes_91 : decode cX6_takes 91 = .ok (.getfield 63, 3) := by decide +kernel
theorem dX6_takes_94 : decode cX6_takes 94 = .ok (.iload_n 2, 1) := by decide +kernel
theorem dX6_takes_95 : decode cX6_takes 95 = .ok (.aload_n 0, 1) := by decide +kernel
theorem dX6_takes_96 : decode cX6_takes 96 = .ok (.getfield 63, 3) := by decide +kernel
theorem dX6_takes_99 : decode cX6_takes 99 = .ok (.iload_n 2, 1) := by decide +kernel
theorem dX6_takes_100 : decode cX6_takes 100 = .ok (.iconst 1, 1) := by decide +kernel
theorem dX6_takes_101 : decode cX6_takes 101 = .ok (.iadd, 1) := by decide +kernel
theorem dX6_takes_102 : decode cX6_takes 102 = .ok (.iaload, 1) := by decide +kernel
theorem dX6_takes_103 : decode cX6_takes 103 = .ok (.iastore, 1) := by decide +kernel
theorem dX6_takes_104 : decode cX6_takes 104 = .ok (.iinc 2 1, 3) := by decide +kernel
theorem dX6_takes_107 : decode cX6_takes 107 = .ok (.goto (-95), 3) := by decide +kernel
theorem dX6_takes_110 : decode cX6_takes 110 = .ok (.return_, 1) := by decide +kernel
theorem dX6_send_0 : decode cX6_send 0 = .ok (.aload_n 0, 1) := by decide +kernel
theorem dX6_send_1 : decode cX6_send 1 = .ok (.iload_n 1, 1) := by decide +kernel
theorem dX6_send_2 : decode cX6_send 2 = .ok (.iload_n 2, 1) := by decide +kernel
theorem dX6_send_3 : decode cX6_send 3 = .ok (.invokevirtual 94, 3) := by decide +kernel
theorem dX6_send_6 : decode cX6_send 6 = .ok (.ifCond .eq 42, 3) := by decide +kernel
theorem dX6_send_9 : decode cX6_send 9 = .ok (.aload_n 0, 1) := by decide +kernel
theorem dX6_send_10 : decode cX6_send 10 = .ok (.iload_n 3, 1) := by decide +kernel
theorem dX6_send_11 : decode cX6_send 11 = .ok (.iload 4, 2) := by decide +kernel
theorem dX6_send_13 : decode cX6_send 13 = .ok (.invokevirtual 94, 3) := by decide +kernel
theorem dX6_send_16 : decode cX6_send 16 = .ok (.ifCond .eq 32, 3) := by decide +kernel
theorem dX6_send_19 : decode cX6_send 19 = .ok (.iload_n 3, 1) := by decide +kernel
theorem dX6_send_20 : decode cX6_send 20 = .ok (.iload_n 1, 1) := by decide +kernel
theorem dX6_send_21 : decode cX6_send 21 = .ok (.if_icmp .eq 27, 3) := by decide +kernel
theorem dX6_send_24 : decode cX6_send 24 = .ok (.aload_n 0, 1) := by decide +kernel
theorem dX6_send_25 : decode cX6_send 25 = .ok (.getfield 33, 3) := by decide +kernel
theorem dX6_send_28 : decode cX6_send 28 = .ok (.bipush 6, 2) := by decide +kernel
theorem dX6_send_30 : decode cX6_send 30 = .ok (.iload_n 1, 1) := by decide +kernel
theorem dX6_send_31 : decode cX6_send 31 = .ok (.imul, 1) := by decide +kernel
theorem dX6_send_32 : decode cX6_send 32 = .ok (.iload_n 2, 1) := by decide +kernel
theorem dX6_send_33 : decode cX6_send 33 = .ok (.iadd, 1) := by decide +kernel
theorem dX6_send_34 : decode cX6_send 34 = .ok (.iaload, 1) := by decide +kernel
theorem dX6_send_35 : decode cX6_send 35 = .ok (.iconst 2, 1) := by decide +kernel
theorem dX6_send_36 : decode cX6_send 36 = .ok (.if_icmp .ne 12, 3) := by decide +kernel
theorem dX6_send_39 : decode cX6_send 39 = .ok (.aload_n 0, 1) := by decide +kernel
theorem dX6_send_40 : decode cX6_send 40 = .ok (.getfield 110, 3) := by decide +kernel
theorem dX6_send_43 : decode cX6_send 43 = .ok (.bipush 60, 2) := by decide +kernel
theorem dX6_send_45 : decode cX6_send 45 = .ok (.if_icmp .ne 5, 3) := by decide +kernel
theorem dX6_send_48 : decode cX6_send 48 = .ok (.iconst (-1), 1) := by decide +kernel
theorem dX6_send_49 : decode cX6_send 49 = .ok (.ireturn, 1) := by decide +kernel
theorem dX6_send_50 : decode cX6_send 50 = .ok (.aload_n 0, 1) := by decide +kernel
theorem dX6_send_51 : decode cX6_send 51 = .ok (.getfield 36, 3) := by decide +kernel
theorem dX6_send_54 : decode cX6_send 54 = .ok (.bipush 6, 2) := by decide +kernel
theorem dX6_send_56 : decode cX6_send 56 = .ok (.iload_n 1, 1) := by decide +kernel
theorem dX6_send_57 : decode cX6_send 57 = .ok (.imul, 1) := by decide +kernel
theorem dX6_send_58 : decode cX6_send 58 = .ok (.iload_n 2, 1) := by decide +kernel
theorem dX6_send_59 : decode cX6_send 59 = .ok (.iadd, 1) := by decide +kernel
theorem dX6_send_60 : decode cX6_send 60 = .ok (.iaload, 1) := by decide +kernel
theorem dX6_send_61 : decode cX6_send 61 = .ok (.istore 5, 2) := by decide +kernel
theorem dX6_send_63 : decode cX6_send 63 = .ok (.bipush 64, 2) := by decide +kernel
theorem dX6_send_65 : decode cX6_send 65 = .ok (.istore 6, 2) := by decide +kernel
theorem dX6_send_67 : decode cX6_send 67 = .ok (.iload 5, 2) := by decide +kernel
theorem dX6_send_69 : decode cX6_send 69 = .ok (.bipush 24, 2) := by decide +kernel
theorem dX6_send_71 : decode cX6_send 71 = .ok (.idiv, 1) := by decide +kernel
theorem dX6_send_72 : decode cX6_send 72 = .ok (.iload_n 1, 1) := by decide +kernel
theorem dX6_send_73 : decode cX6_send 73 = .ok (.if_icmp .ne 18, 3) := by decide +kernel
theorem dX6_send_76 : decode cX6_send 76 = .ok (.aload_n 0, 1) := by decide +kernel
theorem dX6_send_77 : decode cX6_send 77 = .ok (.getfield 20, 3) := by decide +kernel
theorem dX6_send_80 : decode cX6_send 80 = .ok (.iload 5, 2) := by decide +kernel
theorem dX6_send_82 : decode cX6_send 82 = .ok (.dup2, 1) := by decide +kernel
theorem dX6_send_83 : decode cX6_send 83 = .ok (.iaload, 1) := by decide +kernel
theorem dX6_send_84 : decode cX6_send 84 = .ok (.bipush 64, 2) := by decide +kernel
theorem dX6_send_86 : decode cX6_send 86 = .ok (.iadd, 1) := by decide +kernel
theorem dX6_send_87 : decode cX6_send 87 = .ok (.iastore, 1) := by decide +kernel
theorem dX6_send_88 : decode cX6_send 88 = .ok (.goto 49, 3) := by decide +kernel
theorem dX6_send_91 : decode cX6_send 91 = .ok (.bipush 120, 2) := by decide +kernel
theorem dX6_send_93 : decode cX6_send 93 = .ok (.iload_n 1, 1) := by decide +kernel
theorem dX6_send_94 : decode cX6_send 94 = .ok (.imul, 1) := by decide +kernel
theorem dX6_send_95 : decode cX6_send 95 = .ok (.iload 5, 2) := by decide +kernel
theorem dX6_send_97 : decode cX6_send 97 = .ok (.iadd, 1) := by decide +kernel
theorem dX6_send_98 : decode cX6_send 98 = .ok (.istore 7, 2) := by decide +kernel
theorem dX6_send_100 : decode cX6_send 100 = .ok (.aload_n 0, 1) := by decide +kernel
theorem dX6_send_101 : decode cX6_send 101 = .ok (.getfield 39, 3) := by decide +kernel
theorem dX6_send_104 : decode cX6_send 104 = .ok (.iload 7, 2) := by decide +kernel
theorem dX6_send_106 : decode cX6_send 106 = .ok (.iaload, 1) := by decide +kernel
theorem dX6_send_107 : decode cX6_send 107 = .ok (.iconst 1, 1) := by decide +kernel
theorem dX6_send_108 : decode cX6_send 108 = .ok (.if_icmp .ne 6, 3) := by decide +kernel
theorem dX6_send_111 : decode cX6_send 111 = .ok (.bipush (-2), 2) := by decide +kernel
theorem dX6_send_113 : decode cX6_send 113 = .ok (.ireturn, 1) := by decide +kernel
theorem dX6_send_114 : decode cX6_send 114 = .ok (.aload_n 0, 1) := by decide +kernel
theorem dX6_send_115 : decode cX6_send 115 = .ok (.getfield 39, 3) := by decide +kernel
theorem dX6_send_118 : decode cX6_send 118 = .ok (.iload 7, 2) := by decide +kernel
theorem dX6_send_120 : decode cX6_send 120 = .ok (.iaload, 1) := by decide +kernel
theorem dX6_send_121 : decode cX6_send 121 = .ok (.iconst 2, 1) := by decide +kernel
theorem dX6_send_122 : decode cX6_send 122 = .ok (.idiv, 1) := by decide +kernel
theorem dX6_send_123 : decode cX6_send 123 = .ok (.istore 6, 2) := by decide +kernel
theorem dX6_send_125 : decode cX6_send 125 = .ok (.aload_n 0, 1) := by decide +kernel
theorem dX6_send_126 : decode cX6_send 126 = .ok (.getfield 39, 3) := by decide +kernel
theorem dX6_send_129 : decode cX6_send 129 = .ok (.iload 7, 2) := by decide +kernel
theorem dX6_send_131 : decode cX6_send 131 = .ok (.dup2, 1) := by decide +kernel
theorem dX6_send_132 : decode cX6_send 132 = .ok (.iaload, 1) := by decide +kernel
theorem dX6_send_133 : decode cX6_send 133 = .ok (.iload 6, 2) := by decide +kernel
theorem dX6_send_135 : decode cX6_send 135 = .ok (.isub, 1) := by decide +kernel
theorem dX6_send_136 : decode cX6_send 136 = .ok (.iastore, 1) := by decide +kernel
theorem dX6_send_137 : decode cX6_send 137 = .ok (.aload_n 0, 1) := by decide +kernel
theorem dX6_send_138 : decode cX6_send 138 = .ok (.iload_n 1, 1) := by decide +kernel
theorem dX6_send_139 : decode cX6_send 139 = .ok (.iload_n 3, 1) := by decide +kernel
theorem dX6_send_140 : decode cX6_send 140 = .ok (.iconst 1, 1) := by decide +kernel
theorem dX6_send_141 : decode cX6_send 141 = .ok (.iload 5, 2) := by decide +kernel
theorem dX6_send_143 : decode cX6_send 143 = .ok (.iload 6, 2) := by decide +kernel
theorem dX6_send_145 : decode cX6_send 145 = .ok (.iload 4, 2) := by decide +kernel
theorem dX6_send_147 : decode cX6_send 147 = .ok (.invokevirtual 113, 3) := by decide +kernel
theorem dX6_send_150 : decode cX6_send 150 = .ok (.iload 6, 2) := by decide +kernel
theorem dX6_send_152 : decode cX6_send 152 = .ok (.ireturn, 1) := by decide +kernel
theorem dX6_ask_0 : decode cX6_ask 0 = .ok (.aload_n 0, 1) := by decide +kernel
theorem dX6_ask_1 : decode cX6_ask 1 = .ok (.iload_n 1, 1) := by decide +kernel
theorem dX6_ask_2 : decode cX6_ask 2 = .ok (.iload_n 2, 1) := by decide +kernel
theorem dX6_ask_3 : decode cX6_ask 3 = .ok (.invokevirtual 94, 3) := by decide +kernel
theorem dX6_ask_6 : decode cX6_ask 6 = .ok (.ifCond .eq 27, 3) := by decide +kernel
theorem dX6_ask_9 : decode cX6_ask 9 = .ok (.aload_n 0, 1) := by decide +kernel
theorem dX6_ask_10 : decode cX6_ask 10 = .ok (.getfield 33, 3) := by decide +kernel
theorem dX6_ask_13 : decode cX6_ask 13 = .ok (.bipush 6, 2) := by decide +kernel
theorem dX6_ask_15 : decode cX6_ask 15 = .ok (.iload_n 1, 1) := by decide +kernel
theorem dX6_ask_16 : decode cX6_ask 16 = .ok (.imul, 1) := by decide +kernel
theorem dX6_ask_17 : decode cX6_ask 17 = .ok (.iload_n 2, 1) := by decide +kernel
theorem dX6_ask_18 : decode cX6_ask 18 = .ok (.iadd, 1) := by decide +kernel
theorem dX6_ask_19 : decode cX6_ask 19 = .ok (.iaload, 1) := by decide +kernel
theorem dX6_ask_20 : decode cX6_ask 20 = .ok (.iconst 2, 1) := by decide +kernel
theorem dX6_ask_21 : decode cX6_ask 21 = .ok (.if_icmp .ne 12, 3) := by decide +kernel
theorem dX6_ask_24 : decode cX6_ask 24 = .ok (.aload_n 0, 1) := by decide +kernel
theorem dX6_ask_25 : decode cX6_ask 25 = .ok (.getfield 110, 3) := by decide +kernel
theorem dX6_ask_28 : decode cX6_ask 28 = .ok (.bipush 60, 2) := by decide +kernel
theorem dX6_ask_30 : decode cX6_ask 30 = .ok (.if_icmp .ne 5, 3) := by decide +kernel
theorem dX6_ask_33 : decode cX6_ask 33 = .ok (.iconst 0, 1) := by decide +kernel
theorem dX6_ask_34 : decode cX6_ask 34 = .ok (.ireturn, 1) := by decide +kernel
theorem dX6_ask_35 : decode cX6_ask 35 = .ok (.aload_n 0, 1) := by decide +kernel
theorem dX6_ask_36 : decode cX6_ask 36 = .ok (.getfield 36, 3) := by decide +kernel
theorem dX6_ask_39 : decode cX6_ask 39 = .ok (.bipush 6, 2) := by decide +kernel
theorem dX6_ask_41 : decode cX6_ask 41 = .ok (.iload_n 1, 1) := by decide +kernel
theorem dX6_ask_42 : decode cX6_ask 42 = .ok (.imul, 1) := by decide +kernel
theorem dX6_ask_43 : decode cX6_ask 43 = .ok (.iload_n 2, 1) := by decide +kernel
theorem dX6_ask_44 : decode cX6_ask 44 = .ok (.iadd, 1) := by decide +kernel
theorem dX6_ask_45 : decode cX6_ask 45 = .ok (.iaload, 1) := by decide +kernel
theorem dX6_ask_46 : decode cX6_ask 46 = .ok (.istore_n 3, 1) := by decide +kernel
theorem dX6_ask_47 : decode cX6_ask 47 = .ok (.iload_n 3, 1) := by decide +kernel
theorem dX6_ask_48 : decode cX6_ask 48 = .ok (.bipush 24, 2) := by decide +kernel
theorem dX6_ask_50 : decode cX6_ask 50 = .ok (.idiv, 1) := by decide +kernel
theorem dX6_ask_51 : decode cX6_ask 51 = .ok (.iload_n 1, 1) := by decide +kernel
theorem dX6_ask_52 : decode cX6_ask 52 = .ok (.if_icmp .ne 5, 3) := by decide +kernel
theorem dX6_ask_55 : decode cX6_ask 55 = .ok (.iconst 0, 1) := by decide +kernel
theorem dX6_ask_56 : decode cX6_ask 56 = .ok (.ireturn, 1) := by decide +kernel
theorem dX6_ask_57 : decode cX6_ask 57 = .ok (.aload_n 0, 1) := by decide +kernel
theorem dX6_ask_58 : decode cX6_ask 58 = .ok (.iload_n 1, 1) := by decide +kernel
theorem dX6_ask_59 : decode cX6_ask 59 = .ok (.iload_n 3, 1) := by decide +kernel
theorem dX6_ask_60 : decode cX6_ask 60 = .ok (.bipush 24, 2) := by decide +kernel
theorem dX6_ask_62 : decode cX6_ask 62 = .ok (.idiv, 1) := by decide +kernel
theorem dX6_ask_63 : decode cX6_ask 63 = .ok (.iconst 3, 1) := by decide +kernel
theorem dX6_ask_64 : decode cX6_ask 64 = .ok (.iload_n 3, 1) := by decide +kernel
theorem dX6_ask_65 : decode cX6_ask 65 = .ok (.iconst 0, 1) := by decide +kernel
theorem dX6_ask_66 : decode cX6_ask 66 = .ok (.iconst (-1), 1) := by decide +kernel
theorem dX6_ask_67 : decode cX6_ask 67 = .ok (.invokevirtual 113, 3) := by decide +kernel
theorem dX6_ask_70 : decode cX6_ask 70 = .ok (.iconst 1, 1) := by decide +kernel
theorem dX6_ask_71 : decode cX6_ask 71 = .ok (.ireturn, 1) := by decide +kernel
theorem dX6_importsOf_0 : decode cX6_importsOf 0 = .ok (.iconst 0, 1) := by decide +kernel
theorem dX6_importsOf_1 : decode cX6_importsOf 1 = .ok (.istore_n 2, 1) := by decide +kernel
theorem dX6_importsOf_2 : decode cX6_importsOf 2 = .ok (.iconst 0, 1) := by decide +kernel
theorem dX6_importsOf_3 : decode cX6_importsOf 3 = .ok (.istore_n 3, 1) := by decide +kernel
theorem dX6_importsOf_4 : decode cX6_importsOf 4 = .ok (.iload_n 3, 1) := by decide +kernel
theorem dX6_importsOf_5 : decode cX6_importsOf 5 = .ok (.bipush 120, 2) := by decide +kernel
theorem dX6_importsOf_7 : decode cX6_importsOf 7 = .ok (.if_icmp .ge 26, 3) := by decide +kernel
theorem dX6_importsOf_10 : decode cX6_importsOf 10 = .ok (.aload_n 0, 1) := by decide +kernel
theorem dX6_importsOf_11 : decode cX6_importsOf 11 = .ok (.getfield 39, 3) := by decide +kernel
theorem dX6_importsOf_14 : decode cX6_importsOf 14 = .ok (.bipush 120, 2) := by decide +kernel
theorem dX6_importsOf_16 : decode cX6_importsOf 16 = .ok (.iload_n 1, 1) := by decide +kernel
theorem dX6_importsOf_17 : decode cX6_importsOf 17 = .ok (.imul, 1) := by decide +kernel
theorem dX6_importsOf_18 : decode cX6_importsOf 18 = .ok (.iload_n 3, 1) := by decide +kernel
theorem dX6_importsOf_19 : decode cX6_importsOf 19 = .ok (.iadd, 1) := by decide +kernel
theorem dX6_importsOf_20 : decode cX6_importsOf 20 = .ok (.iaload, 1) := by decide +kernel
theorem dX6_importsOf_21 : decode cX6_importsOf 21 = .ok (.ifCond .le 6, 3) := by decide +kernel
theorem dX6_importsOf_24 : decode cX6_importsOf 24 = .ok (.iinc 2 1, 3) := by decide +kernel
theorem dX6_importsOf_27 : decode cX6_importsOf 27 = .ok (.iinc 3 1, 3) := by decide +kernel
theorem dX6_importsOf_30 : decode cX6_importsOf 30 = .ok (.goto (-26), 3) := by decide +kernel
theorem dX6_importsOf_33 : decode cX6_importsOf 33 = .ok (.iload_n 2, 1) := by decide +kernel
theorem dX6_importsOf_34 : decode cX6_importsOf 34 = .ok (.ireturn, 1) := by decide +kernel
theorem dX6_firstOf_0 : decode cX6_firstOf 0 = .ok (.iconst 0, 1) := by decide +kernel
theorem dX6_firstOf_1 : decode cX6_firstOf 1 = .ok (.istore_n 3, 1) := by decide +kernel
theorem dX6_firstOf_2 : decode cX6_firstOf 2 = .ok (.iload_n 3, 1) := by decide +kernel
theorem dX6_firstOf_3 : decode cX6_firstOf 3 = .ok (.aload_n 0, 1) := by decide +kernel
theorem dX6_firstOf_4 : decode cX6_firstOf 4 = .ok (.getfield 110, 3) := by decide +kernel
theorem dX6_firstOf_7 : decode cX6_firstOf 7 = .ok (.if_icmp .ge 31, 3) := by decide +kernel
theorem dX6_firstOf_10 : decode cX6_firstOf 10 = .ok (.aload_n 0, 1) := by decide +kernel
theorem dX6_firstOf_11 : decode cX6_firstOf 11 = .ok (.getfield 48, 3) := by decide +kernel
theorem dX6_firstOf_14 : decode cX6_firstOf 14 = .ok (.iload_n 3, 1) := by decide +kernel
theorem dX6_firstOf_15 : decode cX6_firstOf 15 = .ok (.iaload, 1) := by decide +kernel
theorem dX6_firstOf_16 : decode cX6_firstOf 16 = .ok (.iload_n 1, 1) := by decide +kernel
theorem dX6_firstOf_17 : decode cX6_firstOf 17 = .ok (.if_icmp .ne 15, 3) := by decide +kernel
theorem dX6_firstOf_20 : decode cX6_firstOf 20 = .ok (.aload_n 0, 1) := by decide +kernel
theorem dX6_firstOf_21 : decode cX6_firstOf 21 = .ok (.getfield 51, 3) := by decide +kernel
theorem dX6_firstOf_24 : decode cX6_firstOf 24 = .ok (.iload_n 3, 1) := by decide +kernel
theorem dX6_firstOf_25 : decode cX6_firstOf 25 = .ok (.iaload, 1) := by decide +kernel
theorem dX6_firstOf_26 : decode cX6_firstOf 26 = .ok (.iload_n 2, 1) := by decide +kernel
theorem dX6_firstOf_27 : decode cX6_firstOf 27 = .ok (.if_icmp .ne 5, 3) := by decide +kernel
theorem dX6_firstOf_30 : decode cX6_firstOf 30 = .ok (.iload_n 3, 1) := by decide +kernel
theorem dX6_firstOf_31 : decode cX6_firstOf 31 = .ok (.ireturn, 1) := by decide +kernel
theorem dX6_firstOf_32 : decode cX6_firstOf 32 = .ok (.iinc 3 1, 3) := by decide +kernel
theorem dX6_firstOf_35 : decode cX6_firstOf 35 = .ok (.goto (-33), 3) := by decide +kernel
theorem dX6_firstOf_38 : decode cX6_firstOf 38 = .ok (.iconst (-1), 1) := by decide +kernel
theorem dX6_firstOf_39 : decode cX6_firstOf 39 = .ok (.ireturn, 1) := by decide +kernel
theorem dX6_stays_0 : decode cX6_stays 0 = .ok (.aload_n 0, 1) := by decide +kernel
theorem dX6_stays_1 : decode cX6_stays 1 = .ok (.getfield 51, 3) := by decide +kernel
theorem dX6_stays_4 : decode cX6_stays 4 = .ok (.iload_n 1, 1) := by decide +kernel
theorem dX6_stays_5 : decode cX6_stays 5 = .ok (.iaload, 1) := by decide +kernel
theorem dX6_stays_6 : decode cX6_stays 6 = .ok (.istore_n 2, 1) := by decide +kernel
theorem dX6_stays_7 : decode cX6_stays 7 = .ok (.aload_n 0, 1) := by decide +kernel
theorem dX6_stays_8 : decode cX6_stays 8 = .ok (.getfield 57, 3) := by decide +kernel
theorem dX6_stays_11 : decode cX6_stays 11 = .ok (.iload_n 1, 1) := by decide +kernel
theorem dX6_stays_12 : decode cX6_stays 12 = .ok (.iaload, 1) := by decide +kernel
theorem dX6_stays_13 : decode cX6_stays 13 = .ok (.istore_n 3, 1) := by decide +kernel
theorem dX6_stays_14 : decode cX6_stays 14 = .ok (.aload_n 0, 1) := by decide +kernel
theorem dX6_stays_15 : decode cX6_stays 15 = .ok (.getfield 54, 3) := by decide +kernel
theorem dX6_stays_18 : decode cX6_stays 18 = .ok (.iload_n 1, 1) := by decide +kernel
theorem dX6_stays_19 : decode cX6_stays 19 = .ok (.iaload, 1) := by decide +kernel
theorem dX6_stays_20 : decode cX6_stays 20 = .ok (.iconst 1, 1) := by decide +kernel
theorem dX6_stays_21 : decode cX6_stays 21 = .ok (.if_icmp .ne 39, 3) := by decide +kernel
theorem dX6_stays_24 : decode cX6_stays 24 = .ok (.iload_n 3, 1) := by decide +kernel
theorem dX6_stays_25 : decode cX6_stays 25 = .ok (.bipush 24, 2) := by decide +kernel
theorem dX6_stays_27 : decode cX6_stays 27 = .ok (.idiv, 1) := by decide +kernel
theorem dX6_stays_28 : decode cX6_stays 28 = .ok (.iload_n 2, 1) := by decide +kernel
theorem dX6_stays_29 : decode cX6_stays 29 = .ok (.if_icmp .eq 31, 3) := by decide +kernel
theorem dX6_stays_32 : decode cX6_stays 32 = .ok (.aload_n 0, 1) := by decide +kernel
theorem dX6_stays_33 : decode cX6_stays 33 = .ok (.getfield 39, 3) := by decide +kernel
theorem dX6_stays_36 : decode cX6_stays 36 = .ok (.bipush 120, 2) := by decide +kernel
theorem dX6_stays_38 : decode cX6_stays 38 = .ok (.iload_n 2, 1) := by decide +kernel
theorem dX6_stays_39 : decode cX6_stays 39 = .ok (.imul, 1) := by decide +kernel
theorem dX6_stays_40 : decode cX6_stays 40 = .ok (.iload_n 3, 1) := by decide +kernel
theorem dX6_stays_41 : decode cX6_stays 41 = .ok (.iadd, 1) := by decide +kernel
theorem dX6_stays_42 : decode cX6_stays 42 = .ok (.iaload, 1) := by decide +kernel
theorem dX6_stays_43 : decode cX6_stays 43 = .ok (.ifCond .ne 17, 3) := by decide +kernel
theorem dX6_stays_46 : decode cX6_stays 46 = .ok (.aload_n 0, 1) := by decide +kernel
theorem dX6_stays_47 : decode cX6_stays 47 = .ok (.iload_n 2, 1) := by decide +kernel
theorem dX6_stays_48 : decode cX6_stays 48 = .ok (.invokevirtual 117, 3) := by decide +kernel
theorem dX6_stays_51 : decode cX6_stays 51 = .ok (.bipush 30, 2) := by decide +kernel
theorem dX6_stays_53 : decode cX6_stays 53 = .ok (.if_icmp .ne 7, 3) := by decide +kernel
theorem dX6_stays_56 : decode cX6_stays 56 = .ok (.iconst 1, 1) := by decide +kernel
theorem dX6_stays_57 : decode cX6_stays 57 = .ok (.goto 4, 3) := by decide +kernel
theorem dX6_stays_60 : decode cX6_stays 60 = .ok (.iconst 0, 1) := by decide +kernel
theorem dX6_stays_61 : decode cX6_stays 61 = .ok (.ireturn, 1) := by decide +kernel
theorem dX6_comes_0 : decode cX6_comes 0 = .ok (.aload_n 0, 1) := by decide +kernel
theorem dX6_comes_1 : decode cX6_comes 1 = .ok (.getfield 48, 3) := by decide +kernel
theorem dX6_comes_4 : decode cX6_comes 4 = .ok (.iload_n 1, 1) := by decide +kernel
theorem dX6_comes_5 : decode cX6_comes 5 = .ok (.iaload, 1) := by decide +kernel
theorem dX6_comes_6 : decode cX6_comes 6 = .ok (.istore_n 2, 1) := by decide +kernel
theorem dX6_comes_7 : decode cX6_comes 7 = .ok (.aload_n 0, 1) := by decide +kernel
theorem dX6_comes_8 : decode cX6_comes 8 = .ok (.getfield 51, 3) := by decide +kernel
theorem dX6_comes_11 : decode cX6_comes 11 = .ok (.iload_n 1, 1) := by decide +kernel
theorem dX6_comes_12 : decode cX6_comes 12 = .ok (.iaload, 1) := by decide +kernel
theorem dX6_comes_13 : decode cX6_comes 13 = .ok (.istore_n 3, 1) := by decide +kernel
theorem dX6_comes_14 : decode cX6_comes 14 = .ok (.aload_n 0, 1) := by decide +kernel
theorem dX6_comes_15 : decode cX6_comes 15 = .ok (.getfield 54, 3) := by decide +kernel
theorem dX6_comes_18 : decode cX6_comes 18 = .ok (.iload_n 1, 1) := by decide +kernel
theorem dX6_comes_19 : decode cX6_comes 19 = .ok (.iaload, 1) := by decide +kernel
theorem dX6_comes_20 : decode cX6_comes 20 = .ok (.istore 4, 2) := by decide +kernel
theorem dX6_comes_22 : decode cX6_comes 22 = .ok (.aload_n 0, 1) := by decide +kernel
theorem dX6_comes_23 : decode cX6_comes 23 = .ok (.getfield 57, 3) := by decide +kernel
theorem dX6_comes_26 : decode cX6_comes 26 = .ok (.iload_n 1, 1) := by decide +kernel
theorem dX6_comes_27 : decode cX6_comes 27 = .ok (.iaload, 1) := by decide +kernel
theorem dX6_comes_28 : decode cX6_comes 28 = .ok (.istore 5, 2) := by decide +kernel
theorem dX6_comes_30 : decode cX6_comes 30 = .ok (.aload_n 0, 1) := by decide +kernel
theorem dX6_comes_31 : decode cX6_comes 31 = .ok (.getfield 60, 3) := by decide +kernel
theorem dX6_comes_34 : decode cX6_comes 34 = .ok (.iload_n 1, 1) := by decide +kernel
theorem dX6_comes_35 : decode cX6_comes 35 = .ok (.iaload, 1) := by decide +kernel
theorem dX6_comes_36 : decode cX6_comes 36 = .ok (.istore 6, 2) := by decide +kernel
theorem dX6_comes_38 : decode cX6_comes 38 = .ok (.aload_n 0, 1) := by decide +kernel
theorem dX6_comes_39 : decode cX6_comes 39 = .ok (.getfield 63, 3) := by decide +kernel
theorem dX6_comes_42 : decode cX6_comes 42 = .ok (.iload_n 1, 1) := by decide +kernel
theorem dX6_comes_43 : decode cX6_comes 43 = .ok (.iaload, 1) := by decide +kernel
theorem dX6_comes_44 : decode cX6_comes 44 = .ok (.istore 7, 2) := by decide +kernel
theorem dX6_comes_46 : decode cX6_comes 46 = .ok (.aload_n 0, 1) := by decide +kernel
theorem dX6_comes_47 : decode cX6_comes 47 = .ok (.iload_n 1, 1) := by decide +kernel
theorem dX6_comes_48 : decode cX6_comes 48 = .ok (.invokevirtual 121, 3) := by decide +kernel
theorem dX6_comes_51 : decode cX6_comes 51 = .ok (.iload 4, 2) := by decide +kernel
theorem dX6_comes_53 : decode cX6_comes 53 = .ok (.tableswitch 123 1 3 #[27, 81, 96], 27) := by decide +kernel
theorem dX6_comes_80 : decode cX6_comes 80 = .ok (.aload_n 0, 1) := by decide +kernel
theorem dX6_comes_81 : decode cX6_comes 81 = .ok (.iload_n 3, 1) := by decide +kernel
theorem dX6_comes_82 : decode cX6_comes 82 = .ok (.iload 7, 2) := by decide +kernel
theorem dX6_comes_84 : decode cX6_comes 84 = .ok (.iconst 2, 1) := by decide +kernel
theorem dX6_comes_85 : decode cX6_comes 85 = .ok (.iload 5, 2) := by decide +kernel
theorem dX6_comes_87 : decode cX6_comes 87 = .ok (.invokevirtual 106, 3) := by decide +kernel
theorem dX6_comes_90 : decode cX6_comes 90 = .ok (.iload 5, 2) := by decide +kernel
theorem dX6_comes_92 : decode cX6_comes 92 = .ok (.bipush 24, 2) := by decide +kernel
theorem dX6_comes_94 : decode cX6_comes 94 = .ok (.idiv, 1) := by decide +kernel
theorem dX6_comes_95 : decode cX6_comes 95 = .ok (.iload_n 3, 1) := by decide +kernel
theorem dX6_comes_96 : decode cX6_comes 96 = .ok (.if_icmp .ne 18, 3) := by decide +kernel
theorem dX6_comes_99 : decode cX6_comes 99 = .ok (.aload_n 0, 1) := by decide +kernel
theorem dX6_comes_100 : decode cX6_comes 100 = .ok (.getfield 20, 3) := by decide +kernel
theorem dX6_comes_103 : decode cX6_comes 103 = .ok (.iload 5, 2) := by decide +kernel
theorem dX6_comes_105 : decode cX6_comes 105 = .ok (.dup2, 1) := by decide +kernel
theorem dX6_comes_106 : decode cX6_comes 106 = .ok (.iaload, 1) := by decide +kernel
theorem dX6_comes_107 : decode cX6_comes 107 = .ok (.iload 6, 2) := by decide +kernel
theorem dX6_comes_109 : decode cX6_comes 109 = .ok (.isub, 1) := by decide +kernel
theorem dX6_comes_110 : decode cX6_comes 110 = .ok (.iastore, 1) := by decide +kernel
theorem dX6_comes_111 : decode cX6_comes 111 = .ok (.goto 116, 3) := by decide +kernel
theorem dX6_comes_114 : decode cX6_comes 114 = .ok (.aload_n 0, 1) := by decide +kernel
theorem dX6_comes_115 : decode cX6_comes 115 = .ok (.getfield 39, 3) := by decide +kernel
theorem dX6_comes_118 : decode cX6_comes 118 = .ok (.bipush 120, 2) := by decide +kernel
theorem dX6_comes_120 : decode cX6_comes 120 = .ok (.iload_n 3, 1) := by decide +kernel
theorem dX6_comes_121 : decode cX6_comes 121 = .ok (.imul, 1) := by decide +kernel
theorem dX6_comes_122 : decode cX6_comes 122 = .ok (.iload 5, 2) := by decide +kernel
theorem dX6_comes_124 : decode cX6_comes 124 = .ok (.iadd, 1) := by decide +kernel
theorem dX6_comes_125 : decode cX6_comes 125 = .ok (.dup2, 1) := by decide +kernel
theorem dX6_comes_126 : decode cX6_comes 126 = .ok (.iaload, 1) := by decide +kernel
theorem dX6_comes_127 : decode cX6_comes 127 = .ok (.iload 6, 2) := by decide +kernel
theorem dX6_comes_129 : decode cX6_comes 129 = .ok (.iadd, 1) := by decide +kernel
theorem dX6_comes_130 : decode cX6_comes 130 = .ok (.iastore, 1) := by decide +kernel
theorem dX6_comes_131 : decode cX6_comes 131 = .ok (.goto 96, 3) := by decide +kernel
theorem dX6_comes_134 : decode cX6_comes 134 = .ok (.aload_n 0, 1) := by decide +kernel
theorem dX6_comes_135 : decode cX6_comes 135 = .ok (.getfield 20, 3) := by decide +kernel
theorem dX6_comes_138 : decode cX6_comes 138 = .ok (.iload 5, 2) := by decide +kernel
theorem dX6_comes_140 : decode cX6_comes 140 = .ok (.dup2, 1) := by decide +kernel
theorem dX6_comes_141 : decode cX6_comes 141 = .ok (.iaload, 1) := by decide +kernel
theorem dX6_comes_142 : decode cX6_comes 142 = .ok (.iload 6, 2) := by decide +kernel
theorem dX6_comes_144 : decode cX6_comes 144 = .ok (.isub, 1) := by decide +kernel
theorem dX6_comes_145 : decode cX6_comes 145 = .ok (.iastore, 1) := by decide +kernel
theorem dX6_comes_146 : decode cX6_comes 146 = .ok (.goto 81, 3) := by decide +kernel
theorem dX6_comes_149 : decode cX6_comes 149 = .ok (.aload_n 0, 1) := by decide +kernel
theorem dX6_comes_150 : decode cX6_comes 150 = .ok (.getfield 20, 3) := by decide +kernel
theorem dX6_comes_153 : decode cX6_comes 153 = .ok (.iload 5, 2) := by decide +kernel
theorem dX6_comes_155 : decode cX6_comes 155 = .ok (.dup2, 1) := by decide +kernel
theorem dX6_comes_156 : decode cX6_comes 156 = .ok (.iaload, 1) := by decide +kernel
theorem dX6_comes_157 : decode cX6_comes 157 = .ok (.bipush 64, 2) := by decide +kernel
theorem dX6_comes_159 : decode cX6_comes 159 = .ok (.iadd, 1) := by decide +kernel
theorem dX6_comes_160 : decode cX6_comes 160 = .ok (.iastore, 1) := by decide +kernel
theorem dX6_comes_161 : decode cX6_comes 161 = .ok (.aload_n 0, 1) := by decide +kernel
theorem dX6_comes_162 : decode cX6_comes 162 = .ok (.iload_n 3, 1) := by decide +kernel
theorem dX6_comes_163 : decode cX6_comes 163 = .ok (.iload_n 2, 1) := by decide +kernel
theorem dX6_comes_164 : decode cX6_comes 164 = .ok (.iconst 4, 1) := by decide +kernel
theorem dX6_comes_165 : decode cX6_comes 165 = .ok (.iload 5, 2) := by decide +kernel
theorem dX6_comes_167 : decode cX6_comes 167 = .ok (.bipush 64, 2) := by decide +kernel
theorem dX6_comes_169 : decode cX6_comes 169 = .ok (.iconst (-1), 1) := by decide +kernel
theorem dX6_comes_170 : decode cX6_comes 170 = .ok (.invokevirtual 113, 3) := by decide +kernel
theorem dX6_comes_173 : decode cX6_comes 173 = .ok (.goto 54, 3) := by decide +kernel
theorem dX6_comes_176 : decode cX6_comes 176 = .ok (.aload_n 0, 1) := by decide +kernel
theorem dX6_comes_177 : decode cX6_comes 177 = .ok (.getfield 39, 3) := by decide +kernel
theorem dX6_comes_180 : decode cX6_comes 180 = .ok (.bipush 120, 2) := by decide +kernel
theorem dX6_comes_182 : decode cX6_comes 182 = .ok (.iload_n 3, 1) := by decide +kernel
theorem dX6_comes_183 : decode cX6_comes 183 = .ok (.imul, 1) := by decide +kernel
theorem dX6_comes_184 : decode cX6_comes 184 = .ok (.iload 5, 2) := by decide +kernel
theorem dX6_comes_186 : decode cX6_comes 186 = .ok (.iadd, 1) := by decide +kernel
theorem dX6_comes_187 : decode cX6_comes 187 = .ok (.iaload, 1) := by decide +kernel
theorem dX6_comes_188 : decode cX6_comes 188 = .ok (.ifCond .le 23, 3) := by decide +kernel
theorem dX6_comes_191 : decode cX6_comes 191 = .ok (.aload_n 0, 1) := by decide +kernel
theorem dX6_comes_192 : decode cX6_comes 192 = .ok (.getfield 39, 3) := by decide +kernel
theorem dX6_comes_195 : decode cX6_comes 195 = .ok (.bipush 120, 2) := by decide +kernel
theorem dX6_comes_197 : decode cX6_comes 197 = .ok (.iload_n 3, 1) := by decide +kernel
theorem dX6_comes_198 : decode cX6_comes 198 = .ok (.imul, 1) := by decide +kernel
theorem dX6_comes_199 : decode cX6_comes 199 = .ok (.iload 5, 2) := by decide +kernel
theorem dX6_comes_201 : decode cX6_comes 201 = .ok (.iadd, 1) := by decide +kernel
theorem dX6_comes_202 : decode cX6_comes 202 = .ok (.dup2, 1) := by decide +kernel
theorem dX6_comes_203 : decode cX6_comes 203 = .ok (.iaload, 1) := by decide +kernel
theorem dX6_comes_204 : decode cX6_comes 204 = .ok (.iload 6, 2) := by decide +kernel
theorem dX6_comes_206 : decode cX6_comes 206 = .ok (.iadd, 1) := by decide +kernel
theorem dX6_comes_207 : decode cX6_comes 207 = .ok (.iastore, 1) := by decide +kernel
theorem dX6_comes_208 : decode cX6_comes 208 = .ok (.goto 19, 3) := by decide +kernel
theorem dX6_comes_211 : decode cX6_comes 211 = .ok (.aload_n 0, 1) := by decide +kernel
theorem dX6_comes_212 : decode cX6_comes 212 = .ok (.iload_n 3, 1) := by decide +kernel
theorem dX6_comes_213 : decode cX6_comes 213 = .ok (.iload 5, 2) := by decide +kernel
theorem dX6_comes_215 : decode cX6_comes 215 = .ok (.bipush 24, 2) := by decide +kernel
theorem dX6_comes_217 : decode cX6_comes 217 = .ok (.idiv, 1) := by decide +kernel
theorem dX6_comes_218 : decode cX6_comes 218 = .ok (.iconst 2, 1) := by decide +kernel
theorem dX6_comes_219 : decode cX6_comes 219 = .ok (.iload 5, 2) := by decide +kernel
theorem dX6_comes_221 : decode cX6_comes 221 = .ok (.iload 6, 2) := by decide +kernel
theorem dX6_comes_223 : decode cX6_comes 223 = .ok (.iconst (-1), 1) := by decide +kernel
theorem dX6_comes_224 : decode cX6_comes 224 = .ok (.invokevirtual 113, 3) := by decide +kernel
theorem dX6_comes_227 : decode cX6_comes 227 = .ok (.return_, 1) := by decide +kernel
theorem dX6_come_0 : decode cX6_come 0 = .ok (.aload_n 0, 1) := by decide +kernel
theorem dX6_come_1 : decode cX6_come 1 = .ok (.iload_n 1, 1) := by decide +kernel
theorem dX6_come_2 : decode cX6_come 2 = .ok (.invokevirtual 90, 3) := by decide +kernel
theorem dX6_come_5 : decode cX6_come 5 = .ok (.ifCond .eq 16, 3) := by decide +kernel
theorem dX6_come_8 : decode cX6_come 8 = .ok (.aload_n 0, 1) := by decide +kernel
theorem dX6_come_9 : decode cX6_come 9 = .ok (.iload_n 2, 1) := by decide +kernel
theorem dX6_come_10 : decode cX6_come 10 = .ok (.invokevirtual 90, 3) := by decide +kernel
theorem dX6_come_13 : decode cX6_come 13 = .ok (.ifCond .eq 8, 3) := by decide +kernel
theorem dX6_come_16 : decode cX6_come 16 = .ok (.iload_n 1, 1) := by decide +kernel
theorem dX6_come_17 : decode cX6_come 17 = .ok (.iload_n 2, 1) := by decide +kernel
theorem dX6_come_18 : decode cX6_come 18 = .ok (.if_icmp .ne 5, 3) := by decide +kernel
theorem dX6_come_21 : decode cX6_come 21 = .ok (.iconst (-1), 1) := by decide +kernel
theorem dX6_come_22 : decode cX6_come 22 = .ok (.ireturn, 1) := by decide +kernel
theorem dX6_come_23 : decode cX6_come 23 = .ok (.aload_n 0, 1) := by decide +kernel
theorem dX6_come_24 : decode cX6_come 24 = .ok (.iload_n 1, 1) := by decide +kernel
theorem dX6_come_25 : decode cX6_come 25 = .ok (.iload_n 2, 1) := by decide +kernel
theorem dX6_come_26 : decode cX6_come 26 = .ok (.invokevirtual 125, 3) := by decide +kernel
theorem dX6_come_29 : decode cX6_come 29 = .ok (.istore_n 3, 1) := by decide +kernel
theorem dX6_come_30 : decode cX6_come 30 = .ok (.iload_n 3, 1) := by decide +kernel
theorem dX6_come_31 : decode cX6_come 31 = .ok (.iconst (-1), 1) := by decide +kernel
theorem dX6_come_32 : decode cX6_come 32 = .ok (.if_icmp .ne 5, 3) := by decide +kernel
theorem dX6_come_35 : decode cX6_come 35 = .ok (.iconst 0, 1) := by decide +kernel
theorem dX6_come_36 : decode cX6_come 36 = .ok (.ireturn, 1) := by decide +kernel
theorem dX6_come_37 : decode cX6_come 37 = .ok (.aload_n 0, 1) := by decide +kernel
theorem dX6_come_38 : decode cX6_come 38 = .ok (.iload_n 3, 1) := by decide +kernel
theorem dX6_come_39 : decode cX6_come 39 = .ok (.invokevirtual 128, 3) := by decide +kernel
theorem dX6_come_42 : decode cX6_come 42 = .ok (.ifCond .eq 6, 3) := by decide +kernel
theorem dX6_come_45 : decode cX6_come 45 = .ok (.bipush (-2), 2) := by decide +kernel
theorem dX6_come_47 : decode cX6_come 47 = .ok (.ireturn, 1) := by decide +kernel
theorem dX6_come_48 : decode cX6_come 48 = .ok (.aload_n 0, 1) := by decide +kernel
theorem dX6_come_49 : decode cX6_come 49 = .ok (.getfield 54, 3) := by decide +kernel
theorem dX6_come_52 : decode cX6_come 52 = .ok (.iload_n 3, 1) := by decide +kernel
theorem dX6_come_53 : decode cX6_come 53 = .ok (.iaload, 1) := by decide +kernel
theorem dX6_come_54 : decode cX6_come 54 = .ok (.istore 4, 2) := by decide +kernel
theorem dX6_come_56 : decode cX6_come 56 = .ok (.aload_n 0, 1) := by decide +kernel
theorem dX6_come_57 : decode cX6_come 57 = .ok (.iload_n 3, 1) := by decide +kernel
theorem dX6_come_58 : decode cX6_come 58 = .ok (.invokevirtual 131, 3) := by decide +kernel
theorem dX6_come_61 : decode cX6_come 61 = .ok (.iload 4, 2) := by decide +kernel
theorem dX6_come_63 : decode cX6_come 63 = .ok (.ireturn, 1) := by decide +kernel
theorem dX6_drains_0 : decode cX6_drains 0 = .ok (.iconst 0, 1) := by decide +kernel
theorem dX6_drains_1 : decode cX6_drains 1 = .ok (.istore_n 2, 1) := by decide +kernel
theorem dX6_drains_2 : decode cX6_drains 2 = .ok (.iconst 1, 1) := by decide +kernel
theorem dX6_drains_3 : decode cX6_drains 3 = .ok (.istore_n 3, 1) := by decide +kernel
theorem dX6_drains_4 : decode cX6_drains 4 = .ok (.iload_n 3, 1) := by decide +kernel
theorem dX6_drains_5 : decode cX6_drains 5 = .ok (.ifCond .eq 96, 3) := by decide +kernel
theorem dX6_drains_8 : decode cX6_drains 8 = .ok (.iload_n 2, 1) := by decide +kernel
theorem dX6_drains_9 : decode cX6_drains 9 = .ok (.iload_n 1, 1) := by decide +kernel
theorem dX6_drains_10 : decode cX6_drains 10 = .ok (.if_icmp .ge 91, 3) := by decide +kernel
theorem dX6_drains_13 : decode cX6_drains 13 = .ok (.iconst 0, 1) := by decide +kernel
theorem dX6_drains_14 : decode cX6_drains 14 = .ok (.istore_n 3, 1) := by decide +kernel
theorem dX6_drains_15 : decode cX6_drains 15 = .ok (.iconst 0, 1) := by decide +kernel
theorem dX6_drains_16 : decode cX6_drains 16 = .ok (.istore 4, 2) := by decide +kernel
theorem dX6_drains_18 : decode cX6_drains 18 = .ok (.iload 4, 2) := by decide +kernel
theorem dX6_drains_20 : decode cX6_drains 20 = .ok (.aload_n 0, 1) := by decide +kernel
theorem dX6_drains_21 : decode cX6_drains 21 = .ok (.getfield 87, 3) := by decide +kernel
theorem dX6_drains_24 : decode cX6_drains 24 = .ok (.if_icmp .ge 74, 3) := by decide +kernel
theorem dX6_drains_27 : decode cX6_drains 27 = .ok (.iload_n 3, 1) := by decide +kernel
theorem dX6_drains_28 : decode cX6_drains 28 = .ok (.ifCond .ne 70, 3) := by decide +kernel
theorem dX6_drains_31 : decode cX6_drains 31 = .ok (.iconst 0, 1) := by decide +kernel
theorem dX6_drains_32 : decode cX6_drains 32 = .ok (.istore 5, 2) := by decide +kernel
theorem dX6_drains_34 : decode cX6_drains 34 = .ok (.iload 5, 2) := by decide +kernel
theorem dX6_drains_36 : decode cX6_drains 36 = .ok (.aload_n 0, 1) := by decide +kernel
theorem dX6_drains_37 : decode cX6_drains 37 = .ok (.getfield 87, 3) := by decide +kernel
theorem dX6_drains_40 : decode cX6_drains 40 = .ok (.if_icmp .ge 52, 3) := by decide +kernel
theorem dX6_drains_43 : decode cX6_drains 43 = .ok (.iload_n 3, 1) := by decide +kernel
theorem dX6_drains_44 : decode cX6_drains 44 = .ok (.ifCond .ne 48, 3) := by decide +kernel
theorem dX6_drains_47 : decode cX6_drains 47 = .ok (.aload_n 0, 1) := by decide +kernel
theorem dX6_drains_48 : decode cX6_drains 48 = .ok (.iload 4, 2) := by decide +kernel
theorem dX6_drains_50 : decode cX6_drains 50 = .ok (.iload 5, 2) := by decide +kernel
theorem dX6_drains_52 : decode cX6_drains 52 = .ok (.invokevirtual 125, 3) := by decide +kernel
theorem dX6_drains_55 : decode cX6_drains 55 = .ok (.istore 6, 2) := by decide +kernel
theorem dX6_drains_57 : decode cX6_drains 57 = .ok (.iload 6, 2) := by decide +kernel
theorem dX6_drains_59 : decode cX6_drains 59 = .ok (.iconst (-1), 1) := by decide +kernel
theorem dX6_drains_60 : decode cX6_drains 60 = .ok (.if_icmp .eq 26, 3) := by decide +kernel
theorem dX6_drains_63 : decode cX6_drains 63 = .ok (.aload_n 0, 1) := by decide +kernel
theorem dX6_drains_64 : decode cX6_drains 64 = .ok (.iload 6, 2) := by decide +kernel
theorem dX6_drains_66 : decode cX6_drains 66 = .ok (.invokevirtual 128, 3) := by decide +kernel
theorem dX6_drains_69 : decode cX6_drains 69 = .ok (.ifCond .eq 6, 3) := by decide +kernel
theorem dX6_drains_72 : decode cX6_drains 72 = .ok (.goto 14, 3) := by decide +kernel
theorem dX6_drains_75 : decode cX6_drains 75 = .ok (.aload_n 0, 1) := by decide +kernel
theorem dX6_drains_76 : decode cX6_drains 76 = .ok (.iload 6, 2) := by decide +kernel
theorem dX6_drains_78 : decode cX6_drains 78 = .ok (.invokevirtual 131, 3) := by decide +kernel
theorem dX6_drains_81 : decode cX6_drains 81 = .ok (.iinc 2 1, 3) := by decide +kernel
theorem dX6_drains_84 : decode cX6_drains 84 = .ok (.iconst 1, 1) := by decide +kernel
theorem dX6_drains_85 : decode cX6_drains 85 = .ok (.istore_n 3, 1) := by decide +kernel
theorem dX6_drains_86 : decode cX6_drains 86 = .ok (.iinc 5 1, 3) := by decide +kernel
theorem dX6_drains_89 : decode cX6_drains 89 = .ok (.goto (-55), 3) := by decide +kernel
theorem dX6_drains_92 : decode cX6_drains 92 = .ok (.iinc 4 1, 3) := by decide +kernel
theorem dX6_drains_95 : decode cX6_drains 95 = .ok (.goto (-77), 3) := by decide +kernel
theorem dX6_drains_98 : decode cX6_drains 98 = .ok (.goto (-94), 3) := by decide +kernel
theorem dX6_drains_101 : decode cX6_drains 101 = .ok (.iload_n 2, 1) := by decide +kernel
theorem dX6_drains_102 : decode cX6_drains 102 = .ok (.ireturn, 1) := by decide +kernel
theorem dX6_drain_0 : decode cX6_drain 0 = .ok (.iload_n 1, 1) := by decide +kernel
theorem dX6_drain_1 : decode cX6_drain 1 = .ok (.ifCond .lt 10, 3) := by decide +kernel
theorem dX6_drain_4 : decode cX6_drain 4 = .ok (.iload_n 1, 1) := by decide +kernel
theorem dX6_drain_5 : decode cX6_drain 5 = .ok (.sipush 1000, 3) := by decide +kernel
theorem dX6_drain_8 : decode cX6_drain 8 = .ok (.if_icmp .le 7, 3) := by decide +kernel
theorem dX6_drain_11 : decode cX6_drain 11 = .ok (.iconst (-1), 1) := by decide +kernel
theorem dX6_drain_12 : decode cX6_drain 12 = .ok (.goto 8, 3) := by decide +kernel
theorem dX6_drain_15 : decode cX6_drain 15 = .ok (.aload_n 0, 1) := by decide +kernel
theorem dX6_drain_16 : decode cX6_drain 16 = .ok (.iload_n 1, 1) := by decide +kernel
