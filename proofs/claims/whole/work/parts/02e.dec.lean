theorem dX6_drain_17 : decode cX6_drain 17 = .ok (.invokevirtual 134, 3) := by decide +kernel
theorem dX6_drain_20 : decode cX6_drain 20 = .ok (.ireturn, 1) := by decide +kernel
theorem dX6_marks_0 : decode cX6_marks 0 = .ok (.iload_n 2, 1) := by decide +kernel
theorem dX6_marks_1 : decode cX6_marks 1 = .ok (.iconst 2, 1) := by decide +kernel
theorem dX6_marks_2 : decode cX6_marks 2 = .ok (.if_icmp .eq 4, 3) := by decide +kernel
theorem dX6_marks_5 : decode cX6_marks 5 = .ok (.return_, 1) := by decide +kernel
theorem dX6_marks_6 : decode cX6_marks 6 = .ok (.iload_n 3, 1) := by decide +kernel
theorem dX6_marks_7 : decode cX6_marks 7 = .ok (.bipush 24, 2) := by decide +kernel
theorem dX6_marks_9 : decode cX6_marks 9 = .ok (.idiv, 1) := by decide +kernel
theorem dX6_marks_10 : decode cX6_marks 10 = .ok (.iload_n 1, 1) := by decide +kernel
theorem dX6_marks_11 : decode cX6_marks 11 = .ok (.if_icmp .eq 13, 3) := by decide +kernel
theorem dX6_marks_14 : decode cX6_marks 14 = .ok (.aload_n 0, 1) := by decide +kernel
theorem dX6_marks_15 : decode cX6_marks 15 = .ok (.getfield 69, 3) := by decide +kernel
theorem dX6_marks_18 : decode cX6_marks 18 = .ok (.iload_n 3, 1) := by decide +kernel
theorem dX6_marks_19 : decode cX6_marks 19 = .ok (.iconst 1, 1) := by decide +kernel
theorem dX6_marks_20 : decode cX6_marks 20 = .ok (.bastore, 1) := by decide +kernel
theorem dX6_marks_21 : decode cX6_marks 21 = .ok (.goto 39, 3) := by decide +kernel
theorem dX6_marks_24 : decode cX6_marks 24 = .ok (.aload_n 0, 1) := by decide +kernel
theorem dX6_marks_25 : decode cX6_marks 25 = .ok (.getfield 66, 3) := by decide +kernel
theorem dX6_marks_28 : decode cX6_marks 28 = .ok (.iload_n 3, 1) := by decide +kernel
theorem dX6_marks_29 : decode cX6_marks 29 = .ok (.baload, 1) := by decide +kernel
theorem dX6_marks_30 : decode cX6_marks 30 = .ok (.ifCond .ne 30, 3) := by decide +kernel
theorem dX6_marks_33 : decode cX6_marks 33 = .ok (.aload_n 0, 1) := by decide +kernel
theorem dX6_marks_34 : decode cX6_marks 34 = .ok (.getfield 66, 3) := by decide +kernel
theorem dX6_marks_37 : decode cX6_marks 37 = .ok (.iload_n 3, 1) := by decide +kernel
theorem dX6_marks_38 : decode cX6_marks 38 = .ok (.iconst 1, 1) := by decide +kernel
theorem dX6_marks_39 : decode cX6_marks 39 = .ok (.bastore, 1) := by decide +kernel
theorem dX6_marks_40 : decode cX6_marks 40 = .ok (.aload_n 0, 1) := by decide +kernel
theorem dX6_marks_41 : decode cX6_marks 41 = .ok (.getfield 72, 3) := by decide +kernel
theorem dX6_marks_44 : decode cX6_marks 44 = .ok (.aload_n 0, 1) := by decide +kernel
theorem dX6_marks_45 : decode cX6_marks 45 = .ok (.getfield 137, 3) := by decide +kernel
theorem dX6_marks_48 : decode cX6_marks 48 = .ok (.iload_n 3, 1) := by decide +kernel
theorem dX6_marks_49 : decode cX6_marks 49 = .ok (.iastore, 1) := by decide +kernel
theorem dX6_marks_50 : decode cX6_marks 50 = .ok (.aload_n 0, 1) := by decide +kernel
theorem dX6_marks_51 : decode cX6_marks 51 = .ok (.dup, 1) := by decide +kernel
theorem dX6_marks_52 : decode cX6_marks 52 = .ok (.getfield 137, 3) := by decide +kernel
theorem dX6_marks_55 : decode cX6_marks 55 = .ok (.iconst 1, 1) := by decide +kernel
theorem dX6_marks_56 : decode cX6_marks 56 = .ok (.iadd, 1) := by decide +kernel
theorem dX6_marks_57 : decode cX6_marks 57 = .ok (.putfield 137, 3) := by decide +kernel
theorem dX6_marks_60 : decode cX6_marks 60 = .ok (.return_, 1) := by decide +kernel
theorem dX6_collects_0 : decode cX6_collects 0 = .ok (.iconst 0, 1) := by decide +kernel
theorem dX6_collects_1 : decode cX6_collects 1 = .ok (.istore_n 2, 1) := by decide +kernel
theorem dX6_collects_2 : decode cX6_collects 2 = .ok (.iload_n 2, 1) := by decide +kernel
theorem dX6_collects_3 : decode cX6_collects 3 = .ok (.bipush 120, 2) := by decide +kernel
theorem dX6_collects_5 : decode cX6_collects 5 = .ok (.if_icmp .ge 23, 3) := by decide +kernel
theorem dX6_collects_8 : decode cX6_collects 8 = .ok (.aload_n 0, 1) := by decide +kernel
theorem dX6_collects_9 : decode cX6_collects 9 = .ok (.getfield 66, 3) := by decide +kernel
theorem dX6_collects_12 : decode cX6_collects 12 = .ok (.iload_n 2, 1) := by decide +kernel
theorem dX6_collects_13 : decode cX6_collects 13 = .ok (.iconst 0, 1) := by decide +kernel
theorem dX6_collects_14 : decode cX6_collects 14 = .ok (.bastore, 1) := by decide +kernel
theorem dX6_collects_15 : decode cX6_collects 15 = .ok (.aload_n 0, 1) := by decide +kernel
theorem dX6_collects_16 : decode cX6_collects 16 = .ok (.getfield 69, 3) := by decide +kernel
theorem dX6_collects_19 : decode cX6_collects 19 = .ok (.iload_n 2, 1) := by decide +kernel
theorem dX6_collects_20 : decode cX6_collects 20 = .ok (.iconst 0, 1) := by decide +kernel
theorem dX6_collects_21 : decode cX6_collects 21 = .ok (.bastore, 1) := by decide +kernel
theorem dX6_collects_22 : decode cX6_collects 22 = .ok (.iinc 2 1, 3) := by decide +kernel
theorem dX6_collects_25 : decode cX6_collects 25 = .ok (.goto (-23), 3) := by decide +kernel
theorem dX6_collects_28 : decode cX6_collects 28 = .ok (.aload_n 0, 1) := by decide +kernel
theorem dX6_collects_29 : decode cX6_collects 29 = .ok (.iconst 0, 1) := by decide +kernel
theorem dX6_collects_30 : decode cX6_collects 30 = .ok (.putfield 137, 3) := by decide +kernel
theorem dX6_collects_33 : decode cX6_collects 33 = .ok (.iconst 0, 1) := by decide +kernel
theorem dX6_collects_34 : decode cX6_collects 34 = .ok (.istore_n 2, 1) := by decide +kernel
theorem dX6_collects_35 : decode cX6_collects 35 = .ok (.iload_n 2, 1) := by decide +kernel
theorem dX6_collects_36 : decode cX6_collects 36 = .ok (.bipush 6, 2) := by decide +kernel
theorem dX6_collects_38 : decode cX6_collects 38 = .ok (.if_icmp .ge 36, 3) := by decide +kernel
theorem dX6_collects_41 : decode cX6_collects 41 = .ok (.aload_n 0, 1) := by decide +kernel
theorem dX6_collects_42 : decode cX6_collects 42 = .ok (.iload_n 1, 1) := by decide +kernel
theorem dX6_collects_43 : decode cX6_collects 43 = .ok (.aload_n 0, 1) := by decide +kernel
theorem dX6_collects_44 : decode cX6_collects 44 = .ok (.getfield 33, 3) := by decide +kernel
theorem dX6_collects_47 : decode cX6_collects 47 = .ok (.bipush 6, 2) := by decide +kernel
theorem dX6_collects_49 : decode cX6_collects 49 = .ok (.iload_n 1, 1) := by decide +kernel
theorem dX6_collects_50 : decode cX6_collects 50 = .ok (.imul, 1) := by decide +kernel
theorem dX6_collects_51 : decode cX6_collects 51 = .ok (.iload_n 2, 1) := by decide +kernel
theorem dX6_collects_52 : decode cX6_collects 52 = .ok (.iadd, 1) := by decide +kernel
theorem dX6_collects_53 : decode cX6_collects 53 = .ok (.iaload, 1) := by decide +kernel
theorem dX6_collects_54 : decode cX6_collects 54 = .ok (.aload_n 0, 1) := by decide +kernel
theorem dX6_collects_55 : decode cX6_collects 55 = .ok (.getfield 36, 3) := by decide +kernel
theorem dX6_collects_58 : decode cX6_collects 58 = .ok (.bipush 6, 2) := by decide +kernel
theorem dX6_collects_60 : decode cX6_collects 60 = .ok (.iload_n 1, 1) := by decide +kernel
theorem dX6_collects_61 : decode cX6_collects 61 = .ok (.imul, 1) := by decide +kernel
theorem dX6_collects_62 : decode cX6_collects 62 = .ok (.iload_n 2, 1) := by decide +kernel
theorem dX6_collects_63 : decode cX6_collects 63 = .ok (.iadd, 1) := by decide +kernel
theorem dX6_collects_64 : decode cX6_collects 64 = .ok (.iaload, 1) := by decide +kernel
theorem dX6_collects_65 : decode cX6_collects 65 = .ok (.invokevirtual 140, 3) := by decide +kernel
theorem dX6_collects_68 : decode cX6_collects 68 = .ok (.iinc 2 1, 3) := by decide +kernel
theorem dX6_collects_71 : decode cX6_collects 71 = .ok (.goto (-36), 3) := by decide +kernel
theorem dX6_collects_74 : decode cX6_collects 74 = .ok (.iconst 0, 1) := by decide +kernel
theorem dX6_collects_75 : decode cX6_collects 75 = .ok (.istore_n 2, 1) := by decide +kernel
theorem dX6_collects_76 : decode cX6_collects 76 = .ok (.iload_n 2, 1) := by decide +kernel
theorem dX6_collects_77 : decode cX6_collects 77 = .ok (.bipush 24, 2) := by decide +kernel
theorem dX6_collects_79 : decode cX6_collects 79 = .ok (.if_icmp .ge 49, 3) := by decide +kernel
theorem dX6_collects_82 : decode cX6_collects 82 = .ok (.aload_n 0, 1) := by decide +kernel
theorem dX6_collects_83 : decode cX6_collects 83 = .ok (.getfield 23, 3) := by decide +kernel
theorem dX6_collects_86 : decode cX6_collects 86 = .ok (.bipush 24, 2) := by decide +kernel
theorem dX6_collects_88 : decode cX6_collects 88 = .ok (.iload_n 1, 1) := by decide +kernel
theorem dX6_collects_89 : decode cX6_collects 89 = .ok (.imul, 1) := by decide +kernel
theorem dX6_collects_90 : decode cX6_collects 90 = .ok (.iload_n 2, 1) := by decide +kernel
theorem dX6_collects_91 : decode cX6_collects 91 = .ok (.iadd, 1) := by decide +kernel
theorem dX6_collects_92 : decode cX6_collects 92 = .ok (.baload, 1) := by decide +kernel
theorem dX6_collects_93 : decode cX6_collects 93 = .ok (.ifCond .eq 29, 3) := by decide +kernel
theorem dX6_collects_96 : decode cX6_collects 96 = .ok (.aload_n 0, 1) := by decide +kernel
theorem dX6_collects_97 : decode cX6_collects 97 = .ok (.getfield 20, 3) := by decide +kernel
theorem dX6_collects_100 : decode cX6_collects 100 = .ok (.bipush 24, 2) := by decide +kernel
theorem dX6_collects_102 : decode cX6_collects 102 = .ok (.iload_n 1, 1) := by decide +kernel
theorem dX6_collects_103 : decode cX6_collects 103 = .ok (.imul, 1) := by decide +kernel
theorem dX6_collects_104 : decode cX6_collects 104 = .ok (.iload_n 2, 1) := by decide +kernel
theorem dX6_collects_105 : decode cX6_collects 105 = .ok (.iadd, 1) := by decide +kernel
theorem dX6_collects_106 : decode cX6_collects 106 = .ok (.iaload, 1) := by decide +kernel
theorem dX6_collects_107 : decode cX6_collects 107 = .ok (.ifCond .le 15, 3) := by decide +kernel
theorem dX6_collects_110 : decode cX6_collects 110 = .ok (.aload_n 0, 1) := by decide +kernel
theorem dX6_collects_111 : decode cX6_collects 111 = .ok (.iload_n 1, 1) := by decide +kernel
theorem dX6_collects_112 : decode cX6_collects 112 = .ok (.iconst 2, 1) := by decide +kernel
theorem dX6_collects_113 : decode cX6_collects 113 = .ok (.bipush 24, 2) := by decide +kernel
theorem dX6_collects_115 : decode cX6_collects 115 = .ok (.iload_n 1, 1) := by decide +kernel
theorem dX6_collects_116 : decode cX6_collects 116 = .ok (.imul, 1) := by decide +kernel
theorem dX6_collects_117 : decode cX6_collects 117 = .ok (.iload_n 2, 1) := by decide +kernel
theorem dX6_collects_118 : decode cX6_collects 118 = .ok (.iadd, 1) := by decide +kernel
theorem dX6_collects_119 : decode cX6_collects 119 = .ok (.invokevirtual 140, 3) := by decide +kernel
theorem dX6_collects_122 : decode cX6_collects 122 = .ok (.iinc 2 1, 3) := by decide +kernel
theorem dX6_collects_125 : decode cX6_collects 125 = .ok (.goto (-49), 3) := by decide +kernel
theorem dX6_collects_128 : decode cX6_collects 128 = .ok (.aload_n 0, 1) := by decide +kernel
theorem dX6_collects_129 : decode cX6_collects 129 = .ok (.getfield 137, 3) := by decide +kernel
theorem dX6_collects_132 : decode cX6_collects 132 = .ok (.ifCond .le 71, 3) := by decide +kernel
theorem dX6_collects_135 : decode cX6_collects 135 = .ok (.aload_n 0, 1) := by decide +kernel
theorem dX6_collects_136 : decode cX6_collects 136 = .ok (.dup, 1) := by decide +kernel
theorem dX6_collects_137 : decode cX6_collects 137 = .ok (.getfield 137, 3) := by decide +kernel
theorem dX6_collects_140 : decode cX6_collects 140 = .ok (.iconst 1, 1) := by decide +kernel
theorem dX6_collects_141 : decode cX6_collects 141 = .ok (.isub, 1) := by decide +kernel
theorem dX6_collects_142 : decode cX6_collects 142 = .ok (.putfield 137, 3) := by decide +kernel
theorem dX6_collects_145 : decode cX6_collects 145 = .ok (.aload_n 0, 1) := by decide +kernel
theorem dX6_collects_146 : decode cX6_collects 146 = .ok (.getfield 72, 3) := by decide +kernel
theorem dX6_collects_149 : decode cX6_collects 149 = .ok (.aload_n 0, 1) := by decide +kernel
theorem dX6_collects_150 : decode cX6_collects 150 = .ok (.getfield 137, 3) := by decide +kernel
theorem dX6_collects_153 : decode cX6_collects 153 = .ok (.iaload, 1) := by decide +kernel
theorem dX6_collects_154 : decode cX6_collects 154 = .ok (.istore_n 2, 1) := by decide +kernel
theorem dX6_collects_155 : decode cX6_collects 155 = .ok (.iconst 0, 1) := by decide +kernel
theorem dX6_collects_156 : decode cX6_collects 156 = .ok (.istore_n 3, 1) := by decide +kernel
theorem dX6_collects_157 : decode cX6_collects 157 = .ok (.iload_n 3, 1) := by decide +kernel
theorem dX6_collects_158 : decode cX6_collects 158 = .ok (.aload_n 0, 1) := by decide +kernel
theorem dX6_collects_159 : decode cX6_collects 159 = .ok (.getfield 13, 3) := by decide +kernel
theorem dX6_collects_162 : decode cX6_collects 162 = .ok (.iload_n 2, 1) := by decide +kernel
theorem dX6_collects_163 : decode cX6_collects 163 = .ok (.iaload, 1) := by decide +kernel
theorem dX6_collects_164 : decode cX6_collects 164 = .ok (.if_icmp .ge 36, 3) := by decide +kernel
theorem dX6_collects_167 : decode cX6_collects 167 = .ok (.aload_n 0, 1) := by decide +kernel
theorem dX6_collects_168 : decode cX6_collects 168 = .ok (.iload_n 1, 1) := by decide +kernel
theorem dX6_collects_169 : decode cX6_collects 169 = .ok (.aload_n 0, 1) := by decide +kernel
theorem dX6_collects_170 : decode cX6_collects 170 = .ok (.getfield 27, 3) := by decide +kernel
theorem dX6_collects_173 : decode cX6_collects 173 = .ok (.bipush 12, 2) := by decide +kernel
theorem dX6_collects_175 : decode cX6_collects 175 = .ok (.iload_n 2, 1) := by decide +kernel
theorem dX6_collects_176 : decode cX6_collects 176 = .ok (.imul, 1) := by decide +kernel
theorem dX6_collects_177 : decode cX6_collects 177 = .ok (.iload_n 3, 1) := by decide +kernel
theorem dX6_collects_178 : decode cX6_collects 178 = .ok (.iadd, 1) := by decide +kernel
theorem dX6_collects_179 : decode cX6_collects 179 = .ok (.iaload, 1) := by decide +kernel
theorem dX6_collects_180 : decode cX6_collects 180 = .ok (.aload_n 0, 1) := by decide +kernel
theorem dX6_collects_181 : decode cX6_collects 181 = .ok (.getfield 30, 3) := by decide +kernel
theorem dX6_collects_184 : decode cX6_collects 184 = .ok (.bipush 12, 2) := by decide +kernel
theorem dX6_collects_186 : decode cX6_collects 186 = .ok (.iload_n 2, 1) := by decide +kernel
theorem dX6_collects_187 : decode cX6_collects 187 = .ok (.imul, 1) := by decide +kernel
theorem dX6_collects_188 : decode cX6_collects 188 = .ok (.iload_n 3, 1) := by decide +kernel
theorem dX6_collects_189 : decode cX6_collects 189 = .ok (.iadd, 1) := by decide +kernel
theorem dX6_collects_190 : decode cX6_collects 190 = .ok (.iaload, 1) := by decide +kernel
theorem dX6_collects_191 : decode cX6_collects 191 = .ok (.invokevirtual 140, 3) := by decide +kernel
theorem dX6_collects_194 : decode cX6_collects 194 = .ok (.iinc 3 1, 3) := by decide +kernel
theorem dX6_collects_197 : decode cX6_collects 197 = .ok (.goto (-40), 3) := by decide +kernel
theorem dX6_collects_200 : decode cX6_collects 200 = .ok (.goto (-72), 3) := by decide +kernel
theorem dX6_collects_203 : decode cX6_collects 203 = .ok (.iconst 0, 1) := by decide +kernel
theorem dX6_collects_204 : decode cX6_collects 204 = .ok (.istore_n 2, 1) := by decide +kernel
theorem dX6_collects_205 : decode cX6_collects 205 = .ok (.iconst 0, 1) := by decide +kernel
theorem dX6_collects_206 : decode cX6_collects 206 = .ok (.istore_n 3, 1) := by decide +kernel
theorem dX6_collects_207 : decode cX6_collects 207 = .ok (.iload_n 3, 1) := by decide +kernel
theorem dX6_collects_208 : decode cX6_collects 208 = .ok (.bipush 120, 2) := by decide +kernel
theorem dX6_collects_210 : decode cX6_collects 210 = .ok (.if_icmp .ge 35, 3) := by decide +kernel
theorem dX6_collects_213 : decode cX6_collects 213 = .ok (.aload_n 0, 1) := by decide +kernel
theorem dX6_collects_214 : decode cX6_collects 214 = .ok (.getfield 39, 3) := by decide +kernel
theorem dX6_collects_217 : decode cX6_collects 217 = .ok (.bipush 120, 2) := by decide +kernel
theorem dX6_collects_219 : decode cX6_collects 219 = .ok (.iload_n 1, 1) := by decide +kernel
theorem dX6_collects_220 : decode cX6_collects 220 = .ok (.imul, 1) := by decide +kernel
theorem dX6_collects_221 : decode cX6_collects 221 = .ok (.iload_n 3, 1) := by decide +kernel
theorem dX6_collects_222 : decode cX6_collects 222 = .ok (.iadd, 1) := by decide +kernel
theorem dX6_collects_223 : decode cX6_collects 223 = .ok (.iaload, 1) := by decide +kernel
theorem dX6_collects_224 : decode cX6_collects 224 = .ok (.ifCond .le 15, 3) := by decide +kernel
theorem dX6_collects_227 : decode cX6_collects 227 = .ok (.aload_n 0, 1) := by decide +kernel
theorem dX6_collects_228 : decode cX6_collects 228 = .ok (.getfield 69, 3) := by decide +kernel
theorem dX6_collects_231 : decode cX6_collects 231 = .ok (.iload_n 3, 1) := by decide +kernel
theorem dX6_collects_232 : decode cX6_collects 232 = .ok (.baload, 1) := by decide +kernel
theorem dX6_collects_233 : decode cX6_collects 233 = .ok (.ifCond .ne 6, 3) := by decide +kernel
theorem dX6_collects_236 : decode cX6_collects 236 = .ok (.iinc 2 1, 3) := by decide +kernel
theorem dX6_collects_239 : decode cX6_collects 239 = .ok (.iinc 3 1, 3) := by decide +kernel
theorem dX6_collects_242 : decode cX6_collects 242 = .ok (.goto (-35), 3) := by decide +kernel
theorem dX6_collects_245 : decode cX6_collects 245 = .ok (.aload_n 0, 1) := by decide +kernel
theorem dX6_collects_246 : decode cX6_collects 246 = .ok (.getfield 110, 3) := by decide +kernel
theorem dX6_collects_249 : decode cX6_collects 249 = .ok (.iload_n 2, 1) := by decide +kernel
theorem dX6_collects_250 : decode cX6_collects 250 = .ok (.iadd, 1) := by decide +kernel
theorem dX6_collects_251 : decode cX6_collects 251 = .ok (.bipush 60, 2) := by decide +kernel
theorem dX6_collects_253 : decode cX6_collects 253 = .ok (.if_icmp .le 6, 3) := by decide +kernel
theorem dX6_collects_256 : decode cX6_collects 256 = .ok (.bipush (-2), 2) := by decide +kernel
theorem dX6_collects_258 : decode cX6_collects 258 = .ok (.ireturn, 1) := by decide +kernel
theorem dX6_collects_259 : decode cX6_collects 259 = .ok (.iconst 0, 1) := by decide +kernel
theorem dX6_collects_260 : decode cX6_collects 260 = .ok (.istore_n 3, 1) := by decide +kernel
theorem dX6_collects_261 : decode cX6_collects 261 = .ok (.iconst 0, 1) := by decide +kernel
theorem dX6_collects_262 : decode cX6_collects 262 = .ok (.istore 4, 2) := by decide +kernel
theorem dX6_collects_264 : decode cX6_collects 264 = .ok (.iload 4, 2) := by decide +kernel
theorem dX6_collects_266 : decode cX6_collects 266 = .ok (.bipush 24, 2) := by decide +kernel
theorem dX6_collects_268 : decode cX6_collects 268 = .ok (.if_icmp .ge 52, 3) := by decide +kernel
theorem dX6_collects_271 : decode cX6_collects 271 = .ok (.bipush 24, 2) := by decide +kernel
theorem dX6_collects_273 : decode cX6_collects 273 = .ok (.iload_n 1, 1) := by decide +kernel
theorem dX6_collects_274 : decode cX6_collects 274 = .ok (.imul, 1) := by decide +kernel
theorem dX6_collects_275 : decode cX6_collects 275 = .ok (.iload 4, 2) := by decide +kernel
theorem dX6_collects_277 : decode cX6_collects 277 = .ok (.iadd, 1) := by decide +kernel
theorem dX6_collects_278 : decode cX6_collects 278 = .ok (.istore 5, 2) := by decide +kernel
theorem dX6_collects_280 : decode cX6_collects 280 = .ok (.aload_n 0, 1) := by decide +kernel
theorem dX6_collects_281 : decode cX6_collects 281 = .ok (.getfield 23, 3) := by decide +kernel
theorem dX6_collects_284 : decode cX6_collects 284 = .ok (.iload 5, 2) := by decide +kernel
theorem dX6_collects_286 : decode cX6_collects 286 = .ok (.baload, 1) := by decide +kernel
theorem dX6_collects_287 : decode cX6_collects 287 = .ok (.ifCond .eq 27, 3) := by decide +kernel
theorem dX6_collects_290 : decode cX6_collects 290 = .ok (.aload_n 0, 1) := by decide +kernel
theorem dX6_collects_291 : decode cX6_collects 291 = .ok (.getfield 66, 3) := by decide +kernel
theorem dX6_collects_294 : decode cX6_collects 294 = .ok (.iload 5, 2) := by decide +kernel
theorem dX6_collects_296 : decode cX6_collects 296 = .ok (.baload, 1) := by decide +kernel
theorem dX6_collects_297 : decode cX6_collects 297 = .ok (.ifCond .eq 6, 3) := by decide +kernel
theorem dX6_collects_300 : decode cX6_collects 300 = .ok (.goto 14, 3) := by decide +kernel
theorem dX6_collects_303 : decode cX6_collects 303 = .ok (.aload_n 0, 1) := by decide +kernel
theorem dX6_collects_304 : decode cX6_collects 304 = .ok (.getfield 23, 3) := by decide +kernel
theorem dX6_collects_307 : decode cX6_collects 307 = .ok (.iload 5, 2) := by decide +kernel
theorem dX6_collects_309 : decode cX6_collects 309 = .ok (.iconst 0, 1) := by decide +kernel
theorem dX6_collects_310 : decode cX6_collects 310 = .ok (.bastore, 1) := by decide +kernel
theorem dX6_collects_311 : decode cX6_collects 311 = .ok (.iinc 3 1, 3) := by decide +kernel
theorem dX6_collects_314 : decode cX6_collects 314 = .ok (.iinc 4 1, 3) := by decide +kernel
theorem dX6_collects_317 : decode cX6_collects 317 = .ok (.goto (-53), 3) := by decide +kernel
theorem dX6_collects_320 : decode cX6_collects 320 = .ok (.aload_n 0, 1) := by decide +kernel
theorem dX6_collects_321 : decode cX6_collects 321 = .ok (.iload_n 1, 1) := by decide +kernel
theorem dX6_collects_322 : decode cX6_collects 322 = .ok (.invokevirtual 144, 3) := by decide +kernel
theorem dX6_collects_325 : decode cX6_collects 325 = .ok (.iconst 0, 1) := by decide +kernel
theorem dX6_collects_326 : decode cX6_collects 326 = .ok (.istore 4, 2) := by decide +kernel
theorem dX6_collects_328 : decode cX6_collects 328 = .ok (.iload 4, 2) := by decide +kernel
theorem dX6_collects_330 : decode cX6_collects 330 = .ok (.bipush 120, 2) := by decide +kernel
theorem dX6_collects_332 : decode cX6_collects 332 = .ok (.if_icmp .ge 41, 3) := by decide +kernel
theorem dX6_collects_335 : decode cX6_collects 335 = .ok (.aload_n 0, 1) := by decide +kernel
theorem dX6_collects_336 : decode cX6_collects 336 = .ok (.getfield 39, 3) := by decide +kernel
theorem dX6_collects_339 : decode cX6_collects 339 = .ok (.bipush 120, 2) := by decide +kernel
theorem dX6_collects_341 : decode cX6_collects 341 = .ok (.iload_n 1, 1) := by decide +kernel
theorem dX6_collects_342 : decode cX6_collects 342 = .ok (.imul, 1) := by decide +kernel
theorem dX6_collects_343 : decode cX6_collects 343 = .ok (.iload 4, 2) := by decide +kernel
theorem dX6_collects_345 : decode cX6_collects 345 = .ok (.iadd, 1) := by decide +kernel
theorem dX6_collects_346 : decode cX6_collects 346 = .ok (.iaload, 1) := by decide +kernel
theorem dX6_collects_347 : decode cX6_collects 347 = .ok (.ifCond .le 20, 3) := by decide +kernel
theorem dX6_collects_350 : decode cX6_collects 350 = .ok (.aload_n 0, 1) := by decide +kernel
theorem dX6_collects_351 : decode cX6_collects 351 = .ok (.getfield 69, 3) := by decide +kernel
theorem dX6_collects_354 : decode cX6_collects 354 = .ok (.iload 4, 2) := by decide +kernel
theorem dX6_collects_356 : decode cX6_collects 356 = .ok (.baload, 1) := by decide +kernel
theorem dX6_collects_357 : decode cX6_collects 357 = .ok (.ifCond .ne 10, 3) := by decide +kernel
theorem dX6_collects_360 : decode cX6_collects 360 = .ok (.aload_n 0, 1) := by decide +kernel
theorem dX6_collects_361 : decode cX6_collects 361 = .ok (.iload_n 1, 1) := by decide +kernel
theorem dX6_collects_362 : decode cX6_collects 362 = .ok (.iload 4, 2) := by decide +kernel
theorem dX6_collects_364 : decode cX6_collects 364 = .ok (.invokevirtual 147, 3) := by decide +kernel
theorem dX6_collects_367 : decode cX6_collects 367 = .ok (.iinc 4 1, 3) := by decide +kernel
theorem dX6_collects_370 : decode cX6_collects 370 = .ok (.goto (-42), 3) := by decide +kernel
theorem dX6_collects_373 : decode cX6_collects 373 = .ok (.iload_n 3, 1) := by decide +kernel
theorem dX6_collects_374 : decode cX6_collects 374 = .ok (.ireturn, 1) := by decide +kernel
theorem dX6_givesBack_0 : decode cX6_givesBack 0 = .ok (.aload_n 0, 1) := by decide +kernel
theorem dX6_givesBack_1 : decode cX6_givesBack 1 = .ok (.iload_n 1, 1) := by decide +kernel
theorem dX6_givesBack_2 : decode cX6_givesBack 2 = .ok (.iload_n 2, 1) := by decide +kernel
theorem dX6_givesBack_3 : decode cX6_givesBack 3 = .ok (.bipush 24, 2) := by decide +kernel
theorem dX6_givesBack_5 : decode cX6_givesBack 5 = .ok (.idiv, 1) := by decide +kernel
theorem dX6_givesBack_6 : decode cX6_givesBack 6 = .ok (.iconst 2, 1) := by decide +kernel
theorem dX6_givesBack_7 : decode cX6_givesBack 7 = .ok (.iload_n 2, 1) := by decide +kernel
theorem dX6_givesBack_8 : decode cX6_givesBack 8 = .ok (.aload_n 0, 1) := by decide +kernel
theorem dX6_givesBack_9 : decode cX6_givesBack 9 = .ok (.getfield 39, 3) := by decide +kernel
theorem dX6_givesBack_12 : decode cX6_givesBack 12 = .ok (.bipush 120, 2) := by decide +kernel
theorem dX6_givesBack_14 : decode cX6_givesBack 14 = .ok (.iload_n 1, 1) := by decide +kernel
theorem dX6_givesBack_15 : decode cX6_givesBack 15 = .ok (.imul, 1) := by decide +kernel
theorem dX6_givesBack_16 : decode cX6_givesBack 16 = .ok (.iload_n 2, 1) := by decide +kernel
theorem dX6_givesBack_17 : decode cX6_givesBack 17 = .ok (.iadd, 1) := by decide +kernel
theorem dX6_givesBack_18 : decode cX6_givesBack 18 = .ok (.iaload, 1) := by decide +kernel
theorem dX6_givesBack_19 : decode cX6_givesBack 19 = .ok (.iconst (-1), 1) := by decide +kernel
theorem dX6_givesBack_20 : decode cX6_givesBack 20 = .ok (.invokevirtual 113, 3) := by decide +kernel
theorem dX6_givesBack_23 : decode cX6_givesBack 23 = .ok (.aload_n 0, 1) := by decide +kernel
theorem dX6_givesBack_24 : decode cX6_givesBack 24 = .ok (.getfield 39, 3) := by decide +kernel
theorem dX6_givesBack_27 : decode cX6_givesBack 27 = .ok (.bipush 120, 2) := by decide +kernel
theorem dX6_givesBack_29 : decode cX6_givesBack 29 = .ok (.iload_n 1, 1) := by decide +kernel
theorem dX6_givesBack_30 : decode cX6_givesBack 30 = .ok (.imul, 1) := by decide +kernel
theorem dX6_givesBack_31 : decode cX6_givesBack 31 = .ok (.iload_n 2, 1) := by decide +kernel
theorem dX6_givesBack_32 : decode cX6_givesBack 32 = .ok (.iadd, 1) := by decide +kernel
theorem dX6_givesBack_33 : decode cX6_givesBack 33 = .ok (.iconst 0, 1) := by decide +kernel
theorem dX6_givesBack_34 : decode cX6_givesBack 34 = .ok (.iastore, 1) := by decide +kernel
theorem dX6_givesBack_35 : decode cX6_givesBack 35 = .ok (.return_, 1) := by decide +kernel
theorem dX6_slides_0 : decode cX6_slides 0 = .ok (.iconst 0, 1) := by decide +kernel
theorem dX6_slides_1 : decode cX6_slides 1 = .ok (.istore_n 2, 1) := by decide +kernel
theorem dX6_slides_2 : decode cX6_slides 2 = .ok (.iconst 0, 1) := by decide +kernel
theorem dX6_slides_3 : decode cX6_slides 3 = .ok (.istore_n 3, 1) := by decide +kernel
theorem dX6_slides_4 : decode cX6_slides 4 = .ok (.iload_n 3, 1) := by decide +kernel
theorem dX6_slides_5 : decode cX6_slides 5 = .ok (.aload_n 0, 1) := by decide +kernel
theorem dX6_slides_6 : decode cX6_slides 6 = .ok (.getfield 42, 3) := by decide +kernel
theorem dX6_slides_9 : decode cX6_slides 9 = .ok (.iload_n 1, 1) := by decide +kernel
theorem dX6_slides_10 : decode cX6_slides 10 = .ok (.iaload, 1) := by decide +kernel
theorem dX6_slides_11 : decode cX6_slides 11 = .ok (.if_icmp .ge 169, 3) := by decide +kernel
theorem dX6_slides_14 : decode cX6_slides 14 = .ok (.iconst (-1), 1) := by decide +kernel
theorem dX6_slides_15 : decode cX6_slides 15 = .ok (.istore 4, 2) := by decide +kernel
theorem dX6_slides_17 : decode cX6_slides 17 = .ok (.iconst 0, 1) := by decide +kernel
theorem dX6_slides_18 : decode cX6_slides 18 = .ok (.istore 5, 2) := by decide +kernel
theorem dX6_slides_20 : decode cX6_slides 20 = .ok (.iload 5, 2) := by decide +kernel
theorem dX6_slides_22 : decode cX6_slides 22 = .ok (.bipush 24, 2) := by decide +kernel
theorem dX6_slides_24 : decode cX6_slides 24 = .ok (.if_icmp .ge 77, 3) := by decide +kernel
theorem dX6_slides_27 : decode cX6_slides 27 = .ok (.aload_n 0, 1) := by decide +kernel
theorem dX6_slides_28 : decode cX6_slides 28 = .ok (.getfield 23, 3) := by decide +kernel
theorem dX6_slides_31 : decode cX6_slides 31 = .ok (.bipush 24, 2) := by decide +kernel
theorem dX6_slides_33 : decode cX6_slides 33 = .ok (.iload_n 1, 1) := by decide +kernel
theorem dX6_slides_34 : decode cX6_slides 34 = .ok (.imul, 1) := by decide +kernel
theorem dX6_slides_35 : decode cX6_slides 35 = .ok (.iload 5, 2) := by decide +kernel
theorem dX6_slides_37 : decode cX6_slides 37 = .ok (.iadd, 1) := by decide +kernel
theorem dX6_slides_38 : decode cX6_slides 38 = .ok (.baload, 1) := by decide +kernel
theorem dX6_slides_39 : decode cX6_slides 39 = .ok (.ifCond .eq 56, 3) := by decide +kernel
theorem dX6_slides_42 : decode cX6_slides 42 = .ok (.aload_n 0, 1) := by decide +kernel
theorem dX6_slides_43 : decode cX6_slides 43 = .ok (.getfield 17, 3) := by decide +kernel
theorem dX6_slides_46 : decode cX6_slides 46 = .ok (.bipush 24, 2) := by decide +kernel
theorem dX6_slides_48 : decode cX6_slides 48 = .ok (.iload_n 1, 1) := by decide +kernel
theorem dX6_slides_49 : decode cX6_slides 49 = .ok (.imul, 1) := by decide +kernel
theorem dX6_slides_50 : decode cX6_slides 50 = .ok (.iload 5, 2) := by decide +kernel
theorem dX6_slides_52 : decode cX6_slides 52 = .ok (.iadd, 1) := by decide +kernel
theorem dX6_slides_53 : decode cX6_slides 53 = .ok (.iaload, 1) := by decide +kernel
theorem dX6_slides_54 : decode cX6_slides 54 = .ok (.iload_n 3, 1) := by decide +kernel
theorem dX6_slides_55 : decode cX6_slides 55 = .ok (.if_icmp .lt 40, 3) := by decide +kernel
theorem dX6_slides_58 : decode cX6_slides 58 = .ok (.iload 4, 2) := by decide +kernel
theorem dX6_slides_60 : decode cX6_slides 60 = .ok (.iconst (-1), 1) := by decide +kernel
theorem dX6_slides_61 : decode cX6_slides 61 = .ok (.if_icmp .eq 25, 3) := by decide +kernel
theorem dX6_slides_64 : decode cX6_slides 64 = .ok (.aload_n 0, 1) := by decide +kernel
theorem dX6_slides_65 : decode cX6_slides 65 = .ok (.getfield 17, 3) := by decide +kernel
theorem dX6_slides_68 : decode cX6_slides 68 = .ok (.bipush 24, 2) := by decide +kernel
theorem dX6_slides_70 : decode cX6_slides 70 = .ok (.iload_n 1, 1) := by decide +kernel
theorem dX6_slides_71 : decode cX6_slides 71 = .ok (.imul, 1) := by decide +kernel
theorem dX6_slides_72 : decode cX6_slides 72 = .ok (.iload 5, 2) := by decide +kernel
theorem dX6_slides_74 : decode cX6_slides 74 = .ok (.iadd, 1) := by decide +kernel
theorem dX6_slides_75 : decode cX6_slides 75 = .ok (.iaload, 1) := by decide +kernel
theorem dX6_slides_76 : decode cX6_slides 76 = .ok (.aload_n 0, 1) := by decide +kernel
theorem dX6_slides_77 : decode cX6_slides 77 = .ok (.getfield 17, 3) := by decide +kernel
theorem dX6_slides_80 : decode cX6_slides 80 = .ok (.iload 4, 2) := by decide +kernel
theorem dX6_slides_82 : decode cX6_slides 82 = .ok (.iaload, 1) := by decide +kernel
theorem dX6_slides_83 : decode cX6_slides 83 = .ok (.if_icmp .ge 12, 3) := by decide +kernel
theorem dX6_slides_86 : decode cX6_slides 86 = .ok (.bipush 24, 2) := by decide +kernel
theorem dX6_slides_88 : decode cX6_slides 88 = .ok (.iload_n 1, 1) := by decide +kernel
theorem dX6_slides_89 : decode cX6_slides 89 = .ok (.imul, 1) := by decide +kernel
theorem dX6_slides_90 : decode cX6_slides 90 = .ok (.iload 5, 2) := by decide +kernel
theorem dX6_slides_92 : decode cX6_slides 92 = .ok (.iadd, 1) := by decide +kernel
theorem dX6_slides_93 : decode cX6_slides 93 = .ok (.istore 4, 2) := by decide +kernel
theorem dX6_slides_95 : decode cX6_slides 95 = .ok (.iinc 5 1, 3) := by decide +kernel
theorem dX6_slides_98 : decode cX6_slides 98 = .ok (.goto (-78), 3) := by decide +kernel
theorem dX6_slides_101 : decode cX6_slides 101 = .ok (.iload 4, 2) := by decide +kernel
theorem dX6_slides_103 : decode cX6_slides 103 = .ok (.iconst (-1), 1) := by decide +kernel
theorem dX6_slides_104 : decode cX6_slides 104 = .ok (.if_icmp .ne 6, 3) := by decide +kernel
theorem dX6_slides_107 : decode cX6_slides 107 = .ok (.goto 73, 3) := by decide +kernel
theorem dX6_slides_110 : decode cX6_slides 110 = .ok (.aload_n 0, 1) := by decide +kernel
theorem dX6_slides_111 : decode cX6_slides 111 = .ok (.getfield 17, 3) := by decide +kernel
theorem dX6_slides_114 : decode cX6_slides 114 = .ok (.iload 4, 2) := by decide +kernel
theorem dX6_slides_116 : decode cX6_slides 116 = .ok (.iaload, 1) := by decide +kernel
theorem dX6_slides_117 : decode cX6_slides 117 = .ok (.aload_n 0, 1) := by decide +kernel
theorem dX6_slides_118 : decode cX6_slides 118 = .ok (.getfield 13, 3) := by decide +kernel
theorem dX6_slides_121 : decode cX6_slides 121 = .ok (.iload 4, 2) := by decide +kernel
theorem dX6_slides_123 : decode cX6_slides 123 = .ok (.iaload, 1) := by decide +kernel
theorem dX6_slides_124 : decode cX6_slides 124 = .ok (.iadd, 1) := by decide +kernel
theorem dX6_slides_125 : decode cX6_slides 125 = .ok (.iconst 1, 1) := by decide +kernel
theorem dX6_slides_126 : decode cX6_slides 126 = .ok (.iadd, 1) := by decide +kernel
theorem dX6_slides_127 : decode cX6_slides 127 = .ok (.istore_n 3, 1) := by decide +kernel
theorem dX6_slides_128 : decode cX6_slides 128 = .ok (.aload_n 0, 1) := by decide +kernel
theorem dX6_slides_129 : decode cX6_slides 129 = .ok (.getfield 17, 3) := by decide +kernel
theorem dX6_slides_132 : decode cX6_slides 132 = .ok (.iload 4, 2) := by decide +kernel
theorem dX6_slides_134 : decode cX6_slides 134 = .ok (.iaload, 1) := by decide +kernel
theorem dX6_slides_135 : decode cX6_slides 135 = .ok (.iload_n 2, 1) := by decide +kernel
theorem dX6_slides_136 : decode cX6_slides 136 = .ok (.if_icmp .eq 21, 3) := by decide +kernel
theorem dX6_slides_139 : decode cX6_slides 139 = .ok (.aload_n 0, 1) := by decide +kernel
theorem dX6_slides_140 : decode cX6_slides 140 = .ok (.getfield 45, 3) := by decide +kernel
theorem dX6_slides_143 : decode cX6_slides 143 = .ok (.iload_n 1, 1) := by decide +kernel
theorem dX6_slides_144 : decode cX6_slides 144 = .ok (.dup2, 1) := by decide +kernel
theorem dX6_slides_145 : decode cX6_slides 145 = .ok (.iaload, 1) := by decide +kernel
theorem dX6_slides_146 : decode cX6_slides 146 = .ok (.aload_n 0, 1) := by decide +kernel
theorem dX6_slides_147 : decode cX6_slides 147 = .ok (.getfield 13, 3) := by decide +kernel
theorem dX6_slides_150 : decode cX6_slides 150 = .ok (.iload 4, 2) := by decide +kernel
theorem dX6_slides_152 : decode cX6_slides 152 = .ok (.iaload, 1) := by decide +kernel
theorem dX6_slides_153 : decode cX6_slides 153 = .ok (.iconst 1, 1) := by decide +kernel
theorem dX6_slides_154 : decode cX6_slides 154 = .ok (.iadd, 1) := by decide +kernel
theorem dX6_slides_155 : decode cX6_slides 155 = .ok (.iadd, 1) := by decide +kernel
theorem dX6_slides_156 : decode cX6_slides 156 = .ok (.iastore, 1) := by decide +kernel
theorem dX6_slides_157 : decode cX6_slides 157 = .ok (.aload_n 0, 1) := by decide +kernel
theorem dX6_slides_158 : decode cX6_slides 158 = .ok (.getfield 17, 3) := by decide +kernel
theorem dX6_slides_161 : decode cX6_slides 161 = .ok (.iload 4, 2) := by decide +kernel
theorem dX6_slides_163 : decode cX6_slides 163 = .ok (.iload_n 2, 1) := by decide +kernel
theorem dX6_slides_164 : decode cX6_slides 164 = .ok (.iastore, 1) := by decide +kernel
theorem dX6_slides_165 : decode cX6_slides 165 = .ok (.iload_n 2, 1) := by decide +kernel
theorem dX6_slides_166 : decode cX6_slides 166 = .ok (.aload_n 0, 1) := by decide +kernel
theorem dX6_slides_167 : decode cX6_slides 167 = .ok (.getfield 13, 3) := by decide +kernel
theorem dX6_slides_170 : decode cX6_slides 170 = .ok (.iload 4, 2) := by decide +kernel
theorem dX6_slides_172 : decode cX6_slides 172 = .ok (.iaload, 1) := by decide +kernel
theorem dX6_slides_173 : decode cX6_slides 173 = .ok (.iconst 1, 1) := by decide +kernel
theorem dX6_slides_174 : decode cX6_slides 174 = .ok (.iadd, 1) := by decide +kernel
theorem dX6_slides_175 : decode cX6_slides 175 = .ok (.iadd, 1) := by decide +kernel
theorem dX6_slides_176 : decode cX6_slides 176 = .ok (.istore_n 2, 1) := by decide +kernel
theorem dX6_slides_177 : decode cX6_slides 177 = .ok (.goto (-173), 3) := by decide +kernel
theorem dX6_slides_180 : decode cX6_slides 180 = .ok (.aload_n 0, 1) := by decide +kernel
theorem dX6_slides_181 : decode cX6_slides 181 = .ok (.getfield 42, 3) := by decide +kernel
theorem dX6_slides_184 : decode cX6_slides 184 = .ok (.iload_n 1, 1) := by decide +kernel
theorem dX6_slides_185 : decode cX6_slides 185 = .ok (.iload_n 2, 1) := by decide +kernel
theorem dX6_slides_186 : decode cX6_slides 186 = .ok (.iastore, 1) := by decide +kernel
theorem dX6_slides_187 : decode cX6_slides 187 = .ok (.return_, 1) := by decide +kernel
theorem dX6_collect_0 : decode cX6_collect 0 = .ok (.aload_n 0, 1) := by decide +kernel
theorem dX6_collect_1 : decode cX6_collect 1 = .ok (.iload_n 1, 1) := by decide +kernel
theorem dX6_collect_2 : decode cX6_collect 2 = .ok (.invokevirtual 90, 3) := by decide +kernel
theorem dX6_collect_5 : decode cX6_collect 5 = .ok (.ifCond .eq 11, 3) := by decide +kernel
theorem dX6_collect_8 : decode cX6_collect 8 = .ok (.aload_n 0, 1) := by decide +kernel
theorem dX6_collect_9 : decode cX6_collect 9 = .ok (.iload_n 1, 1) := by decide +kernel
theorem dX6_collect_10 : decode cX6_collect 10 = .ok (.invokevirtual 151, 3) := by decide +kernel
theorem dX6_collect_13 : decode cX6_collect 13 = .ok (.goto 4, 3) := by decide +kernel
theorem dX6_collect_16 : decode cX6_collect 16 = .ok (.iconst (-1), 1) := by decide +kernel
theorem dX6_collect_17 : decode cX6_collect 17 = .ok (.ireturn, 1) := by decide +kernel
theorem dX6_grays_0 : decode cX6_grays 0 = .ok (.aload_n 0, 1) := by decide +kernel
theorem dX6_grays_1 : decode cX6_grays 1 = .ok (.getfield 75, 3) := by decide +kernel
theorem dX6_grays_4 : decode cX6_grays 4 = .ok (.iload_n 1, 1) := by decide +kernel
theorem dX6_grays_5 : decode cX6_grays 5 = .ok (.baload, 1) := by decide +kernel
theorem dX6_grays_6 : decode cX6_grays 6 = .ok (.ifCond .eq 4, 3) := by decide +kernel
theorem dX6_grays_9 : decode cX6_grays 9 = .ok (.return_, 1) := by decide +kernel
theorem dX6_grays_10 : decode cX6_grays 10 = .ok (.aload_n 0, 1) := by decide +kernel
theorem dX6_grays_11 : decode cX6_grays 11 = .ok (.getfield 75, 3) := by decide +kernel
theorem dX6_grays_14 : decode cX6_grays 14 = .ok (.iload_n 1, 1) := by decide +kernel
theorem dX6_grays_15 : decode cX6_grays 15 = .ok (.iconst 1, 1) := by decide +kernel
theorem dX6_grays_16 : decode cX6_grays 16 = .ok (.bastore, 1) := by decide +kernel
theorem dX6_grays_17 : decode cX6_grays 17 = .ok (.aload_n 0, 1) := by decide +kernel
theorem dX6_grays_18 : decode cX6_grays 18 = .ok (.getfield 72, 3) := by decide +kernel
theorem dX6_grays_21 : decode cX6_grays 21 = .ok (.aload_n 0, 1) := by decide +kernel
theorem dX6_grays_22 : decode cX6_grays 22 = .ok (.getfield 137, 3) := by decide +kernel
theorem dX6_grays_25 : decode cX6_grays 25 = .ok (.iload_n 1, 1) := by decide +kernel
theorem dX6_grays_26 : decode cX6_grays 26 = .ok (.iastore, 1) := by decide +kernel
theorem dX6_grays_27 : decode cX6_grays 27 = .ok (.aload_n 0, 1) := by decide +kernel
theorem dX6_grays_28 : decode cX6_grays 28 = .ok (.dup, 1) := by decide +kernel
theorem dX6_grays_29 : decode cX6_grays 29 = .ok (.getfield 137, 3) := by decide +kernel
theorem dX6_grays_32 : decode cX6_grays 32 = .ok (.iconst 1, 1) := by decide +kernel
theorem dX6_grays_33 : decode cX6_grays 33 = .ok (.iadd, 1) := by decide +kernel
theorem dX6_grays_34 : decode cX6_grays 34 = .ok (.putfield 137, 3) := by decide +kernel
theorem dX6_grays_37 : decode cX6_grays 37 = .ok (.return_, 1) := by decide +kernel
theorem dX6_trial_0 : decode cX6_trial 0 = .ok (.aload_n 0, 1) := by decide +kernel
theorem dX6_trial_1 : decode cX6_trial 1 = .ok (.iload_n 1, 1) := by decide +kernel
theorem dX6_trial_2 : decode cX6_trial 2 = .ok (.iload_n 2, 1) := by decide +kernel
theorem dX6_trial_3 : decode cX6_trial 3 = .ok (.invokevirtual 154, 3) := by decide +kernel
theorem dX6_trial_6 : decode cX6_trial 6 = .ok (.ifCond .eq 24, 3) := by decide +kernel
theorem dX6_trial_9 : decode cX6_trial 9 = .ok (.aload_n 0, 1) := by decide +kernel
theorem dX6_trial_10 : decode cX6_trial 10 = .ok (.getfield 20, 3) := by decide +kernel
theorem dX6_trial_13 : decode cX6_trial 13 = .ok (.bipush 24, 2) := by decide +kernel
theorem dX6_trial_15 : decode cX6_trial 15 = .ok (.iload_n 1, 1) := by decide +kernel
theorem dX6_trial_16 : decode cX6_trial 16 = .ok (.imul, 1) := by decide +kernel
theorem dX6_trial_17 : decode cX6_trial 17 = .ok (.iload_n 2, 1) := by decide +kernel
theorem dX6_trial_18 : decode cX6_trial 18 = .ok (.iadd, 1) := by decide +kernel
theorem dX6_trial_19 : decode cX6_trial 19 = .ok (.iaload, 1) := by decide +kernel
theorem dX6_trial_20 : decode cX6_trial 20 = .ok (.ifCond .eq 10, 3) := by decide +kernel
theorem dX6_trial_23 : decode cX6_trial 23 = .ok (.aload_n 0, 1) := by decide +kernel
theorem dX6_trial_24 : decode cX6_trial 24 = .ok (.getfield 110, 3) := by decide +kernel
theorem dX6_trial_27 : decode cX6_trial 27 = .ok (.ifCond .le 5, 3) := by decide +kernel
theorem dX6_trial_30 : decode cX6_trial 30 = .ok (.iconst (-1), 1) := by decide +kernel
theorem dX6_trial_31 : decode cX6_trial 31 = .ok (.ireturn, 1) := by decide +kernel
theorem dX6_trial_32 : decode cX6_trial 32 = .ok (.aload_n 0, 1) := by decide +kernel
theorem dX6_trial_33 : decode cX6_trial 33 = .ok (.bipush 24, 2) := by decide +kernel
theorem dX6_trial_35 : decode cX6_trial 35 = .ok (.iload_n 1, 1) := by decide +kernel
theorem dX6_trial_36 : decode cX6_trial 36 = .ok (.imul, 1) := by decide +kernel
theorem dX6_trial_37 : decode cX6_trial 37 = .ok (.iload_n 2, 1) := by decide +kernel
theorem dX6_trial_38 : decode cX6_trial 38 = .ok (.iadd, 1) := by decide +kernel
theorem dX6_trial_39 : decode cX6_trial 39 = .ok (.invokevirtual 157, 3) := by decide +kernel
theorem dX6_trial_42 : decode cX6_trial 42 = .ok (.ireturn, 1) := by decide +kernel
theorem dX6_tries_0 : decode cX6_tries 0 = .ok (.iconst 0, 1) := by decide +kernel
theorem dX6_tries_1 : decode cX6_tries 1 = .ok (.istore_n 2, 1) := by decide +kernel
theorem dX6_tries_2 : decode cX6_tries 2 = .ok (.iload_n 2, 1) := by decide +kernel
theorem dX6_tries_3 : decode cX6_tries 3 = .ok (.bipush 120, 2) := by decide +kernel
theorem dX6_tries_5 : decode cX6_tries 5 = .ok (.if_icmp .ge 16, 3) := by decide +kernel
theorem dX6_tries_8 : decode cX6_tries 8 = .ok (.aload_n 0, 1) := by decide +kernel
theorem dX6_tries_9 : decode cX6_tries 9 = .ok (.getfield 75, 3) := by decide +kernel
theorem dX6_tries_12 : decode cX6_tries 12 = .ok (.iload_n 2, 1) := by decide +kernel
theorem dX6_tries_13 : decode cX6_tries 13 = .ok (.iconst 0, 1) := by decide +kernel
theorem dX6_tries_14 : decode cX6_tries 14 = .ok (.bastore, 1) := by decide +kernel
theorem dX6_tries_15 : decode cX6_tries 15 = .ok (.iinc 2 1, 3) := by decide +kernel
theorem dX6_tries_18 : decode cX6_tries 18 = .ok (.goto (-16), 3) := by decide +kernel
theorem dX6_tries_21 : decode cX6_tries 21 = .ok (.aload_n 0, 1) := by decide +kernel
theorem dX6_tries_22 : decode cX6_tries 22 = .ok (.iconst 0, 1) := by decide +kernel
theorem dX6_tries_23 : decode cX6_tries 23 = .ok (.putfield 137, 3) := by decide +kernel
theorem dX6_tries_26 : decode cX6_tries 26 = .ok (.aload_n 0, 1) := by decide +kernel
theorem dX6_tries_27 : decode cX6_tries 27 = .ok (.iload_n 1, 1) := by decide +kernel
theorem dX6_tries_28 : decode cX6_tries 28 = .ok (.invokevirtual 160, 3) := by decide +kernel
theorem dX6_tries_31 : decode cX6_tries 31 = .ok (.iconst 0, 1) := by decide +kernel
theorem dX6_tries_32 : decode cX6_tries 32 = .ok (.istore_n 2, 1) := by decide +kernel
theorem dX6_tries_33 : decode cX6_tries 33 = .ok (.aload_n 0, 1) := by decide +kernel
theorem dX6_tries_34 : decode cX6_tries 34 = .ok (.getfield 137, 3) := by decide +kernel
theorem dX6_tries_37 : decode cX6_tries 37 = .ok (.ifCond .le 81, 3) := by decide +kernel
theorem dX6_tries_40 : decode cX6_tries 40 = .ok (.aload_n 0, 1) := by decide +kernel
theorem dX6_tries_41 : decode cX6_tries 41 = .ok (.dup, 1) := by decide +kernel
theorem dX6_tries_42 : decode cX6_tries 42 = .ok (.getfield 137, 3) := by decide +kernel
theorem dX6_tries_45 : decode cX6_tries 45 = .ok (.iconst 1, 1) := by decide +kernel
theorem dX6_tries_46 : decode cX6_tries 46 = .ok (.isub, 1) := by decide +kernel
theorem dX6_tries_47 : decode cX6_tries 47 = .ok (.putfield 137, 3) := by decide +kernel
theorem dX6_tries_50 : decode cX6_tries 50 = .ok (.aload_n 0, 1) := by decide +kernel
theorem dX6_tries_51 : decode cX6_tries 51 = .ok (.getfield 72, 3) := by decide +kernel
theorem dX6_tries_54 : decode cX6_tries 54 = .ok (.aload_n 0, 1) := by decide +kernel
theorem dX6_tries_55 : decode cX6_tries 55 = .ok (.getfield 137, 3) := by decide +kernel
theorem dX6_tries_58 : decode cX6_tries 58 = .ok (.iaload, 1) := by decide +kernel
theorem dX6_tries_59 : decode cX6_tries 59 = .ok (.istore_n 3, 1) := by decide +kernel
theorem dX6_tries_60 : decode cX6_tries 60 = .ok (.iinc 2 1, 3) := by decide +kernel
theorem dX6_tries_63 : decode cX6_tries 63 = .ok (.iconst 0, 1) := by decide +kernel
theorem dX6_tries_64 : decode cX6_tries 64 = .ok (.istore 4, 2) := by decide +kernel
theorem dX6_tries_66 : decode cX6_tries 66 = .ok (.iload 4, 2) := by decide +kernel
theorem dX6_tries_68 : decode cX6_tries 68 = .ok (.aload_n 0, 1) := by decide +kernel
theorem dX6_tries_69 : decode cX6_tries 69 = .ok (.getfield 13, 3) := by decide +kernel
theorem dX6_tries_72 : decode cX6_tries 72 = .ok (.iload_n 3, 1) := by decide +kernel
theorem dX6_tries_73 : decode cX6_tries 73 = .ok (.iaload, 1) := by decide +kernel
theorem dX6_tries_74 : decode cX6_tries 74 = .ok (.if_icmp .ge 41, 3) := by decide +kernel
theorem dX6_tries_77 : decode cX6_tries 77 = .ok (.aload_n 0, 1) := by decide +kernel
theorem dX6_tries_78 : decode cX6_tries 78 = .ok (.getfield 27, 3) := by decide +kernel
theorem dX6_tries_81 : decode cX6_tries 81 = .ok (.bipush 12, 2) := by decide +kernel
theorem dX6_tries_83 : decode cX6_tries 83 = .ok (.iload_n 3, 1) := by decide +kernel
theorem dX6_tries_84 : decode cX6_tries 84 = .ok (.imul, 1) := by decide +kernel
theorem dX6_tries_85 : decode cX6_tries 85 = .ok (.iload 4, 2) := by decide +kernel
theorem dX6_tries_87 : decode cX6_tries 87 = .ok (.iadd, 1) := by decide +kernel
theorem dX6_tries_88 : decode cX6_tries 88 = .ok (.iaload, 1) := by decide +kernel
theorem dX6_tries_89 : decode cX6_tries 89 = .ok (.iconst 2, 1) := by decide +kernel
theorem dX6_tries_90 : decode cX6_tries 90 = .ok (.if_icmp .ne 19, 3) := by decide +kernel
theorem dX6_tries_93 : decode cX6_tries 93 = .ok (.aload_n 0, 1) := by decide +kernel
theorem dX6_tries_94 : decode cX6_tries 94 = .ok (.aload_n 0, 1) := by decide +kernel
theorem dX6_tries_95 : decode cX6_tries 95 = .ok (.getfield 30, 3) := by decide +kernel
theorem dX6_tries_98 : decode cX6_tries 98 = .ok (.bipush 12, 2) := by decide +kernel
theorem dX6_tries_100 : decode cX6_tries 100 = .ok (.iload_n 3, 1) := by decide +kernel
theorem dX6_tries_101 : decode cX6_tries 101 = .ok (.imul, 1) := by decide +kernel
theorem dX6_tries_102 : decode cX6_tries 102 = .ok (.iload 4, 2) := by decide +kernel
theorem dX6_tries_104 : decode cX6_tries 104 = .ok (.iadd, 1) := by decide +kernel
theorem dX6_tries_105 : decode cX6_tries 105 = .ok (.iaload, 1) := by decide +kernel
theorem dX6_tries_106 : decode cX6_tries 106 = .ok (.invokevirtual 160, 3) := by decide +kernel
theorem dX6_tries_109 : decode cX6_tries 109 = .ok (.iinc 4 1, 3) := by decide +kernel
theorem dX6_tries_112 : decode cX6_tries 112 = .ok (.goto (-46), 3) := by decide +kernel
theorem dX6_tries_115 : decode cX6_tries 115 = .ok (.goto (-82), 3) := by decide +kernel
theorem dX6_tries_118 : decode cX6_tries 118 = .ok (.iconst 0, 1) := by decide +kernel
theorem dX6_tries_119 : decode cX6_tries 119 = .ok (.istore_n 3, 1) := by decide +kernel
theorem dX6_tries_120 : decode cX6_tries 120 = .ok (.iload_n 3, 1) := by decide +kernel
theorem dX6_tries_121 : decode cX6_tries 121 = .ok (.bipush 120, 2) := by decide +kernel
theorem dX6_tries_123 : decode cX6_tries 123 = .ok (.if_icmp .ge 16, 3) := by decide +kernel
theorem dX6_tries_126 : decode cX6_tries 126 = .ok (.aload_n 0, 1) := by decide +kernel
theorem dX6_tries_127 : decode cX6_tries 127 = .ok (.getfield 81, 3) := by decide +kernel
theorem dX6_tries_130 : decode cX6_tries 130 = .ok (.iload_n 3, 1) := by decide +kernel
theorem dX6_tries_131 : decode cX6_tries 131 = .ok (.iconst 0, 1) := by decide +kernel
theorem dX6_tries_132 : decode cX6_tries 132 = .ok (.bastore, 1) := by decide +kernel
theorem dX6_tries_133 : decode cX6_tries 133 = .ok (.iinc 3 1, 3) := by decide +kernel
theorem dX6_tries_136 : decode cX6_tries 136 = .ok (.goto (-16), 3) := by decide +kernel
theorem dX6_tries_139 : decode cX6_tries 139 = .ok (.iconst 1, 1) := by decide +kernel
theorem dX6_tries_140 : decode cX6_tries 140 = .ok (.istore_n 3, 1) := by decide +kernel
theorem dX6_tries_141 : decode cX6_tries 141 = .ok (.iload_n 3, 1) := by decide +kernel
theorem dX6_tries_142 : decode cX6_tries 142 = .ok (.ifCond .eq 15, 3) := by decide +kernel
theorem dX6_tries_145 : decode cX6_tries 145 = .ok (.aload_n 0, 1) := by decide +kernel
theorem dX6_tries_146 : decode cX6_tries 146 = .ok (.invokevirtual 163, 3) := by decide +kernel
theorem dX6_tries_149 : decode cX6_tries 149 = .ok (.aload_n 0, 1) := by decide +kernel
theorem dX6_tries_150 : decode cX6_tries 150 = .ok (.invokevirtual 166, 3) := by decide +kernel
theorem dX6_tries_153 : decode cX6_tries 153 = .ok (.istore_n 3, 1) := by decide +kernel
theorem dX6_tries_154 : decode cX6_tries 154 = .ok (.goto (-13), 3) := by decide +kernel
theorem dX6_tries_157 : decode cX6_tries 157 = .ok (.aload_n 0, 1) := by decide +kernel
theorem dX6_tries_158 : decode cX6_tries 158 = .ok (.getfield 81, 3) := by decide +kernel
theorem dX6_tries_161 : decode cX6_tries 161 = .ok (.iload_n 1, 1) := by decide +kernel
theorem dX6_tries_162 : decode cX6_tries 162 = .ok (.baload, 1) := by decide +kernel
theorem dX6_tries_163 : decode cX6_tries 163 = .ok (.ifCond .eq 5, 3) := by decide +kernel
theorem dX6_tries_166 : decode cX6_tries 166 = .ok (.iconst 0, 1) := by decide +kernel
theorem dX6_tries_167 : decode cX6_tries 167 = .ok (.ireturn, 1) := by decide +kernel
theorem dX6_tries_168 : decode cX6_tries 168 = .ok (.iconst 0, 1) := by decide +kernel
theorem dX6_tries_169 : decode cX6_tries 169 = .ok (.istore 4, 2) := by decide +kernel
theorem dX6_tries_171 : decode cX6_tries 171 = .ok (.iconst 0, 1) := by decide +kernel
theorem dX6_tries_172 : decode cX6_tries 172 = .ok (.istore 5, 2) := by decide +kernel
theorem dX6_tries_174 : decode cX6_tries 174 = .ok (.iload 5, 2) := by decide +kernel
theorem dX6_tries_176 : decode cX6_tries 176 = .ok (.sipush 600, 3) := by decide +kernel
theorem dX6_tries_179 : decode cX6_tries 179 = .ok (.if_icmp .ge 22, 3) := by decide +kernel
theorem dX6_tries_182 : decode cX6_tries 182 = .ok (.aload_n 0, 1) := by decide +kernel
theorem dX6_tries_183 : decode cX6_tries 183 = .ok (.getfield 78, 3) := by decide +kernel
theorem dX6_tries_186 : decode cX6_tries 186 = .ok (.iload 5, 2) := by decide +kernel
theorem dX6_tries_188 : decode cX6_tries 188 = .ok (.baload, 1) := by decide +kernel
theorem dX6_tries_189 : decode cX6_tries 189 = .ok (.ifCond .eq 6, 3) := by decide +kernel
theorem dX6_tries_192 : decode cX6_tries 192 = .ok (.iinc 4 1, 3) := by decide +kernel
theorem dX6_tries_195 : decode cX6_tries 195 = .ok (.iinc 5 1, 3) := by decide +kernel
theorem dX6_tries_198 : decode cX6_tries 198 = .ok (.goto (-24), 3) := by decide +kernel
theorem dX6_tries_201 : decode cX6_tries 201 = .ok (.iload 4, 2) := by decide +kernel
theorem dX6_tries_203 : decode cX6_tries 203 = .ok (.bipush 60, 2) := by decide +kernel
theorem dX6_tries_205 : decode cX6_tries 205 = .ok (.if_icmp .le 5, 3) := by decide +kernel
theorem dX6_tries_208 : decode cX6_tries 208 = .ok (.iconst 0, 1) := by decide +kernel
theorem dX6_tries_209 : decode cX6_tries 209 = .ok (.ireturn, 1) := by decide +kernel
theorem dX6_tries_210 : decode cX6_tries 210 = .ok (.iconst 0, 1) := by decide +kernel
theorem dX6_tries_211 : decode cX6_tries 211 = .ok (.istore_n 2, 1) := by decide +kernel
theorem dX6_tries_212 : decode cX6_tries 212 = .ok (.iconst 0, 1) := by decide +kernel
theorem dX6_tries_213 : decode cX6_tries 213 = .ok (.istore 5, 2) := by decide +kernel
theorem dX6_tries_215 : decode cX6_tries 215 = .ok (.iload 5, 2) := by decide +kernel
theorem dX6_tries_217 : decode cX6_tries 217 = .ok (.bipush 120, 2) := by decide +kernel
theorem dX6_tries_219 : decode cX6_tries 219 = .ok (.if_icmp .ge 94, 3) := by decide +kernel
theorem dX6_tries_222 : decode cX6_tries 222 = .ok (.aload_n 0, 1) := by decide +kernel
theorem dX6_tries_223 : decode cX6_tries 223 = .ok (.getfield 23, 3) := by decide +kernel
theorem dX6_tries_226 : decode cX6_tries 226 = .ok (.iload 5, 2) := by decide +kernel
theorem dX6_tries_228 : decode cX6_tries 228 = .ok (.baload, 1) := by decide +kernel
theorem dX6_tries_229 : decode cX6_tries 229 = .ok (.ifCond .eq 78, 3) := by decide +kernel
theorem dX6_tries_232 : decode cX6_tries 232 = .ok (.aload_n 0, 1) := by decide +kernel
theorem dX6_tries_233 : decode cX6_tries 233 = .ok (.getfield 75, 3) := by decide +kernel
theorem dX6_tries_236 : decode cX6_tries 236 = .ok (.iload 5, 2) := by decide +kernel
theorem dX6_tries_238 : decode cX6_tries 238 = .ok (.baload, 1) := by decide +kernel
theorem dX6_tries_239 : decode cX6_tries 239 = .ok (.ifCond .eq 68, 3) := by decide +kernel
theorem dX6_tries_242 : decode cX6_tries 242 = .ok (.aload_n 0, 1) := by decide +kernel
theorem dX6_tries_243 : decode cX6_tries 243 = .ok (.getfield 81, 3) := by decide +kernel
theorem dX6_tries_246 : decode cX6_tries 246 = .ok (.iload 5, 2) := by decide +kernel
theorem dX6_tries_248 : decode cX6_tries 248 = .ok (.baload, 1) := by decide +kernel
theorem dX6_tries_249 : decode cX6_tries 249 = .ok (.ifCond .eq 6, 3) := by decide +kernel
theorem dX6_tries_252 : decode cX6_tries 252 = .ok (.goto 55, 3) := by decide +kernel
theorem dX6_tries_255 : decode cX6_tries 255 = .ok (.iinc 2 1, 3) := by decide +kernel
theorem dX6_tries_258 : decode cX6_tries 258 = .ok (.iconst 0, 1) := by decide +kernel
theorem dX6_tries_259 : decode cX6_tries 259 = .ok (.istore 6, 2) := by decide +kernel
theorem dX6_tries_261 : decode cX6_tries 261 = .ok (.iload 6, 2) := by decide +kernel
theorem dX6_tries_263 : decode cX6_tries 263 = .ok (.aload_n 0, 1) := by decide +kernel
theorem dX6_tries_264 : decode cX6_tries 264 = .ok (.getfield 13, 3) := by decide +kernel
theorem dX6_tries_267 : decode cX6_tries 267 = .ok (.iload 5, 2) := by decide +kernel
theorem dX6_tries_269 : decode cX6_tries 269 = .ok (.iaload, 1) := by decide +kernel
theorem dX6_tries_270 : decode cX6_tries 270 = .ok (.if_icmp .ge 37, 3) := by decide +kernel
theorem dX6_tries_273 : decode cX6_tries 273 = .ok (.aload_n 0, 1) := by decide +kernel
theorem dX6_tries_274 : decode cX6_tries 274 = .ok (.getfield 27, 3) := by decide +kernel
theorem dX6_tries_277 : decode cX6_tries 277 = .ok (.bipush 12, 2) := by decide +kernel
theorem dX6_tries_279 : decode cX6_tries 279 = .ok (.iload 5, 2) := by decide +kernel
theorem dX6_tries_281 : decode cX6_tries 281 = .ok (.imul, 1) := by decide +kernel
theorem dX6_tries_282 : decode cX6_tries 282 = .ok (.iload 6, 2) := by decide +kernel
theorem dX6_tries_284 : decode cX6_tries 284 = .ok (.iadd, 1) := by decide +kernel
theorem dX6_tries_285 : decode cX6_tries 285 = .ok (.iconst 0, 1) := by decide +kernel
theorem dX6_tries_286 : decode cX6_tries 286 = .ok (.iastore, 1) := by decide +kernel
theorem dX6_tries_287 : decode cX6_tries 287 = .ok (.aload_n 0, 1) := by decide +kernel
theorem dX6_tries_288 : decode cX6_tries 288 = .ok (.getfield 30, 3) := by decide +kernel
theorem dX6_tries_291 : decode cX6_tries 291 = .ok (.bipush 12, 2) := by decide +kernel
theorem dX6_tries_293 : decode cX6_tries 293 = .ok (.iload 5, 2) := by decide +kernel
theorem dX6_tries_295 : decode cX6_tries 295 = .ok (.imul, 1) := by decide +kernel
theorem dX6_tries_296 : decode cX6_tries 296 = .ok (.iload 6, 2) := by decide +kernel
theorem dX6_tries_298 : decode cX6_tries 298 = .ok (.iadd, 1) := by decide +kernel
theorem dX6_tries_299 : decode cX6_tries 299 = .ok (.iconst 0, 1) := by decide +kernel
theorem dX6_tries_300 : decode cX6_tries 300 = .ok (.iastore, 1) := by decide +kernel
theorem dX6_tries_301 : decode cX6_tries 301 = .ok (.iinc 6 1, 3) := by decide +kernel
theorem dX6_tries_304 : decode cX6_tries 304 = .ok (.goto (-43), 3) := by decide +kernel
theorem dX6_tries_307 : decode cX6_tries 307 = .ok (.iinc 5 1, 3) := by decide +kernel
theorem dX6_tries_310 : decode cX6_tries 310 = .ok (.goto (-95), 3) := by decide +kernel
theorem dX6_tries_313 : decode cX6_tries 313 = .ok (.iconst 0, 1) := by decide +kernel
theorem dX6_tries_314 : decode cX6_tries 314 = .ok (.istore 5, 2) := by decide +kernel
theorem dX6_tries_316 : decode cX6_tries 316 = .ok (.iload 5, 2) := by decide +kernel
theorem dX6_tries_318 : decode cX6_tries 318 = .ok (.sipush 600, 3) := by decide +kernel
theorem dX6_tries_321 : decode cX6_tries 321 = .ok (.if_icmp .ge 33, 3) := by decide +kernel
theorem dX6_tries_324 : decode cX6_tries 324 = .ok (.aload_n 0, 1) := by decide +kernel
theorem dX6_tries_325 : decode cX6_tries 325 = .ok (.getfield 78, 3) := by decide +kernel
theorem dX6_tries_328 : decode cX6_tries 328 = .ok (.iload 5, 2) := by decide +kernel
theorem dX6_tries_330 : decode cX6_tries 330 = .ok (.baload, 1) := by decide +kernel
theorem dX6_tries_331 : decode cX6_tries 331 = .ok (.ifCond .eq 17, 3) := by decide +kernel
theorem dX6_tries_334 : decode cX6_tries 334 = .ok (.aload_n 0, 1) := by decide +kernel
theorem dX6_tries_335 : decode cX6_tries 335 = .ok (.iload 5, 2) := by decide +kernel
theorem dX6_tries_337 : decode cX6_tries 337 = .ok (.bipush 120, 2) := by decide +kernel
theorem dX6_tries_339 : decode cX6_tries 339 = .ok (.idiv, 1) := by decide +kernel
theorem dX6_tries_340 : decode cX6_tries 340 = .ok (.iload 5, 2) := by decide +kernel
theorem dX6_tries_342 : decode cX6_tries 342 = .ok (.bipush 120, 2) := by decide +kernel
theorem dX6_tries_344 : decode cX6_tries 344 = .ok (.irem, 1) := by decide +kernel
theorem dX6_tries_345 : decode cX6_tries 345 = .ok (.invokevirtual 147, 3) := by decide +kernel
theorem dX6_tries_348 : decode cX6_tries 348 = .ok (.iinc 5 1, 3) := by decide +kernel
theorem dX6_tries_351 : decode cX6_tries 351 = .ok (.goto (-35), 3) := by decide +kernel
theorem dX6_tries_354 : decode cX6_tries 354 = .ok (.iload_n 2, 1) := by decide +kernel
theorem dX6_tries_355 : decode cX6_tries 355 = .ok (.ireturn, 1) := by decide +kernel
theorem dX6_judges_0 : decode cX6_judges 0 = .ok (.iconst 0, 1) := by decide +kernel
theorem dX6_judges_1 : decode cX6_judges 1 = .ok (.istore_n 1, 1) := by decide +kernel
theorem dX6_judges_2 : decode cX6_judges 2 = .ok (.iload_n 1, 1) := by decide +kernel
theorem dX6_judges_3 : decode cX6_judges 3 = .ok (.sipush 600, 3) := by decide +kernel
theorem dX6_judges_6 : decode cX6_judges 6 = .ok (.if_icmp .ge 16, 3) := by decide +kernel
theorem dX6_judges_9 : decode cX6_judges 9 = .ok (.aload_n 0, 1) := by decide +kernel
theorem dX6_judges_10 : decode cX6_judges 10 = .ok (.getfield 78, 3) := by decide +kernel
theorem dX6_judges_13 : decode cX6_judges 13 = .ok (.iload_n 1, 1) := by decide +kernel
theorem dX6_judges_14 : decode cX6_judges 14 = .ok (.iconst 0, 1) := by decide +kernel
theorem dX6_judges_15 : decode cX6_judges 15 = .ok (.bastore, 1) := by decide +kernel
theorem dX6_judges_16 : decode cX6_judges 16 = .ok (.iinc 1 1, 3) := by decide +kernel
theorem dX6_judges_19 : decode cX6_judges 19 = .ok (.goto (-17), 3) := by decide +kernel
theorem dX6_judges_22 : decode cX6_judges 22 = .ok (.iconst 0, 1) := by decide +kernel
theorem dX6_judges_23 : decode cX6_judges 23 = .ok (.istore_n 1, 1) := by decide +kernel
theorem dX6_judges_24 : decode cX6_judges 24 = .ok (.iload_n 1, 1) := by decide +kernel
theorem dX6_judges_25 : decode cX6_judges 25 = .ok (.bipush 120, 2) := by decide +kernel
theorem dX6_judges_27 : decode cX6_judges 27 = .ok (.if_icmp .ge 118, 3) := by decide +kernel
theorem dX6_judges_30 : decode cX6_judges 30 = .ok (.aload_n 0, 1) := by decide +kernel
theorem dX6_judges_31 : decode cX6_judges 31 = .ok (.getfield 23, 3) := by decide +kernel
theorem dX6_judges_34 : decode cX6_judges 34 = .ok (.iload_n 1, 1) := by decide +kernel
theorem dX6_judges_35 : decode cX6_judges 35 = .ok (.baload, 1) := by decide +kernel
theorem dX6_judges_36 : decode cX6_judges 36 = .ok (.ifCond .eq 103, 3) := by decide +kernel
theorem dX6_judges_39 : decode cX6_judges 39 = .ok (.aload_n 0, 1) := by decide +kernel
theorem dX6_judges_40 : decode cX6_judges 40 = .ok (.getfield 75, 3) := by decide +kernel
theorem dX6_judges_43 : decode cX6_judges 43 = .ok (.iload_n 1, 1) := by decide +kernel
theorem dX6_judges_44 : decode cX6_judges 44 = .ok (.baload, 1) := by decide +kernel
theorem dX6_judges_45 : decode cX6_judges 45 = .ok (.ifCond .eq 94, 3) := by decide +kernel
theorem dX6_judges_48 : decode cX6_judges 48 = .ok (.aload_n 0, 1) := by decide +kernel
theorem dX6_judges_49 : decode cX6_judges 49 = .ok (.getfield 81, 3) := by decide +kernel
theorem dX6_judges_52 : decode cX6_judges 52 = .ok (.iload_n 1, 1) := by decide +kernel
theorem dX6_judges_53 : decode cX6_judges 53 = .ok (.baload, 1) := by decide +kernel
theorem dX6_judges_54 : decode cX6_judges 54 = .ok (.ifCond .eq 6, 3) := by decide +kernel
theorem dX6_judges_57 : decode cX6_judges 57 = .ok (.goto 82, 3) := by decide +kernel
theorem dX6_judges_60 : decode cX6_judges 60 = .ok (.iconst 0, 1) := by decide +kernel
theorem dX6_judges_61 : decode cX6_judges 61 = .ok (.istore_n 2, 1) := by decide +kernel
theorem dX6_judges_62 : decode cX6_judges 62 = .ok (.iload_n 2, 1) := by decide +kernel
theorem dX6_judges_63 : decode cX6_judges 63 = .ok (.aload_n 0, 1) := by decide +kernel
theorem dX6_judges_64 : decode cX6_judges 64 = .ok (.getfield 13, 3) := by decide +kernel
theorem dX6_judges_67 : decode cX6_judges 67 = .ok (.iload_n 1, 1) := by decide +kernel
theorem dX6_judges_68 : decode cX6_judges 68 = .ok (.iaload, 1) := by decide +kernel
theorem dX6_judges_69 : decode cX6_judges 69 = .ok (.if_icmp .ge 70, 3) := by decide +kernel
theorem dX6_judges_72 : decode cX6_judges 72 = .ok (.aload_n 0, 1) := by decide +kernel
theorem dX6_judges_73 : decode cX6_judges 73 = .ok (.getfield 27, 3) := by decide +kernel
theorem dX6_judges_76 : decode cX6_judges 76 = .ok (.bipush 12, 2) := by decide +kernel
theorem dX6_judges_78 : decode cX6_judges 78 = .ok (.iload_n 1, 1) := by decide +kernel
theorem dX6_judges_79 : decode cX6_judges 79 = .ok (.imul, 1) := by decide +kernel
theorem dX6_judges_80 : decode cX6_judges 80 = .ok (.iload_n 2, 1) := by decide +kernel
theorem dX6_judges_81 : decode cX6_judges 81 = .ok (.iadd, 1) := by decide +kernel
theorem dX6_judges_82 : decode cX6_judges 82 = .ok (.iaload, 1) := by decide +kernel
theorem dX6_judges_83 : decode cX6_judges 83 = .ok (.iconst 2, 1) := by decide +kernel
theorem dX6_judges_84 : decode cX6_judges 84 = .ok (.if_icmp .ne 49, 3) := by decide +kernel
theorem dX6_judges_87 : decode cX6_judges 87 = .ok (.aload_n 0, 1) := by decide +kernel
theorem dX6_judges_88 : decode cX6_judges 88 = .ok (.getfield 30, 3) := by decide +kernel
theorem dX6_judges_91 : decode cX6_judges 91 = .ok (.bipush 12, 2) := by decide +kernel
theorem dX6_judges_93 : decode cX6_judges 93 = .ok (.iload_n 1, 1) := by decide +kernel
theorem dX6_judges_94 : decode cX6_judges 94 = .ok (.imul, 1) := by decide +kernel
theorem dX6_judges_95 : decode cX6_judges 95 = .ok (.iload_n 2, 1) := by decide +kernel
theorem dX6_judges_96 : decode cX6_judges 96 = .ok (.iadd, 1) := by decide +kernel
theorem dX6_judges_97 : decode cX6_judges 97 = .ok (.iaload, 1) := by decide +kernel
theorem dX6_judges_98 : decode cX6_judges 98 = .ok (.bipush 24, 2) := by decide +kernel
theorem dX6_judges_100 : decode cX6_judges 100 = .ok (.idiv, 1) := by decide +kernel
theorem dX6_judges_101 : decode cX6_judges 101 = .ok (.iload_n 1, 1) := by decide +kernel
theorem dX6_judges_102 : decode cX6_judges 102 = .ok (.bipush 24, 2) := by decide +kernel
theorem dX6_judges_104 : decode cX6_judges 104 = .ok (.idiv, 1) := by decide +kernel
theorem dX6_judges_105 : decode cX6_judges 105 = .ok (.if_icmp .eq 28, 3) := by decide +kernel
theorem dX6_judges_108 : decode cX6_judges 108 = .ok (.aload_n 0, 1) := by decide +kernel
theorem dX6_judges_109 : decode cX6_judges 109 = .ok (.getfield 78, 3) := by decide +kernel
theorem dX6_judges_112 : decode cX6_judges 112 = .ok (.bipush 120, 2) := by decide +kernel
theorem dX6_judges_114 : decode cX6_judges 114 = .ok (.iload_n 1, 1) := by decide +kernel
theorem dX6_judges_115 : decode cX6_judges 115 = .ok (.bipush 24, 2) := by decide +kernel
theorem dX6_judges_117 : decode cX6_judges 117 = .ok (.idiv, 1) := by decide +kernel
theorem dX6_judges_118 : decode cX6_judges 118 = .ok (.imul, 1) := by decide +kernel
theorem dX6_judges_119 : decode cX6_judges 119 = .ok (.aload_n 0, 1) := by decide +kernel
theorem dX6_judges_120 : decode cX6_judges 120 = .ok (.getfield 30, 3) := by decide +kernel
theorem dX6_judges_123 : decode cX6_judges 123 = .ok (.bipush 12, 2) := by decide +kernel
theorem dX6_judges_125 : decode cX6_judges 125 = .ok (.iload_n 1, 1) := by decide +kernel
theorem dX6_judges_126 : decode cX6_judges 126 = .ok (.imul, 1) := by decide +kernel
theorem dX6_judges_127 : decode cX6_judges 127 = .ok (.iload_n 2, 1) := by decide +kernel
theorem dX6_judges_128 : decode cX6_judges 128 = .ok (.iadd, 1) := by decide +kernel
theorem dX6_judges_129 : decode cX6_judges 129 = .ok (.iaload, 1) := by decide +kernel
theorem dX6_judges_130 : decode cX6_judges 130 = .ok (.iadd, 1) := by decide +kernel
theorem dX6_judges_131 : decode cX6_judges 131 = .ok (.iconst 1, 1) := by decide +kernel
theorem dX6_judges_132 : decode cX6_judges 132 = .ok (.bastore, 1) := by decide +kernel
theorem dX6_judges_133 : decode cX6_judges 133 = .ok (.iinc 2 1, 3) := by decide +kernel
theorem dX6_judges_136 : decode cX6_judges 136 = .ok (.goto (-74), 3) := by decide +kernel
theorem dX6_judges_139 : decode cX6_judges 139 = .ok (.iinc 1 1, 3) := by decide +kernel
theorem dX6_judges_142 : decode cX6_judges 142 = .ok (.goto (-118), 3) := by decide +kernel
theorem dX6_judges_145 : decode cX6_judges 145 = .ok (.iconst 0, 1) := by decide +kernel
theorem dX6_judges_146 : decode cX6_judges 146 = .ok (.istore_n 1, 1) := by decide +kernel
theorem dX6_judges_147 : decode cX6_judges 147 = .ok (.iload_n 1, 1) := by decide +kernel
theorem dX6_judges_148 : decode cX6_judges 148 = .ok (.bipush 120, 2) := by decide +kernel
theorem dX6_judges_150 : decode cX6_judges 150 = .ok (.if_icmp .ge 97, 3) := by decide +kernel
theorem dX6_judges_153 : decode cX6_judges 153 = .ok (.aload_n 0, 1) := by decide +kernel
theorem dX6_judges_154 : decode cX6_judges 154 = .ok (.getfield 23, 3) := by decide +kernel
theorem dX6_judges_157 : decode cX6_judges 157 = .ok (.iload_n 1, 1) := by decide +kernel
theorem dX6_judges_158 : decode cX6_judges 158 = .ok (.baload, 1) := by decide +kernel
theorem dX6_judges_159 : decode cX6_judges 159 = .ok (.ifCond .eq 82, 3) := by decide +kernel
theorem dX6_judges_162 : decode cX6_judges 162 = .ok (.aload_n 0, 1) := by decide +kernel
theorem dX6_judges_163 : decode cX6_judges 163 = .ok (.getfield 75, 3) := by decide +kernel
theorem dX6_judges_166 : decode cX6_judges 166 = .ok (.iload_n 1, 1) := by decide +kernel
theorem dX6_judges_167 : decode cX6_judges 167 = .ok (.baload, 1) := by decide +kernel
theorem dX6_judges_168 : decode cX6_judges 168 = .ok (.ifCond .eq 15, 3) := by decide +kernel
theorem dX6_judges_171 : decode cX6_judges 171 = .ok (.aload_n 0, 1) := by decide +kernel
theorem dX6_judges_172 : decode cX6_judges 172 = .ok (.getfield 81, 3) := by decide +kernel
theorem dX6_judges_175 : decode cX6_judges 175 = .ok (.iload_n 1, 1) := by decide +kernel
theorem dX6_judges_176 : decode cX6_judges 176 = .ok (.baload, 1) := by decide +kernel
theorem dX6_judges_177 : decode cX6_judges 177 = .ok (.ifCond .ne 6, 3) := by decide +kernel
theorem dX6_judges_180 : decode cX6_judges 180 = .ok (.goto 61, 3) := by decide +kernel
theorem dX6_judges_183 : decode cX6_judges 183 = .ok (.iconst 0, 1) := by decide +kernel
theorem dX6_judges_184 : decode cX6_judges 184 = .ok (.istore_n 2, 1) := by decide +kernel
theorem dX6_judges_185 : decode cX6_judges 185 = .ok (.iload_n 2, 1) := by decide +kernel
theorem dX6_judges_186 : decode cX6_judges 186 = .ok (.aload_n 0, 1) := by decide +kernel
theorem dX6_judges_187 : decode cX6_judges 187 = .ok (.getfield 13, 3) := by decide +kernel
theorem dX6_judges_190 : decode cX6_judges 190 = .ok (.iload_n 1, 1) := by decide +kernel
theorem dX6_judges_191 : decode cX6_judges 191 = .ok (.iaload, 1) := by decide +kernel
theorem dX6_judges_192 : decode cX6_judges 192 = .ok (.if_icmp .ge 49, 3) := by decide +kernel
theorem dX6_judges_195 : decode cX6_judges 195 = .ok (.aload_n 0, 1) := by decide +kernel
theorem dX6_judges_196 : decode cX6_judges 196 = .ok (.getfield 27, 3) := by decide +kernel
theorem dX6_judges_199 : decode cX6_judges 199 = .ok (.bipush 12, 2) := by decide +kernel
theorem dX6_judges_201 : decode cX6_judges 201 = .ok (.iload_n 1, 1) := by decide +kernel
theorem dX6_judges_202 : decode cX6_judges 202 = .ok (.imul, 1) := by decide +kernel
theorem dX6_judges_203 : decode cX6_judges 203 = .ok (.iload_n 2, 1) := by decide +kernel
theorem dX6_judges_204 : decode cX6_judges 204 = .ok (.iadd, 1) := by decide +kernel
theorem dX6_judges_205 : decode cX6_judges 205 = .ok (.iaload, 1) := by decide +kernel
theorem dX6_judges_206 : decode cX6_judges 206 = .ok (.iconst 2, 1) := by decide +kernel
theorem dX6_judges_207 : decode cX6_judges 207 = .ok (.if_icmp .ne 28, 3) := by decide +kernel
theorem dX6_judges_210 : decode cX6_judges 210 = .ok (.aload_n 0, 1) := by decide +kernel
theorem dX6_judges_211 : decode cX6_judges 211 = .ok (.getfield 78, 3) := by decide +kernel
theorem dX6_judges_214 : decode cX6_judges 214 = .ok (.bipush 120, 2) := by decide +kernel
theorem dX6_judges_216 : decode cX6_judges 216 = .ok (.iload_n 1, 1) := by decide +kernel
theorem dX6_judges_217 : decode cX6_judges 217 = .ok (.bipush 24, 2) := by decide +kernel
theorem dX6_judges_219 : decode cX6_judges 219 = .ok (.idiv, 1) := by decide +kernel
theorem dX6_judges_220 : decode cX6_judges 220 = .ok (.imul, 1) := by decide +kernel
theorem dX6_judges_221 : decode cX6_judges 221 = .ok (.aload_n 0, 1) := by decide +kernel
theorem dX6_judges_222 : decode cX6_judges 222 = .ok (.getfield 30, 3) := by decide +kernel
theorem dX6_judges_225 : decode cX6_judges 225 = .ok (.bipush 12, 2) := by decide +kernel
theorem dX6_judges_227 : decode cX6_judges 227 = .ok (.iload_n 1, 1) := by decide +kernel
theorem dX6_judges_228 : decode cX6_judges 228 = .ok (.imul, 1) := by decide +kernel
theorem dX6_judges_229 : decode cX6_judges 229 = .ok (.iload_n 2, 1) := by decide +kernel
theorem dX6_judges_230 : decode cX6_judges 230 = .ok (.iadd, 1) := by decide +kernel
theorem dX6_judges_231 : decode cX6_judges 231 = .ok (.iaload, 1) := by decide +kernel
theorem dX6_judges_232 : decode cX6_judges 232 = .ok (.iadd, 1) := by decide +kernel
theorem dX6_judges_233 : decode cX6_judges 233 = .ok (.iconst 0, 1) := by decide +kernel
theorem dX6_judges_234 : decode cX6_judges 234 = .ok (.bastore, 1) := by decide +kernel
theorem dX6_judges_235 : decode cX6_judges 235 = .ok (.iinc 2 1, 3) := by decide +kernel
theorem dX6_judges_238 : decode cX6_judges 238 = .ok (.goto (-53), 3) := by decide +kernel
theorem dX6_judges_241 : decode cX6_judges 241 = .ok (.iinc 1 1, 3) := by decide +kernel
theorem dX6_judges_244 : decode cX6_judges 244 = .ok (.goto (-97), 3) := by decide +kernel
theorem dX6_judges_247 : decode cX6_judges 247 = .ok (.iconst 0, 1) := by decide +kernel
theorem dX6_judges_248 : decode cX6_judges 248 = .ok (.istore_n 1, 1) := by decide +kernel
theorem dX6_judges_249 : decode cX6_judges 249 = .ok (.iload_n 1, 1) := by decide +kernel
theorem dX6_judges_250 : decode cX6_judges 250 = .ok (.bipush 6, 2) := by decide +kernel
theorem dX6_judges_252 : decode cX6_judges 252 = .ok (.aload_n 0, 1) := by decide +kernel
theorem dX6_judges_253 : decode cX6_judges 253 = .ok (.getfield 87, 3) := by decide +kernel
theorem dX6_judges_256 : decode cX6_judges 256 = .ok (.imul, 1) := by decide +kernel
theorem dX6_judges_257 : decode cX6_judges 257 = .ok (.if_icmp .ge 39, 3) := by decide +kernel
theorem dX6_judges_260 : decode cX6_judges 260 = .ok (.aload_n 0, 1) := by decide +kernel
theorem dX6_judges_261 : decode cX6_judges 261 = .ok (.getfield 33, 3) := by decide +kernel
theorem dX6_judges_264 : decode cX6_judges 264 = .ok (.iload_n 1, 1) := by decide +kernel
theorem dX6_judges_265 : decode cX6_judges 265 = .ok (.iaload, 1) := by decide +kernel
theorem dX6_judges_266 : decode cX6_judges 266 = .ok (.iconst 2, 1) := by decide +kernel
theorem dX6_judges_267 : decode cX6_judges 267 = .ok (.if_icmp .ne 23, 3) := by decide +kernel
theorem dX6_judges_270 : decode cX6_judges 270 = .ok (.aload_n 0, 1) := by decide +kernel
theorem dX6_judges_271 : decode cX6_judges 271 = .ok (.getfield 78, 3) := by decide +kernel
theorem dX6_judges_274 : decode cX6_judges 274 = .ok (.bipush 120, 2) := by decide +kernel
theorem dX6_judges_276 : decode cX6_judges 276 = .ok (.iload_n 1, 1) := by decide +kernel
theorem dX6_judges_277 : decode cX6_judges 277 = .ok (.bipush 6, 2) := by decide +kernel
theorem dX6_judges_279 : decode cX6_judges 279 = .ok (.idiv, 1) := by decide +kernel
theorem dX6_judges_280 : decode cX6_judges 280 = .ok (.imul, 1) := by decide +kernel
theorem dX6_judges_281 : decode cX6_judges 281 = .ok (.aload_n 0, 1) := by decide +kernel
theorem dX6_judges_282 : decode cX6_judges 282 = .ok (.getfield 36, 3) := by decide +kernel
theorem dX6_judges_285 : decode cX6_judges 285 = .ok (.iload_n 1, 1) := by decide +kernel
theorem dX6_judges_286 : decode cX6_judges 286 = .ok (.iaload, 1) := by decide +kernel
theorem dX6_judges_287 : decode cX6_judges 287 = .ok (.iadd, 1) := by decide +kernel
theorem dX6_judges_288 : decode cX6_judges 288 = .ok (.iconst 0, 1) := by decide +kernel
theorem dX6_judges_289 : decode cX6_judges 289 = .ok (.bastore, 1) := by decide +kernel
theorem dX6_judges_290 : decode cX6_judges 290 = .ok (.iinc 1 1, 3) := by decide +kernel
theorem dX6_judges_293 : decode cX6_judges 293 = .ok (.goto (-44), 3) := by decide +kernel
theorem dX6_judges_296 : decode cX6_judges 296 = .ok (.return_, 1) := by decide +kernel
theorem dX6_goesOut_0 : decode cX6_goesOut 0 = .ok (.aload_n 0, 1) := by decide +kernel
theorem dX6_goesOut_1 : decode cX6_goesOut 1 = .ok (.getfield 75, 3) := by decide +kernel
theorem dX6_goesOut_4 : decode cX6_goesOut 4 = .ok (.iload_n 1, 1) := by decide +kernel
theorem dX6_goesOut_5 : decode cX6_goesOut 5 = .ok (.baload, 1) := by decide +kernel
theorem dX6_goesOut_6 : decode cX6_goesOut 6 = .ok (.ifCond .eq 12, 3) := by decide +kernel
theorem dX6_goesOut_9 : decode cX6_goesOut 9 = .ok (.aload_n 0, 1) := by decide +kernel
theorem dX6_goesOut_10 : decode cX6_goesOut 10 = .ok (.getfield 81, 3) := by decide +kernel
theorem dX6_goesOut_13 : decode cX6_goesOut 13 = .ok (.iload_n 1, 1) := by decide +kernel
theorem dX6_goesOut_14 : decode cX6_goesOut 14 = .ok (.baload, 1) := by decide +kernel
theorem dX6_goesOut_15 : decode cX6_goesOut 15 = .ok (.ifCond .eq 5, 3) := by decide +kernel
theorem dX6_goesOut_18 : decode cX6_goesOut 18 = .ok (.iconst 0, 1) := by decide +kernel
theorem dX6_goesOut_19 : decode cX6_goesOut 19 = .ok (.ireturn, 1) := by decide +kernel
theorem dX6_goesOut_20 : decode cX6_goesOut 20 = .ok (.aload_n 0, 1) := by decide +kernel
theorem dX6_goesOut_21 : decode cX6_goesOut 21 = .ok (.getfield 81, 3) := by decide +kernel
theorem dX6_goesOut_24 : decode cX6_goesOut 24 = .ok (.iload_n 1, 1) := by decide +kernel
theorem dX6_goesOut_25 : decode cX6_goesOut 25 = .ok (.iconst 1, 1) := by decide +kernel
theorem dX6_goesOut_26 : decode cX6_goesOut 26 = .ok (.bastore, 1) := by decide +kernel
theorem dX6_goesOut_27 : decode cX6_goesOut 27 = .ok (.iconst 1, 1) := by decide +kernel
theorem dX6_goesOut_28 : decode cX6_goesOut 28 = .ok (.ireturn, 1) := by decide +kernel
theorem dX6_grows_0 : decode cX6_grows 0 = .ok (.iconst 0, 1) := by decide +kernel
theorem dX6_grows_1 : decode cX6_grows 1 = .ok (.istore_n 1, 1) := by decide +kernel
theorem dX6_grows_2 : decode cX6_grows 2 = .ok (.iconst 0, 1) := by decide +kernel
theorem dX6_grows_3 : decode cX6_grows 3 = .ok (.istore_n 2, 1) := by decide +kernel
theorem dX6_grows_4 : decode cX6_grows 4 = .ok (.iload_n 2, 1) := by decide +kernel
theorem dX6_grows_5 : decode cX6_grows 5 = .ok (.bipush 6, 2) := by decide +kernel
theorem dX6_grows_7 : decode cX6_grows 7 = .ok (.aload_n 0, 1) := by decide +kernel
theorem dX6_grows_8 : decode cX6_grows 8 = .ok (.getfield 87, 3) := by decide +kernel
theorem dX6_grows_11 : decode cX6_grows 11 = .ok (.imul, 1) := by decide +kernel
theorem dX6_grows_12 : decode cX6_grows 12 = .ok (.if_icmp .ge 58, 3) := by decide +kernel
theorem dX6_grows_15 : decode cX6_grows 15 = .ok (.aload_n 0, 1) := by decide +kernel
theorem dX6_grows_16 : decode cX6_grows 16 = .ok (.getfield 33, 3) := by decide +kernel
theorem dX6_grows_19 : decode cX6_grows 19 = .ok (.iload_n 2, 1) := by decide +kernel
theorem dX6_grows_20 : decode cX6_grows 20 = .ok (.iaload, 1) := by decide +kernel
theorem dX6_grows_21 : decode cX6_grows 21 = .ok (.iconst 2, 1) := by decide +kernel
theorem dX6_grows_22 : decode cX6_grows 22 = .ok (.if_icmp .ne 42, 3) := by decide +kernel
theorem dX6_grows_25 : decode cX6_grows 25 = .ok (.aload_n 0, 1) := by decide +kernel
theorem dX6_grows_26 : decode cX6_grows 26 = .ok (.getfield 36, 3) := by decide +kernel
theorem dX6_grows_29 : decode cX6_grows 29 = .ok (.iload_n 2, 1) := by decide +kernel
theorem dX6_grows_30 : decode cX6_grows 30 = .ok (.iaload, 1) := by decide +kernel
theorem dX6_grows_31 : decode cX6_grows 31 = .ok (.bipush 24, 2) := by decide +kernel
theorem dX6_grows_33 : decode cX6_grows 33 = .ok (.idiv, 1) := by decide +kernel
theorem dX6_grows_34 : decode cX6_grows 34 = .ok (.iload_n 2, 1) := by decide +kernel
theorem dX6_grows_35 : decode cX6_grows 35 = .ok (.bipush 6, 2) := by decide +kernel
theorem dX6_grows_37 : decode cX6_grows 37 = .ok (.idiv, 1) := by decide +kernel
theorem dX6_grows_38 : decode cX6_grows 38 = .ok (.if_icmp .ne 26, 3) := by decide +kernel
theorem dX6_grows_41 : decode cX6_grows 41 = .ok (.aload_n 0, 1) := by decide +kernel
theorem dX6_grows_42 : decode cX6_grows 42 = .ok (.aload_n 0, 1) := by decide +kernel
theorem dX6_grows_43 : decode cX6_grows 43 = .ok (.getfield 36, 3) := by decide +kernel
theorem dX6_grows_46 : decode cX6_grows 46 = .ok (.iload_n 2, 1) := by decide +kernel
theorem dX6_grows_47 : decode cX6_grows 47 = .ok (.iaload, 1) := by decide +kernel
theorem dX6_grows_48 : decode cX6_grows 48 = .ok (.invokevirtual 170, 3) := by decide +kernel
theorem dX6_grows_51 : decode cX6_grows 51 = .ok (.ifCond .ne 7, 3) := by decide +kernel
theorem dX6_grows_54 : decode cX6_grows 54 = .ok (.iload_n 1, 1) := by decide +kernel
theorem dX6_grows_55 : decode cX6_grows 55 = .ok (.ifCond .eq 7, 3) := by decide +kernel
theorem dX6_grows_58 : decode cX6_grows 58 = .ok (.iconst 1, 1) := by decide +kernel
theorem dX6_grows_59 : decode cX6_grows 59 = .ok (.goto 4, 3) := by decide +kernel
theorem dX6_grows_62 : decode cX6_grows 62 = .ok (.iconst 0, 1) := by decide +kernel
theorem dX6_grows_63 : decode cX6_grows 63 = .ok (.istore_n 1, 1) := by decide +kernel
theorem dX6_grows_64 : decode cX6_grows 64 = .ok (.iinc 2 1, 3) := by decide +kernel
theorem dX6_grows_67 : decode cX6_grows 67 = .ok (.goto (-63), 3) := by decide +kernel
theorem dX6_grows_70 : decode cX6_grows 70 = .ok (.iconst 0, 1) := by decide +kernel
theorem dX6_grows_71 : decode cX6_grows 71 = .ok (.istore_n 2, 1) := by decide +kernel
theorem dX6_grows_72 : decode cX6_grows 72 = .ok (.iload_n 2, 1) := by decide +kernel
theorem dX6_grows_73 : decode cX6_grows 73 = .ok (.bipush 120, 2) := by decide +kernel
theorem dX6_grows_75 : decode cX6_grows 75 = .ok (.if_icmp .ge 218, 3) := by decide +kernel
theorem dX6_grows_78 : decode cX6_grows 78 = .ok (.aload_n 0, 1) := by decide +kernel
