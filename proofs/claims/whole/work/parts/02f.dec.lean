theorem dX6_grows_79 : decode cX6_grows 79 = .ok (.getfield 23, 3) := by decide +kernel
theorem dX6_grows_82 : decode cX6_grows 82 = .ok (.iload_n 2, 1) := by decide +kernel
theorem dX6_grows_83 : decode cX6_grows 83 = .ok (.baload, 1) := by decide +kernel
theorem dX6_grows_84 : decode cX6_grows 84 = .ok (.ifCond .ne 6, 3) := by decide +kernel
theorem dX6_grows_87 : decode cX6_grows 87 = .ok (.goto 200, 3) := by decide +kernel
theorem dX6_grows_90 : decode cX6_grows 90 = .ok (.iconst 0, 1) := by decide +kernel
theorem dX6_grows_91 : decode cX6_grows 91 = .ok (.istore_n 3, 1) := by decide +kernel
theorem dX6_grows_92 : decode cX6_grows 92 = .ok (.iload_n 3, 1) := by decide +kernel
theorem dX6_grows_93 : decode cX6_grows 93 = .ok (.aload_n 0, 1) := by decide +kernel
theorem dX6_grows_94 : decode cX6_grows 94 = .ok (.getfield 13, 3) := by decide +kernel
theorem dX6_grows_97 : decode cX6_grows 97 = .ok (.iload_n 2, 1) := by decide +kernel
theorem dX6_grows_98 : decode cX6_grows 98 = .ok (.iaload, 1) := by decide +kernel
theorem dX6_grows_99 : decode cX6_grows 99 = .ok (.if_icmp .ge 101, 3) := by decide +kernel
theorem dX6_grows_102 : decode cX6_grows 102 = .ok (.aload_n 0, 1) := by decide +kernel
theorem dX6_grows_103 : decode cX6_grows 103 = .ok (.getfield 27, 3) := by decide +kernel
theorem dX6_grows_106 : decode cX6_grows 106 = .ok (.bipush 12, 2) := by decide +kernel
theorem dX6_grows_108 : decode cX6_grows 108 = .ok (.iload_n 2, 1) := by decide +kernel
theorem dX6_grows_109 : decode cX6_grows 109 = .ok (.imul, 1) := by decide +kernel
theorem dX6_grows_110 : decode cX6_grows 110 = .ok (.iload_n 3, 1) := by decide +kernel
theorem dX6_grows_111 : decode cX6_grows 111 = .ok (.iadd, 1) := by decide +kernel
theorem dX6_grows_112 : decode cX6_grows 112 = .ok (.iaload, 1) := by decide +kernel
theorem dX6_grows_113 : decode cX6_grows 113 = .ok (.iconst 2, 1) := by decide +kernel
theorem dX6_grows_114 : decode cX6_grows 114 = .ok (.if_icmp .eq 6, 3) := by decide +kernel
theorem dX6_grows_117 : decode cX6_grows 117 = .ok (.goto 77, 3) := by decide +kernel
theorem dX6_grows_120 : decode cX6_grows 120 = .ok (.aload_n 0, 1) := by decide +kernel
theorem dX6_grows_121 : decode cX6_grows 121 = .ok (.getfield 30, 3) := by decide +kernel
theorem dX6_grows_124 : decode cX6_grows 124 = .ok (.bipush 12, 2) := by decide +kernel
theorem dX6_grows_126 : decode cX6_grows 126 = .ok (.iload_n 2, 1) := by decide +kernel
theorem dX6_grows_127 : decode cX6_grows 127 = .ok (.imul, 1) := by decide +kernel
theorem dX6_grows_128 : decode cX6_grows 128 = .ok (.iload_n 3, 1) := by decide +kernel
theorem dX6_grows_129 : decode cX6_grows 129 = .ok (.iadd, 1) := by decide +kernel
theorem dX6_grows_130 : decode cX6_grows 130 = .ok (.iaload, 1) := by decide +kernel
theorem dX6_grows_131 : decode cX6_grows 131 = .ok (.istore 4, 2) := by decide +kernel
theorem dX6_grows_133 : decode cX6_grows 133 = .ok (.aload_n 0, 1) := by decide +kernel
theorem dX6_grows_134 : decode cX6_grows 134 = .ok (.getfield 75, 3) := by decide +kernel
theorem dX6_grows_137 : decode cX6_grows 137 = .ok (.iload_n 2, 1) := by decide +kernel
theorem dX6_grows_138 : decode cX6_grows 138 = .ok (.baload, 1) := by decide +kernel
theorem dX6_grows_139 : decode cX6_grows 139 = .ok (.ifCond .eq 12, 3) := by decide +kernel
theorem dX6_grows_142 : decode cX6_grows 142 = .ok (.aload_n 0, 1) := by decide +kernel
theorem dX6_grows_143 : decode cX6_grows 143 = .ok (.getfield 81, 3) := by decide +kernel
theorem dX6_grows_146 : decode cX6_grows 146 = .ok (.iload_n 2, 1) := by decide +kernel
theorem dX6_grows_147 : decode cX6_grows 147 = .ok (.baload, 1) := by decide +kernel
theorem dX6_grows_148 : decode cX6_grows 148 = .ok (.goto 20, 3) := by decide +kernel
theorem dX6_grows_151 : decode cX6_grows 151 = .ok (.iload 4, 2) := by decide +kernel
theorem dX6_grows_153 : decode cX6_grows 153 = .ok (.bipush 24, 2) := by decide +kernel
theorem dX6_grows_155 : decode cX6_grows 155 = .ok (.idiv, 1) := by decide +kernel
theorem dX6_grows_156 : decode cX6_grows 156 = .ok (.iload_n 2, 1) := by decide +kernel
theorem dX6_grows_157 : decode cX6_grows 157 = .ok (.bipush 24, 2) := by decide +kernel
theorem dX6_grows_159 : decode cX6_grows 159 = .ok (.idiv, 1) := by decide +kernel
theorem dX6_grows_160 : decode cX6_grows 160 = .ok (.if_icmp .ne 7, 3) := by decide +kernel
theorem dX6_grows_163 : decode cX6_grows 163 = .ok (.iconst 1, 1) := by decide +kernel
theorem dX6_grows_164 : decode cX6_grows 164 = .ok (.goto 4, 3) := by decide +kernel
theorem dX6_grows_167 : decode cX6_grows 167 = .ok (.iconst 0, 1) := by decide +kernel
theorem dX6_grows_168 : decode cX6_grows 168 = .ok (.istore 5, 2) := by decide +kernel
theorem dX6_grows_170 : decode cX6_grows 170 = .ok (.iload 5, 2) := by decide +kernel
theorem dX6_grows_172 : decode cX6_grows 172 = .ok (.ifCond .eq 22, 3) := by decide +kernel
theorem dX6_grows_175 : decode cX6_grows 175 = .ok (.aload_n 0, 1) := by decide +kernel
theorem dX6_grows_176 : decode cX6_grows 176 = .ok (.iload 4, 2) := by decide +kernel
theorem dX6_grows_178 : decode cX6_grows 178 = .ok (.invokevirtual 170, 3) := by decide +kernel
theorem dX6_grows_181 : decode cX6_grows 181 = .ok (.ifCond .ne 7, 3) := by decide +kernel
theorem dX6_grows_184 : decode cX6_grows 184 = .ok (.iload_n 1, 1) := by decide +kernel
theorem dX6_grows_185 : decode cX6_grows 185 = .ok (.ifCond .eq 7, 3) := by decide +kernel
theorem dX6_grows_188 : decode cX6_grows 188 = .ok (.iconst 1, 1) := by decide +kernel
theorem dX6_grows_189 : decode cX6_grows 189 = .ok (.goto 4, 3) := by decide +kernel
theorem dX6_grows_192 : decode cX6_grows 192 = .ok (.iconst 0, 1) := by decide +kernel
theorem dX6_grows_193 : decode cX6_grows 193 = .ok (.istore_n 1, 1) := by decide +kernel
theorem dX6_grows_194 : decode cX6_grows 194 = .ok (.iinc 3 1, 3) := by decide +kernel
theorem dX6_grows_197 : decode cX6_grows 197 = .ok (.goto (-105), 3) := by decide +kernel
theorem dX6_grows_200 : decode cX6_grows 200 = .ok (.iconst 0, 1) := by decide +kernel
theorem dX6_grows_201 : decode cX6_grows 201 = .ok (.istore_n 3, 1) := by decide +kernel
theorem dX6_grows_202 : decode cX6_grows 202 = .ok (.iconst 0, 1) := by decide +kernel
theorem dX6_grows_203 : decode cX6_grows 203 = .ok (.istore 4, 2) := by decide +kernel
theorem dX6_grows_205 : decode cX6_grows 205 = .ok (.iload 4, 2) := by decide +kernel
theorem dX6_grows_207 : decode cX6_grows 207 = .ok (.aload_n 0, 1) := by decide +kernel
theorem dX6_grows_208 : decode cX6_grows 208 = .ok (.getfield 87, 3) := by decide +kernel
theorem dX6_grows_211 : decode cX6_grows 211 = .ok (.if_icmp .ge 39, 3) := by decide +kernel
theorem dX6_grows_214 : decode cX6_grows 214 = .ok (.aload_n 0, 1) := by decide +kernel
theorem dX6_grows_215 : decode cX6_grows 215 = .ok (.getfield 78, 3) := by decide +kernel
theorem dX6_grows_218 : decode cX6_grows 218 = .ok (.bipush 120, 2) := by decide +kernel
theorem dX6_grows_220 : decode cX6_grows 220 = .ok (.iload 4, 2) := by decide +kernel
theorem dX6_grows_222 : decode cX6_grows 222 = .ok (.imul, 1) := by decide +kernel
theorem dX6_grows_223 : decode cX6_grows 223 = .ok (.iload_n 2, 1) := by decide +kernel
theorem dX6_grows_224 : decode cX6_grows 224 = .ok (.iadd, 1) := by decide +kernel
theorem dX6_grows_225 : decode cX6_grows 225 = .ok (.baload, 1) := by decide +kernel
theorem dX6_grows_226 : decode cX6_grows 226 = .ok (.ifCond .eq 18, 3) := by decide +kernel
theorem dX6_grows_229 : decode cX6_grows 229 = .ok (.iload_n 3, 1) := by decide +kernel
theorem dX6_grows_230 : decode cX6_grows 230 = .ok (.aload_n 0, 1) := by decide +kernel
theorem dX6_grows_231 : decode cX6_grows 231 = .ok (.getfield 39, 3) := by decide +kernel
theorem dX6_grows_234 : decode cX6_grows 234 = .ok (.bipush 120, 2) := by decide +kernel
theorem dX6_grows_236 : decode cX6_grows 236 = .ok (.iload 4, 2) := by decide +kernel
theorem dX6_grows_238 : decode cX6_grows 238 = .ok (.imul, 1) := by decide +kernel
theorem dX6_grows_239 : decode cX6_grows 239 = .ok (.iload_n 2, 1) := by decide +kernel
theorem dX6_grows_240 : decode cX6_grows 240 = .ok (.iadd, 1) := by decide +kernel
theorem dX6_grows_241 : decode cX6_grows 241 = .ok (.iaload, 1) := by decide +kernel
theorem dX6_grows_242 : decode cX6_grows 242 = .ok (.iadd, 1) := by decide +kernel
theorem dX6_grows_243 : decode cX6_grows 243 = .ok (.istore_n 3, 1) := by decide +kernel
theorem dX6_grows_244 : decode cX6_grows 244 = .ok (.iinc 4 1, 3) := by decide +kernel
theorem dX6_grows_247 : decode cX6_grows 247 = .ok (.goto (-42), 3) := by decide +kernel
theorem dX6_grows_250 : decode cX6_grows 250 = .ok (.aload_n 0, 1) := by decide +kernel
theorem dX6_grows_251 : decode cX6_grows 251 = .ok (.getfield 20, 3) := by decide +kernel
theorem dX6_grows_254 : decode cX6_grows 254 = .ok (.iload_n 2, 1) := by decide +kernel
theorem dX6_grows_255 : decode cX6_grows 255 = .ok (.iaload, 1) := by decide +kernel
theorem dX6_grows_256 : decode cX6_grows 256 = .ok (.ifCond .le 31, 3) := by decide +kernel
theorem dX6_grows_259 : decode cX6_grows 259 = .ok (.aload_n 0, 1) := by decide +kernel
theorem dX6_grows_260 : decode cX6_grows 260 = .ok (.getfield 20, 3) := by decide +kernel
theorem dX6_grows_263 : decode cX6_grows 263 = .ok (.iload_n 2, 1) := by decide +kernel
theorem dX6_grows_264 : decode cX6_grows 264 = .ok (.iaload, 1) := by decide +kernel
theorem dX6_grows_265 : decode cX6_grows 265 = .ok (.iload_n 3, 1) := by decide +kernel
theorem dX6_grows_266 : decode cX6_grows 266 = .ok (.if_icmp .eq 21, 3) := by decide +kernel
theorem dX6_grows_269 : decode cX6_grows 269 = .ok (.aload_n 0, 1) := by decide +kernel
theorem dX6_grows_270 : decode cX6_grows 270 = .ok (.iload_n 2, 1) := by decide +kernel
theorem dX6_grows_271 : decode cX6_grows 271 = .ok (.invokevirtual 170, 3) := by decide +kernel
theorem dX6_grows_274 : decode cX6_grows 274 = .ok (.ifCond .ne 7, 3) := by decide +kernel
theorem dX6_grows_277 : decode cX6_grows 277 = .ok (.iload_n 1, 1) := by decide +kernel
theorem dX6_grows_278 : decode cX6_grows 278 = .ok (.ifCond .eq 7, 3) := by decide +kernel
theorem dX6_grows_281 : decode cX6_grows 281 = .ok (.iconst 1, 1) := by decide +kernel
theorem dX6_grows_282 : decode cX6_grows 282 = .ok (.goto 4, 3) := by decide +kernel
theorem dX6_grows_285 : decode cX6_grows 285 = .ok (.iconst 0, 1) := by decide +kernel
theorem dX6_grows_286 : decode cX6_grows 286 = .ok (.istore_n 1, 1) := by decide +kernel
theorem dX6_grows_287 : decode cX6_grows 287 = .ok (.iinc 2 1, 3) := by decide +kernel
theorem dX6_grows_290 : decode cX6_grows 290 = .ok (.goto (-218), 3) := by decide +kernel
theorem dX6_grows_293 : decode cX6_grows 293 = .ok (.iload_n 1, 1) := by decide +kernel
theorem dX6_grows_294 : decode cX6_grows 294 = .ok (.ireturn, 1) := by decide +kernel
theorem dX6_settles_0 : decode cX6_settles 0 = .ok (.iconst 0, 1) := by decide +kernel
theorem dX6_settles_1 : decode cX6_settles 1 = .ok (.istore_n 1, 1) := by decide +kernel
theorem dX6_settles_2 : decode cX6_settles 2 = .ok (.iconst 1, 1) := by decide +kernel
theorem dX6_settles_3 : decode cX6_settles 3 = .ok (.istore_n 2, 1) := by decide +kernel
theorem dX6_settles_4 : decode cX6_settles 4 = .ok (.iload_n 2, 1) := by decide +kernel
theorem dX6_settles_5 : decode cX6_settles 5 = .ok (.ifCond .eq 93, 3) := by decide +kernel
theorem dX6_settles_8 : decode cX6_settles 8 = .ok (.aload_n 0, 1) := by decide +kernel
theorem dX6_settles_9 : decode cX6_settles 9 = .ok (.sipush 1000, 3) := by decide +kernel
theorem dX6_settles_12 : decode cX6_settles 12 = .ok (.invokevirtual 134, 3) := by decide +kernel
theorem dX6_settles_15 : decode cX6_settles 15 = .ok (.istore_n 3, 1) := by decide +kernel
theorem dX6_settles_16 : decode cX6_settles 16 = .ok (.iconst 0, 1) := by decide +kernel
theorem dX6_settles_17 : decode cX6_settles 17 = .ok (.istore 4, 2) := by decide +kernel
theorem dX6_settles_19 : decode cX6_settles 19 = .ok (.aload_n 0, 1) := by decide +kernel
theorem dX6_settles_20 : decode cX6_settles 20 = .ok (.getfield 110, 3) := by decide +kernel
theorem dX6_settles_23 : decode cX6_settles 23 = .ok (.istore 5, 2) := by decide +kernel
theorem dX6_settles_25 : decode cX6_settles 25 = .ok (.iconst 0, 1) := by decide +kernel
theorem dX6_settles_26 : decode cX6_settles 26 = .ok (.istore 6, 2) := by decide +kernel
theorem dX6_settles_28 : decode cX6_settles 28 = .ok (.iload 6, 2) := by decide +kernel
theorem dX6_settles_30 : decode cX6_settles 30 = .ok (.aload_n 0, 1) := by decide +kernel
theorem dX6_settles_31 : decode cX6_settles 31 = .ok (.getfield 87, 3) := by decide +kernel
theorem dX6_settles_34 : decode cX6_settles 34 = .ok (.if_icmp .ge 32, 3) := by decide +kernel
theorem dX6_settles_37 : decode cX6_settles 37 = .ok (.aload_n 0, 1) := by decide +kernel
theorem dX6_settles_38 : decode cX6_settles 38 = .ok (.iload 6, 2) := by decide +kernel
theorem dX6_settles_40 : decode cX6_settles 40 = .ok (.invokevirtual 151, 3) := by decide +kernel
theorem dX6_settles_43 : decode cX6_settles 43 = .ok (.istore 7, 2) := by decide +kernel
theorem dX6_settles_45 : decode cX6_settles 45 = .ok (.iload 7, 2) := by decide +kernel
theorem dX6_settles_47 : decode cX6_settles 47 = .ok (.ifCond .ge 6, 3) := by decide +kernel
theorem dX6_settles_50 : decode cX6_settles 50 = .ok (.bipush (-2), 2) := by decide +kernel
theorem dX6_settles_52 : decode cX6_settles 52 = .ok (.ireturn, 1) := by decide +kernel
theorem dX6_settles_53 : decode cX6_settles 53 = .ok (.iload 4, 2) := by decide +kernel
theorem dX6_settles_55 : decode cX6_settles 55 = .ok (.iload 7, 2) := by decide +kernel
theorem dX6_settles_57 : decode cX6_settles 57 = .ok (.iadd, 1) := by decide +kernel
theorem dX6_settles_58 : decode cX6_settles 58 = .ok (.istore 4, 2) := by decide +kernel
theorem dX6_settles_60 : decode cX6_settles 60 = .ok (.iinc 6 1, 3) := by decide +kernel
theorem dX6_settles_63 : decode cX6_settles 63 = .ok (.goto (-35), 3) := by decide +kernel
theorem dX6_settles_66 : decode cX6_settles 66 = .ok (.iload_n 1, 1) := by decide +kernel
theorem dX6_settles_67 : decode cX6_settles 67 = .ok (.iload 4, 2) := by decide +kernel
theorem dX6_settles_69 : decode cX6_settles 69 = .ok (.iadd, 1) := by decide +kernel
theorem dX6_settles_70 : decode cX6_settles 70 = .ok (.istore_n 1, 1) := by decide +kernel
theorem dX6_settles_71 : decode cX6_settles 71 = .ok (.iload_n 3, 1) := by decide +kernel
theorem dX6_settles_72 : decode cX6_settles 72 = .ok (.ifCond .gt 17, 3) := by decide +kernel
theorem dX6_settles_75 : decode cX6_settles 75 = .ok (.iload 4, 2) := by decide +kernel
theorem dX6_settles_77 : decode cX6_settles 77 = .ok (.ifCond .gt 12, 3) := by decide +kernel
theorem dX6_settles_80 : decode cX6_settles 80 = .ok (.aload_n 0, 1) := by decide +kernel
theorem dX6_settles_81 : decode cX6_settles 81 = .ok (.getfield 110, 3) := by decide +kernel
theorem dX6_settles_84 : decode cX6_settles 84 = .ok (.iload 5, 2) := by decide +kernel
theorem dX6_settles_86 : decode cX6_settles 86 = .ok (.if_icmp .le 7, 3) := by decide +kernel
theorem dX6_settles_89 : decode cX6_settles 89 = .ok (.iconst 1, 1) := by decide +kernel
theorem dX6_settles_90 : decode cX6_settles 90 = .ok (.goto 4, 3) := by decide +kernel
theorem dX6_settles_93 : decode cX6_settles 93 = .ok (.iconst 0, 1) := by decide +kernel
theorem dX6_settles_94 : decode cX6_settles 94 = .ok (.istore_n 2, 1) := by decide +kernel
theorem dX6_settles_95 : decode cX6_settles 95 = .ok (.goto (-91), 3) := by decide +kernel
theorem dX6_settles_98 : decode cX6_settles 98 = .ok (.aload_n 0, 1) := by decide +kernel
theorem dX6_settles_99 : decode cX6_settles 99 = .ok (.getfield 110, 3) := by decide +kernel
theorem dX6_settles_102 : decode cX6_settles 102 = .ok (.ifCond .le 8, 3) := by decide +kernel
theorem dX6_settles_105 : decode cX6_settles 105 = .ok (.bipush (-2), 2) := by decide +kernel
theorem dX6_settles_107 : decode cX6_settles 107 = .ok (.goto 4, 3) := by decide +kernel
theorem dX6_settles_110 : decode cX6_settles 110 = .ok (.iload_n 1, 1) := by decide +kernel
theorem dX6_settles_111 : decode cX6_settles 111 = .ok (.ireturn, 1) := by decide +kernel
theorem dX6_settle_0 : decode cX6_settle 0 = .ok (.aload_n 0, 1) := by decide +kernel
theorem dX6_settle_1 : decode cX6_settle 1 = .ok (.invokevirtual 173, 3) := by decide +kernel
theorem dX6_settle_4 : decode cX6_settle 4 = .ok (.ireturn, 1) := by decide +kernel
theorem dX6_pass_0 : decode cX6_pass 0 = .ok (.aload_n 0, 1) := by decide +kernel
theorem dX6_pass_1 : decode cX6_pass 1 = .ok (.invokevirtual 173, 3) := by decide +kernel
theorem dX6_pass_4 : decode cX6_pass 4 = .ok (.istore_n 1, 1) := by decide +kernel
theorem dX6_pass_5 : decode cX6_pass 5 = .ok (.iload_n 1, 1) := by decide +kernel
theorem dX6_pass_6 : decode cX6_pass 6 = .ok (.ifCond .ge 6, 3) := by decide +kernel
theorem dX6_pass_9 : decode cX6_pass 9 = .ok (.bipush (-2), 2) := by decide +kernel
theorem dX6_pass_11 : decode cX6_pass 11 = .ok (.ireturn, 1) := by decide +kernel
theorem dX6_pass_12 : decode cX6_pass 12 = .ok (.iconst 0, 1) := by decide +kernel
theorem dX6_pass_13 : decode cX6_pass 13 = .ok (.istore_n 2, 1) := by decide +kernel
theorem dX6_pass_14 : decode cX6_pass 14 = .ok (.iload_n 2, 1) := by decide +kernel
theorem dX6_pass_15 : decode cX6_pass 15 = .ok (.bipush 24, 2) := by decide +kernel
theorem dX6_pass_17 : decode cX6_pass 17 = .ok (.aload_n 0, 1) := by decide +kernel
theorem dX6_pass_18 : decode cX6_pass 18 = .ok (.getfield 87, 3) := by decide +kernel
theorem dX6_pass_21 : decode cX6_pass 21 = .ok (.imul, 1) := by decide +kernel
theorem dX6_pass_22 : decode cX6_pass 22 = .ok (.if_icmp .ge 69, 3) := by decide +kernel
theorem dX6_pass_25 : decode cX6_pass 25 = .ok (.aload_n 0, 1) := by decide +kernel
theorem dX6_pass_26 : decode cX6_pass 26 = .ok (.getfield 23, 3) := by decide +kernel
theorem dX6_pass_29 : decode cX6_pass 29 = .ok (.iload_n 2, 1) := by decide +kernel
theorem dX6_pass_30 : decode cX6_pass 30 = .ok (.baload, 1) := by decide +kernel
theorem dX6_pass_31 : decode cX6_pass 31 = .ok (.ifCond .eq 24, 3) := by decide +kernel
theorem dX6_pass_34 : decode cX6_pass 34 = .ok (.aload_n 0, 1) := by decide +kernel
theorem dX6_pass_35 : decode cX6_pass 35 = .ok (.getfield 20, 3) := by decide +kernel
theorem dX6_pass_38 : decode cX6_pass 38 = .ok (.iload_n 2, 1) := by decide +kernel
theorem dX6_pass_39 : decode cX6_pass 39 = .ok (.iaload, 1) := by decide +kernel
theorem dX6_pass_40 : decode cX6_pass 40 = .ok (.ifCond .le 15, 3) := by decide +kernel
theorem dX6_pass_43 : decode cX6_pass 43 = .ok (.aload_n 0, 1) := by decide +kernel
theorem dX6_pass_44 : decode cX6_pass 44 = .ok (.iload_n 2, 1) := by decide +kernel
theorem dX6_pass_45 : decode cX6_pass 45 = .ok (.invokevirtual 157, 3) := by decide +kernel
theorem dX6_pass_48 : decode cX6_pass 48 = .ok (.ifCond .le 7, 3) := by decide +kernel
theorem dX6_pass_51 : decode cX6_pass 51 = .ok (.iconst 1, 1) := by decide +kernel
theorem dX6_pass_52 : decode cX6_pass 52 = .ok (.goto 4, 3) := by decide +kernel
theorem dX6_pass_55 : decode cX6_pass 55 = .ok (.iconst 0, 1) := by decide +kernel
theorem dX6_pass_56 : decode cX6_pass 56 = .ok (.istore_n 3, 1) := by decide +kernel
theorem dX6_pass_57 : decode cX6_pass 57 = .ok (.iinc 2 1, 3) := by decide +kernel
theorem dX6_pass_60 : decode cX6_pass 60 = .ok (.iload_n 3, 1) := by decide +kernel
theorem dX6_pass_61 : decode cX6_pass 61 = .ok (.ifCond .ne 6, 3) := by decide +kernel
theorem dX6_pass_64 : decode cX6_pass 64 = .ok (.goto (-50), 3) := by decide +kernel
theorem dX6_pass_67 : decode cX6_pass 67 = .ok (.aload_n 0, 1) := by decide +kernel
theorem dX6_pass_68 : decode cX6_pass 68 = .ok (.invokevirtual 173, 3) := by decide +kernel
theorem dX6_pass_71 : decode cX6_pass 71 = .ok (.istore 4, 2) := by decide +kernel
theorem dX6_pass_73 : decode cX6_pass 73 = .ok (.iload 4, 2) := by decide +kernel
theorem dX6_pass_75 : decode cX6_pass 75 = .ok (.ifCond .ge 6, 3) := by decide +kernel
theorem dX6_pass_78 : decode cX6_pass 78 = .ok (.bipush (-2), 2) := by decide +kernel
theorem dX6_pass_80 : decode cX6_pass 80 = .ok (.ireturn, 1) := by decide +kernel
theorem dX6_pass_81 : decode cX6_pass 81 = .ok (.iload_n 1, 1) := by decide +kernel
theorem dX6_pass_82 : decode cX6_pass 82 = .ok (.iload 4, 2) := by decide +kernel
theorem dX6_pass_84 : decode cX6_pass 84 = .ok (.iadd, 1) := by decide +kernel
theorem dX6_pass_85 : decode cX6_pass 85 = .ok (.istore_n 1, 1) := by decide +kernel
theorem dX6_pass_86 : decode cX6_pass 86 = .ok (.iconst 0, 1) := by decide +kernel
theorem dX6_pass_87 : decode cX6_pass 87 = .ok (.istore_n 2, 1) := by decide +kernel
theorem dX6_pass_88 : decode cX6_pass 88 = .ok (.goto (-74), 3) := by decide +kernel
theorem dX6_pass_91 : decode cX6_pass 91 = .ok (.iload_n 1, 1) := by decide +kernel
theorem dX6_pass_92 : decode cX6_pass 92 = .ok (.ireturn, 1) := by decide +kernel
theorem dX6_told_0 : decode cX6_told 0 = .ok (.iload_n 3, 1) := by decide +kernel
theorem dX6_told_1 : decode cX6_told 1 = .ok (.ifCond .ne 22, 3) := by decide +kernel
theorem dX6_told_4 : decode cX6_told 4 = .ok (.iload_n 1, 1) := by decide +kernel
theorem dX6_told_5 : decode cX6_told 5 = .ok (.iconst 2, 1) := by decide +kernel
theorem dX6_told_6 : decode cX6_told 6 = .ok (.if_icmp .ne 15, 3) := by decide +kernel
theorem dX6_told_9 : decode cX6_told 9 = .ok (.iload_n 2, 1) := by decide +kernel
theorem dX6_told_10 : decode cX6_told 10 = .ok (.bipush 24, 2) := by decide +kernel
theorem dX6_told_12 : decode cX6_told 12 = .ok (.idiv, 1) := by decide +kernel
theorem dX6_told_13 : decode cX6_told 13 = .ok (.iload_n 0, 1) := by decide +kernel
theorem dX6_told_14 : decode cX6_told 14 = .ok (.if_icmp .eq 7, 3) := by decide +kernel
theorem dX6_told_17 : decode cX6_told 17 = .ok (.iconst 3, 1) := by decide +kernel
theorem dX6_told_18 : decode cX6_told 18 = .ok (.goto 4, 3) := by decide +kernel
theorem dX6_told_21 : decode cX6_told 21 = .ok (.iload_n 1, 1) := by decide +kernel
theorem dX6_told_22 : decode cX6_told 22 = .ok (.ireturn, 1) := by decide +kernel
theorem dX6_told_23 : decode cX6_told 23 = .ok (.iload_n 1, 1) := by decide +kernel
theorem dX6_told_24 : decode cX6_told 24 = .ok (.iconst 2, 1) := by decide +kernel
theorem dX6_told_25 : decode cX6_told 25 = .ok (.if_icmp .ne 18, 3) := by decide +kernel
theorem dX6_told_28 : decode cX6_told 28 = .ok (.bipush 100, 2) := by decide +kernel
theorem dX6_told_30 : decode cX6_told 30 = .ok (.iload_n 2, 1) := by decide +kernel
theorem dX6_told_31 : decode cX6_told 31 = .ok (.bipush 24, 2) := by decide +kernel
theorem dX6_told_33 : decode cX6_told 33 = .ok (.idiv, 1) := by decide +kernel
theorem dX6_told_34 : decode cX6_told 34 = .ok (.imul, 1) := by decide +kernel
theorem dX6_told_35 : decode cX6_told 35 = .ok (.iload_n 2, 1) := by decide +kernel
theorem dX6_told_36 : decode cX6_told 36 = .ok (.bipush 24, 2) := by decide +kernel
theorem dX6_told_38 : decode cX6_told 38 = .ok (.irem, 1) := by decide +kernel
theorem dX6_told_39 : decode cX6_told 39 = .ok (.iadd, 1) := by decide +kernel
theorem dX6_told_40 : decode cX6_told 40 = .ok (.goto 4, 3) := by decide +kernel
theorem dX6_told_43 : decode cX6_told 43 = .ok (.iload_n 2, 1) := by decide +kernel
theorem dX6_told_44 : decode cX6_told 44 = .ok (.ireturn, 1) := by decide +kernel
theorem dX6_register_0 : decode cX6_register 0 = .ok (.aload_n 0, 1) := by decide +kernel
theorem dX6_register_1 : decode cX6_register 1 = .ok (.iload_n 1, 1) := by decide +kernel
theorem dX6_register_2 : decode cX6_register 2 = .ok (.iload_n 2, 1) := by decide +kernel
theorem dX6_register_3 : decode cX6_register 3 = .ok (.invokevirtual 94, 3) := by decide +kernel
theorem dX6_register_6 : decode cX6_register 6 = .ok (.ifCond .eq 12, 3) := by decide +kernel
theorem dX6_register_9 : decode cX6_register 9 = .ok (.iload_n 3, 1) := by decide +kernel
theorem dX6_register_10 : decode cX6_register 10 = .ok (.ifCond .lt 8, 3) := by decide +kernel
theorem dX6_register_13 : decode cX6_register 13 = .ok (.iload_n 3, 1) := by decide +kernel
theorem dX6_register_14 : decode cX6_register 14 = .ok (.iconst 1, 1) := by decide +kernel
theorem dX6_register_15 : decode cX6_register 15 = .ok (.if_icmp .le 5, 3) := by decide +kernel
theorem dX6_register_18 : decode cX6_register 18 = .ok (.iconst (-1), 1) := by decide +kernel
theorem dX6_register_19 : decode cX6_register 19 = .ok (.ireturn, 1) := by decide +kernel
theorem dX6_register_20 : decode cX6_register 20 = .ok (.iload_n 1, 1) := by decide +kernel
theorem dX6_register_21 : decode cX6_register 21 = .ok (.aload_n 0, 1) := by decide +kernel
theorem dX6_register_22 : decode cX6_register 22 = .ok (.getfield 33, 3) := by decide +kernel
theorem dX6_register_25 : decode cX6_register 25 = .ok (.bipush 6, 2) := by decide +kernel
theorem dX6_register_27 : decode cX6_register 27 = .ok (.iload_n 1, 1) := by decide +kernel
theorem dX6_register_28 : decode cX6_register 28 = .ok (.imul, 1) := by decide +kernel
theorem dX6_register_29 : decode cX6_register 29 = .ok (.iload_n 2, 1) := by decide +kernel
theorem dX6_register_30 : decode cX6_register 30 = .ok (.iadd, 1) := by decide +kernel
theorem dX6_register_31 : decode cX6_register 31 = .ok (.iaload, 1) := by decide +kernel
theorem dX6_register_32 : decode cX6_register 32 = .ok (.aload_n 0, 1) := by decide +kernel
theorem dX6_register_33 : decode cX6_register 33 = .ok (.getfield 36, 3) := by decide +kernel
theorem dX6_register_36 : decode cX6_register 36 = .ok (.bipush 6, 2) := by decide +kernel
theorem dX6_register_38 : decode cX6_register 38 = .ok (.iload_n 1, 1) := by decide +kernel
theorem dX6_register_39 : decode cX6_register 39 = .ok (.imul, 1) := by decide +kernel
theorem dX6_register_40 : decode cX6_register 40 = .ok (.iload_n 2, 1) := by decide +kernel
theorem dX6_register_41 : decode cX6_register 41 = .ok (.iadd, 1) := by decide +kernel
theorem dX6_register_42 : decode cX6_register 42 = .ok (.iaload, 1) := by decide +kernel
theorem dX6_register_43 : decode cX6_register 43 = .ok (.iload_n 3, 1) := by decide +kernel
theorem dX6_register_44 : decode cX6_register 44 = .ok (.invokestatic 177, 3) := by decide +kernel
theorem dX6_register_47 : decode cX6_register 47 = .ok (.ireturn, 1) := by decide +kernel
theorem dX6_field_0 : decode cX6_field 0 = .ok (.aload_n 0, 1) := by decide +kernel
theorem dX6_field_1 : decode cX6_field 1 = .ok (.iload_n 1, 1) := by decide +kernel
theorem dX6_field_2 : decode cX6_field 2 = .ok (.iload_n 2, 1) := by decide +kernel
theorem dX6_field_3 : decode cX6_field 3 = .ok (.invokevirtual 154, 3) := by decide +kernel
theorem dX6_field_6 : decode cX6_field 6 = .ok (.ifCond .eq 33, 3) := by decide +kernel
theorem dX6_field_9 : decode cX6_field 9 = .ok (.iload_n 3, 1) := by decide +kernel
theorem dX6_field_10 : decode cX6_field 10 = .ok (.ifCond .lt 29, 3) := by decide +kernel
theorem dX6_field_13 : decode cX6_field 13 = .ok (.iload_n 3, 1) := by decide +kernel
theorem dX6_field_14 : decode cX6_field 14 = .ok (.aload_n 0, 1) := by decide +kernel
theorem dX6_field_15 : decode cX6_field 15 = .ok (.getfield 13, 3) := by decide +kernel
theorem dX6_field_18 : decode cX6_field 18 = .ok (.bipush 24, 2) := by decide +kernel
theorem dX6_field_20 : decode cX6_field 20 = .ok (.iload_n 1, 1) := by decide +kernel
theorem dX6_field_21 : decode cX6_field 21 = .ok (.imul, 1) := by decide +kernel
theorem dX6_field_22 : decode cX6_field 22 = .ok (.iload_n 2, 1) := by decide +kernel
theorem dX6_field_23 : decode cX6_field 23 = .ok (.iadd, 1) := by decide +kernel
theorem dX6_field_24 : decode cX6_field 24 = .ok (.iaload, 1) := by decide +kernel
theorem dX6_field_25 : decode cX6_field 25 = .ok (.if_icmp .ge 14, 3) := by decide +kernel
theorem dX6_field_28 : decode cX6_field 28 = .ok (.iload 4, 2) := by decide +kernel
theorem dX6_field_30 : decode cX6_field 30 = .ok (.ifCond .lt 9, 3) := by decide +kernel
theorem dX6_field_33 : decode cX6_field 33 = .ok (.iload 4, 2) := by decide +kernel
theorem dX6_field_35 : decode cX6_field 35 = .ok (.iconst 1, 1) := by decide +kernel
theorem dX6_field_36 : decode cX6_field 36 = .ok (.if_icmp .le 5, 3) := by decide +kernel
theorem dX6_field_39 : decode cX6_field 39 = .ok (.iconst (-1), 1) := by decide +kernel
theorem dX6_field_40 : decode cX6_field 40 = .ok (.ireturn, 1) := by decide +kernel
theorem dX6_field_41 : decode cX6_field 41 = .ok (.bipush 12, 2) := by decide +kernel
theorem dX6_field_43 : decode cX6_field 43 = .ok (.bipush 24, 2) := by decide +kernel
theorem dX6_field_45 : decode cX6_field 45 = .ok (.iload_n 1, 1) := by decide +kernel
theorem dX6_field_46 : decode cX6_field 46 = .ok (.imul, 1) := by decide +kernel
theorem dX6_field_47 : decode cX6_field 47 = .ok (.iload_n 2, 1) := by decide +kernel
theorem dX6_field_48 : decode cX6_field 48 = .ok (.iadd, 1) := by decide +kernel
theorem dX6_field_49 : decode cX6_field 49 = .ok (.imul, 1) := by decide +kernel
theorem dX6_field_50 : decode cX6_field 50 = .ok (.iload_n 3, 1) := by decide +kernel
theorem dX6_field_51 : decode cX6_field 51 = .ok (.iadd, 1) := by decide +kernel
theorem dX6_field_52 : decode cX6_field 52 = .ok (.istore 5, 2) := by decide +kernel
theorem dX6_field_54 : decode cX6_field 54 = .ok (.iload_n 1, 1) := by decide +kernel
theorem dX6_field_55 : decode cX6_field 55 = .ok (.aload_n 0, 1) := by decide +kernel
theorem dX6_field_56 : decode cX6_field 56 = .ok (.getfield 27, 3) := by decide +kernel
theorem dX6_field_59 : decode cX6_field 59 = .ok (.iload 5, 2) := by decide +kernel
theorem dX6_field_61 : decode cX6_field 61 = .ok (.iaload, 1) := by decide +kernel
theorem dX6_field_62 : decode cX6_field 62 = .ok (.aload_n 0, 1) := by decide +kernel
theorem dX6_field_63 : decode cX6_field 63 = .ok (.getfield 30, 3) := by decide +kernel
theorem dX6_field_66 : decode cX6_field 66 = .ok (.iload 5, 2) := by decide +kernel
theorem dX6_field_68 : decode cX6_field 68 = .ok (.iaload, 1) := by decide +kernel
theorem dX6_field_69 : decode cX6_field 69 = .ok (.iload 4, 2) := by decide +kernel
theorem dX6_field_71 : decode cX6_field 71 = .ok (.invokestatic 177, 3) := by decide +kernel
theorem dX6_field_74 : decode cX6_field 74 = .ok (.ireturn, 1) := by decide +kernel
theorem dX6_cell_0 : decode cX6_cell 0 = .ok (.aload_n 0, 1) := by decide +kernel
theorem dX6_cell_1 : decode cX6_cell 1 = .ok (.iload_n 1, 1) := by decide +kernel
theorem dX6_cell_2 : decode cX6_cell 2 = .ok (.invokevirtual 90, 3) := by decide +kernel
theorem dX6_cell_5 : decode cX6_cell 5 = .ok (.ifCond .eq 26, 3) := by decide +kernel
theorem dX6_cell_8 : decode cX6_cell 8 = .ok (.iload_n 2, 1) := by decide +kernel
theorem dX6_cell_9 : decode cX6_cell 9 = .ok (.ifCond .lt 22, 3) := by decide +kernel
theorem dX6_cell_12 : decode cX6_cell 12 = .ok (.iload_n 2, 1) := by decide +kernel
theorem dX6_cell_13 : decode cX6_cell 13 = .ok (.aload_n 0, 1) := by decide +kernel
theorem dX6_cell_14 : decode cX6_cell 14 = .ok (.getfield 42, 3) := by decide +kernel
theorem dX6_cell_17 : decode cX6_cell 17 = .ok (.iload_n 1, 1) := by decide +kernel
theorem dX6_cell_18 : decode cX6_cell 18 = .ok (.iaload, 1) := by decide +kernel
theorem dX6_cell_19 : decode cX6_cell 19 = .ok (.if_icmp .ge 12, 3) := by decide +kernel
theorem dX6_cell_22 : decode cX6_cell 22 = .ok (.iload_n 3, 1) := by decide +kernel
theorem dX6_cell_23 : decode cX6_cell 23 = .ok (.ifCond .lt 8, 3) := by decide +kernel
theorem dX6_cell_26 : decode cX6_cell 26 = .ok (.iload_n 3, 1) := by decide +kernel
theorem dX6_cell_27 : decode cX6_cell 27 = .ok (.iconst 1, 1) := by decide +kernel
theorem dX6_cell_28 : decode cX6_cell 28 = .ok (.if_icmp .le 5, 3) := by decide +kernel
theorem dX6_cell_31 : decode cX6_cell 31 = .ok (.iconst (-1), 1) := by decide +kernel
theorem dX6_cell_32 : decode cX6_cell 32 = .ok (.ireturn, 1) := by decide +kernel
theorem dX6_cell_33 : decode cX6_cell 33 = .ok (.iconst 0, 1) := by decide +kernel
theorem dX6_cell_34 : decode cX6_cell 34 = .ok (.istore 4, 2) := by decide +kernel
theorem dX6_cell_36 : decode cX6_cell 36 = .ok (.iload 4, 2) := by decide +kernel
theorem dX6_cell_38 : decode cX6_cell 38 = .ok (.bipush 24, 2) := by decide +kernel
theorem dX6_cell_40 : decode cX6_cell 40 = .ok (.if_icmp .ge 77, 3) := by decide +kernel
theorem dX6_cell_43 : decode cX6_cell 43 = .ok (.bipush 24, 2) := by decide +kernel
theorem dX6_cell_45 : decode cX6_cell 45 = .ok (.iload_n 1, 1) := by decide +kernel
theorem dX6_cell_46 : decode cX6_cell 46 = .ok (.imul, 1) := by decide +kernel
theorem dX6_cell_47 : decode cX6_cell 47 = .ok (.iload 4, 2) := by decide +kernel
theorem dX6_cell_49 : decode cX6_cell 49 = .ok (.iadd, 1) := by decide +kernel
theorem dX6_cell_50 : decode cX6_cell 50 = .ok (.istore 5, 2) := by decide +kernel
theorem dX6_cell_52 : decode cX6_cell 52 = .ok (.aload_n 0, 1) := by decide +kernel
theorem dX6_cell_53 : decode cX6_cell 53 = .ok (.getfield 23, 3) := by decide +kernel
theorem dX6_cell_56 : decode cX6_cell 56 = .ok (.iload 5, 2) := by decide +kernel
theorem dX6_cell_58 : decode cX6_cell 58 = .ok (.baload, 1) := by decide +kernel
theorem dX6_cell_59 : decode cX6_cell 59 = .ok (.ifCond .eq 52, 3) := by decide +kernel
theorem dX6_cell_62 : decode cX6_cell 62 = .ok (.iload_n 2, 1) := by decide +kernel
theorem dX6_cell_63 : decode cX6_cell 63 = .ok (.aload_n 0, 1) := by decide +kernel
theorem dX6_cell_64 : decode cX6_cell 64 = .ok (.getfield 17, 3) := by decide +kernel
theorem dX6_cell_67 : decode cX6_cell 67 = .ok (.iload 5, 2) := by decide +kernel
theorem dX6_cell_69 : decode cX6_cell 69 = .ok (.iaload, 1) := by decide +kernel
theorem dX6_cell_70 : decode cX6_cell 70 = .ok (.if_icmp .lt 41, 3) := by decide +kernel
theorem dX6_cell_73 : decode cX6_cell 73 = .ok (.iload_n 2, 1) := by decide +kernel
theorem dX6_cell_74 : decode cX6_cell 74 = .ok (.aload_n 0, 1) := by decide +kernel
theorem dX6_cell_75 : decode cX6_cell 75 = .ok (.getfield 17, 3) := by decide +kernel
theorem dX6_cell_78 : decode cX6_cell 78 = .ok (.iload 5, 2) := by decide +kernel
theorem dX6_cell_80 : decode cX6_cell 80 = .ok (.iaload, 1) := by decide +kernel
theorem dX6_cell_81 : decode cX6_cell 81 = .ok (.aload_n 0, 1) := by decide +kernel
theorem dX6_cell_82 : decode cX6_cell 82 = .ok (.getfield 13, 3) := by decide +kernel
theorem dX6_cell_85 : decode cX6_cell 85 = .ok (.iload 5, 2) := by decide +kernel
theorem dX6_cell_87 : decode cX6_cell 87 = .ok (.iaload, 1) := by decide +kernel
theorem dX6_cell_88 : decode cX6_cell 88 = .ok (.iadd, 1) := by decide +kernel
theorem dX6_cell_89 : decode cX6_cell 89 = .ok (.if_icmp .gt 22, 3) := by decide +kernel
theorem dX6_cell_92 : decode cX6_cell 92 = .ok (.iload_n 3, 1) := by decide +kernel
theorem dX6_cell_93 : decode cX6_cell 93 = .ok (.ifCond .ne 8, 3) := by decide +kernel
theorem dX6_cell_96 : decode cX6_cell 96 = .ok (.iload 4, 2) := by decide +kernel
theorem dX6_cell_98 : decode cX6_cell 98 = .ok (.goto 12, 3) := by decide +kernel
theorem dX6_cell_101 : decode cX6_cell 101 = .ok (.iload_n 2, 1) := by decide +kernel
theorem dX6_cell_102 : decode cX6_cell 102 = .ok (.aload_n 0, 1) := by decide +kernel
theorem dX6_cell_103 : decode cX6_cell 103 = .ok (.getfield 17, 3) := by decide +kernel
theorem dX6_cell_106 : decode cX6_cell 106 = .ok (.iload 5, 2) := by decide +kernel
theorem dX6_cell_108 : decode cX6_cell 108 = .ok (.iaload, 1) := by decide +kernel
theorem dX6_cell_109 : decode cX6_cell 109 = .ok (.isub, 1) := by decide +kernel
theorem dX6_cell_110 : decode cX6_cell 110 = .ok (.ireturn, 1) := by decide +kernel
theorem dX6_cell_111 : decode cX6_cell 111 = .ok (.iinc 4 1, 3) := by decide +kernel
theorem dX6_cell_114 : decode cX6_cell 114 = .ok (.goto (-78), 3) := by decide +kernel
theorem dX6_cell_117 : decode cX6_cell 117 = .ok (.iconst (-1), 1) := by decide +kernel
theorem dX6_cell_118 : decode cX6_cell 118 = .ok (.ireturn, 1) := by decide +kernel
theorem dX6_reaches_0 : decode cX6_reaches 0 = .ok (.aload_n 0, 1) := by decide +kernel
theorem dX6_reaches_1 : decode cX6_reaches 1 = .ok (.getfield 84, 3) := by decide +kernel
theorem dX6_reaches_4 : decode cX6_reaches 4 = .ok (.iload_n 1, 1) := by decide +kernel
theorem dX6_reaches_5 : decode cX6_reaches 5 = .ok (.baload, 1) := by decide +kernel
theorem dX6_reaches_6 : decode cX6_reaches 6 = .ok (.ifCond .eq 4, 3) := by decide +kernel
theorem dX6_reaches_9 : decode cX6_reaches 9 = .ok (.return_, 1) := by decide +kernel
theorem dX6_reaches_10 : decode cX6_reaches 10 = .ok (.aload_n 0, 1) := by decide +kernel
theorem dX6_reaches_11 : decode cX6_reaches 11 = .ok (.getfield 84, 3) := by decide +kernel
theorem dX6_reaches_14 : decode cX6_reaches 14 = .ok (.iload_n 1, 1) := by decide +kernel
theorem dX6_reaches_15 : decode cX6_reaches 15 = .ok (.iconst 1, 1) := by decide +kernel
theorem dX6_reaches_16 : decode cX6_reaches 16 = .ok (.bastore, 1) := by decide +kernel
theorem dX6_reaches_17 : decode cX6_reaches 17 = .ok (.aload_n 0, 1) := by decide +kernel
theorem dX6_reaches_18 : decode cX6_reaches 18 = .ok (.getfield 72, 3) := by decide +kernel
theorem dX6_reaches_21 : decode cX6_reaches 21 = .ok (.aload_n 0, 1) := by decide +kernel
theorem dX6_reaches_22 : decode cX6_reaches 22 = .ok (.getfield 137, 3) := by decide +kernel
theorem dX6_reaches_25 : decode cX6_reaches 25 = .ok (.iload_n 1, 1) := by decide +kernel
theorem dX6_reaches_26 : decode cX6_reaches 26 = .ok (.iastore, 1) := by decide +kernel
theorem dX6_reaches_27 : decode cX6_reaches 27 = .ok (.aload_n 0, 1) := by decide +kernel
theorem dX6_reaches_28 : decode cX6_reaches 28 = .ok (.dup, 1) := by decide +kernel
theorem dX6_reaches_29 : decode cX6_reaches 29 = .ok (.getfield 137, 3) := by decide +kernel
theorem dX6_reaches_32 : decode cX6_reaches 32 = .ok (.iconst 1, 1) := by decide +kernel
theorem dX6_reaches_33 : decode cX6_reaches 33 = .ok (.iadd, 1) := by decide +kernel
theorem dX6_reaches_34 : decode cX6_reaches 34 = .ok (.putfield 137, 3) := by decide +kernel
theorem dX6_reaches_37 : decode cX6_reaches 37 = .ok (.return_, 1) := by decide +kernel
theorem dX6_hold_0 : decode cX6_hold 0 = .ok (.iconst 0, 1) := by decide +kernel
theorem dX6_hold_1 : decode cX6_hold 1 = .ok (.istore_n 1, 1) := by decide +kernel
theorem dX6_hold_2 : decode cX6_hold 2 = .ok (.iload_n 1, 1) := by decide +kernel
theorem dX6_hold_3 : decode cX6_hold 3 = .ok (.bipush 120, 2) := by decide +kernel
theorem dX6_hold_5 : decode cX6_hold 5 = .ok (.if_icmp .ge 16, 3) := by decide +kernel
theorem dX6_hold_8 : decode cX6_hold 8 = .ok (.aload_n 0, 1) := by decide +kernel
theorem dX6_hold_9 : decode cX6_hold 9 = .ok (.getfield 84, 3) := by decide +kernel
theorem dX6_hold_12 : decode cX6_hold 12 = .ok (.iload_n 1, 1) := by decide +kernel
theorem dX6_hold_13 : decode cX6_hold 13 = .ok (.iconst 0, 1) := by decide +kernel
theorem dX6_hold_14 : decode cX6_hold 14 = .ok (.bastore, 1) := by decide +kernel
theorem dX6_hold_15 : decode cX6_hold 15 = .ok (.iinc 1 1, 3) := by decide +kernel
theorem dX6_hold_18 : decode cX6_hold 18 = .ok (.goto (-16), 3) := by decide +kernel
theorem dX6_hold_21 : decode cX6_hold 21 = .ok (.aload_n 0, 1) := by decide +kernel
theorem dX6_hold_22 : decode cX6_hold 22 = .ok (.iconst 0, 1) := by decide +kernel
theorem dX6_hold_23 : decode cX6_hold 23 = .ok (.putfield 137, 3) := by decide +kernel
theorem dX6_hold_26 : decode cX6_hold 26 = .ok (.iconst 0, 1) := by decide +kernel
theorem dX6_hold_27 : decode cX6_hold 27 = .ok (.istore_n 1, 1) := by decide +kernel
theorem dX6_hold_28 : decode cX6_hold 28 = .ok (.iload_n 1, 1) := by decide +kernel
theorem dX6_hold_29 : decode cX6_hold 29 = .ok (.bipush 6, 2) := by decide +kernel
theorem dX6_hold_31 : decode cX6_hold 31 = .ok (.aload_n 0, 1) := by decide +kernel
theorem dX6_hold_32 : decode cX6_hold 32 = .ok (.getfield 87, 3) := by decide +kernel
theorem dX6_hold_35 : decode cX6_hold 35 = .ok (.imul, 1) := by decide +kernel
theorem dX6_hold_36 : decode cX6_hold 36 = .ok (.if_icmp .ge 29, 3) := by decide +kernel
theorem dX6_hold_39 : decode cX6_hold 39 = .ok (.aload_n 0, 1) := by decide +kernel
theorem dX6_hold_40 : decode cX6_hold 40 = .ok (.getfield 33, 3) := by decide +kernel
theorem dX6_hold_43 : decode cX6_hold 43 = .ok (.iload_n 1, 1) := by decide +kernel
theorem dX6_hold_44 : decode cX6_hold 44 = .ok (.iaload, 1) := by decide +kernel
theorem dX6_hold_45 : decode cX6_hold 45 = .ok (.iconst 2, 1) := by decide +kernel
theorem dX6_hold_46 : decode cX6_hold 46 = .ok (.if_icmp .ne 13, 3) := by decide +kernel
theorem dX6_hold_49 : decode cX6_hold 49 = .ok (.aload_n 0, 1) := by decide +kernel
theorem dX6_hold_50 : decode cX6_hold 50 = .ok (.aload_n 0, 1) := by decide +kernel
theorem dX6_hold_51 : decode cX6_hold 51 = .ok (.getfield 36, 3) := by decide +kernel
theorem dX6_hold_54 : decode cX6_hold 54 = .ok (.iload_n 1, 1) := by decide +kernel
theorem dX6_hold_55 : decode cX6_hold 55 = .ok (.iaload, 1) := by decide +kernel
theorem dX6_hold_56 : decode cX6_hold 56 = .ok (.invokevirtual 181, 3) := by decide +kernel
theorem dX6_hold_59 : decode cX6_hold 59 = .ok (.iinc 1 1, 3) := by decide +kernel
theorem dX6_hold_62 : decode cX6_hold 62 = .ok (.goto (-34), 3) := by decide +kernel
theorem dX6_hold_65 : decode cX6_hold 65 = .ok (.iconst 0, 1) := by decide +kernel
theorem dX6_hold_66 : decode cX6_hold 66 = .ok (.istore_n 1, 1) := by decide +kernel
theorem dX6_hold_67 : decode cX6_hold 67 = .ok (.iload_n 1, 1) := by decide +kernel
theorem dX6_hold_68 : decode cX6_hold 68 = .ok (.aload_n 0, 1) := by decide +kernel
theorem dX6_hold_69 : decode cX6_hold 69 = .ok (.getfield 110, 3) := by decide +kernel
theorem dX6_hold_72 : decode cX6_hold 72 = .ok (.if_icmp .ge 29, 3) := by decide +kernel
theorem dX6_hold_75 : decode cX6_hold 75 = .ok (.aload_n 0, 1) := by decide +kernel
theorem dX6_hold_76 : decode cX6_hold 76 = .ok (.getfield 54, 3) := by decide +kernel
theorem dX6_hold_79 : decode cX6_hold 79 = .ok (.iload_n 1, 1) := by decide +kernel
theorem dX6_hold_80 : decode cX6_hold 80 = .ok (.iaload, 1) := by decide +kernel
theorem dX6_hold_81 : decode cX6_hold 81 = .ok (.iconst 1, 1) := by decide +kernel
theorem dX6_hold_82 : decode cX6_hold 82 = .ok (.if_icmp .ne 13, 3) := by decide +kernel
theorem dX6_hold_85 : decode cX6_hold 85 = .ok (.aload_n 0, 1) := by decide +kernel
theorem dX6_hold_86 : decode cX6_hold 86 = .ok (.aload_n 0, 1) := by decide +kernel
theorem dX6_hold_87 : decode cX6_hold 87 = .ok (.getfield 57, 3) := by decide +kernel
theorem dX6_hold_90 : decode cX6_hold 90 = .ok (.iload_n 1, 1) := by decide +kernel
theorem dX6_hold_91 : decode cX6_hold 91 = .ok (.iaload, 1) := by decide +kernel
theorem dX6_hold_92 : decode cX6_hold 92 = .ok (.invokevirtual 181, 3) := by decide +kernel
theorem dX6_hold_95 : decode cX6_hold 95 = .ok (.iinc 1 1, 3) := by decide +kernel
theorem dX6_hold_98 : decode cX6_hold 98 = .ok (.goto (-31), 3) := by decide +kernel
theorem dX6_hold_101 : decode cX6_hold 101 = .ok (.aload_n 0, 1) := by decide +kernel
theorem dX6_hold_102 : decode cX6_hold 102 = .ok (.getfield 137, 3) := by decide +kernel
theorem dX6_hold_105 : decode cX6_hold 105 = .ok (.ifCond .le 74, 3) := by decide +kernel
theorem dX6_hold_108 : decode cX6_hold 108 = .ok (.aload_n 0, 1) := by decide +kernel
theorem dX6_hold_109 : decode cX6_hold 109 = .ok (.dup, 1) := by decide +kernel
theorem dX6_hold_110 : decode cX6_hold 110 = .ok (.getfield 137, 3) := by decide +kernel
theorem dX6_hold_113 : decode cX6_hold 113 = .ok (.iconst 1, 1) := by decide +kernel
theorem dX6_hold_114 : decode cX6_hold 114 = .ok (.isub, 1) := by decide +kernel
theorem dX6_hold_115 : decode cX6_hold 115 = .ok (.putfield 137, 3) := by decide +kernel
theorem dX6_hold_118 : decode cX6_hold 118 = .ok (.aload_n 0, 1) := by decide +kernel
theorem dX6_hold_119 : decode cX6_hold 119 = .ok (.getfield 72, 3) := by decide +kernel
theorem dX6_hold_122 : decode cX6_hold 122 = .ok (.aload_n 0, 1) := by decide +kernel
theorem dX6_hold_123 : decode cX6_hold 123 = .ok (.getfield 137, 3) := by decide +kernel
theorem dX6_hold_126 : decode cX6_hold 126 = .ok (.iaload, 1) := by decide +kernel
theorem dX6_hold_127 : decode cX6_hold 127 = .ok (.istore_n 1, 1) := by decide +kernel
theorem dX6_hold_128 : decode cX6_hold 128 = .ok (.iconst 0, 1) := by decide +kernel
theorem dX6_hold_129 : decode cX6_hold 129 = .ok (.istore_n 2, 1) := by decide +kernel
theorem dX6_hold_130 : decode cX6_hold 130 = .ok (.iload_n 2, 1) := by decide +kernel
theorem dX6_hold_131 : decode cX6_hold 131 = .ok (.aload_n 0, 1) := by decide +kernel
theorem dX6_hold_132 : decode cX6_hold 132 = .ok (.getfield 13, 3) := by decide +kernel
theorem dX6_hold_135 : decode cX6_hold 135 = .ok (.iload_n 1, 1) := by decide +kernel
theorem dX6_hold_136 : decode cX6_hold 136 = .ok (.iaload, 1) := by decide +kernel
theorem dX6_hold_137 : decode cX6_hold 137 = .ok (.if_icmp .ge 39, 3) := by decide +kernel
theorem dX6_hold_140 : decode cX6_hold 140 = .ok (.aload_n 0, 1) := by decide +kernel
theorem dX6_hold_141 : decode cX6_hold 141 = .ok (.getfield 27, 3) := by decide +kernel
theorem dX6_hold_144 : decode cX6_hold 144 = .ok (.bipush 12, 2) := by decide +kernel
theorem dX6_hold_146 : decode cX6_hold 146 = .ok (.iload_n 1, 1) := by decide +kernel
theorem dX6_hold_147 : decode cX6_hold 147 = .ok (.imul, 1) := by decide +kernel
theorem dX6_hold_148 : decode cX6_hold 148 = .ok (.iload_n 2, 1) := by decide +kernel
theorem dX6_hold_149 : decode cX6_hold 149 = .ok (.iadd, 1) := by decide +kernel
theorem dX6_hold_150 : decode cX6_hold 150 = .ok (.iaload, 1) := by decide +kernel
theorem dX6_hold_151 : decode cX6_hold 151 = .ok (.iconst 2, 1) := by decide +kernel
theorem dX6_hold_152 : decode cX6_hold 152 = .ok (.if_icmp .ne 18, 3) := by decide +kernel
theorem dX6_hold_155 : decode cX6_hold 155 = .ok (.aload_n 0, 1) := by decide +kernel
theorem dX6_hold_156 : decode cX6_hold 156 = .ok (.aload_n 0, 1) := by decide +kernel
theorem dX6_hold_157 : decode cX6_hold 157 = .ok (.getfield 30, 3) := by decide +kernel
theorem dX6_hold_160 : decode cX6_hold 160 = .ok (.bipush 12, 2) := by decide +kernel
theorem dX6_hold_162 : decode cX6_hold 162 = .ok (.iload_n 1, 1) := by decide +kernel
theorem dX6_hold_163 : decode cX6_hold 163 = .ok (.imul, 1) := by decide +kernel
theorem dX6_hold_164 : decode cX6_hold 164 = .ok (.iload_n 2, 1) := by decide +kernel
theorem dX6_hold_165 : decode cX6_hold 165 = .ok (.iadd, 1) := by decide +kernel
theorem dX6_hold_166 : decode cX6_hold 166 = .ok (.iaload, 1) := by decide +kernel
theorem dX6_hold_167 : decode cX6_hold 167 = .ok (.invokevirtual 181, 3) := by decide +kernel
theorem dX6_hold_170 : decode cX6_hold 170 = .ok (.iinc 2 1, 3) := by decide +kernel
theorem dX6_hold_173 : decode cX6_hold 173 = .ok (.goto (-43), 3) := by decide +kernel
theorem dX6_hold_176 : decode cX6_hold 176 = .ok (.goto (-75), 3) := by decide +kernel
theorem dX6_hold_179 : decode cX6_hold 179 = .ok (.return_, 1) := by decide +kernel
theorem dX6_object_0 : decode cX6_object 0 = .ok (.aload_n 0, 1) := by decide +kernel
theorem dX6_object_1 : decode cX6_object 1 = .ok (.iload_n 1, 1) := by decide +kernel
theorem dX6_object_2 : decode cX6_object 2 = .ok (.iload_n 2, 1) := by decide +kernel
theorem dX6_object_3 : decode cX6_object 3 = .ok (.invokevirtual 154, 3) := by decide +kernel
theorem dX6_object_6 : decode cX6_object 6 = .ok (.ifCond .ne 6, 3) := by decide +kernel
theorem dX6_object_9 : decode cX6_object 9 = .ok (.bipush (-2), 2) := by decide +kernel
theorem dX6_object_11 : decode cX6_object 11 = .ok (.ireturn, 1) := by decide +kernel
theorem dX6_object_12 : decode cX6_object 12 = .ok (.bipush 24, 2) := by decide +kernel
theorem dX6_object_14 : decode cX6_object 14 = .ok (.iload_n 1, 1) := by decide +kernel
theorem dX6_object_15 : decode cX6_object 15 = .ok (.imul, 1) := by decide +kernel
theorem dX6_object_16 : decode cX6_object 16 = .ok (.iload_n 2, 1) := by decide +kernel
theorem dX6_object_17 : decode cX6_object 17 = .ok (.iadd, 1) := by decide +kernel
theorem dX6_object_18 : decode cX6_object 18 = .ok (.istore 4, 2) := by decide +kernel
theorem dX6_object_20 : decode cX6_object 20 = .ok (.iload_n 3, 1) := by decide +kernel
theorem dX6_object_21 : decode cX6_object 21 = .ok (.tableswitch 75 0 3 #[31, 39, 47, 55], 31) := by decide +kernel
theorem dX6_object_52 : decode cX6_object 52 = .ok (.aload_n 0, 1) := by decide +kernel
theorem dX6_object_53 : decode cX6_object 53 = .ok (.getfield 17, 3) := by decide +kernel
theorem dX6_object_56 : decode cX6_object 56 = .ok (.iload 4, 2) := by decide +kernel
theorem dX6_object_58 : decode cX6_object 58 = .ok (.iaload, 1) := by decide +kernel
theorem dX6_object_59 : decode cX6_object 59 = .ok (.ireturn, 1) := by decide +kernel
theorem dX6_object_60 : decode cX6_object 60 = .ok (.aload_n 0, 1) := by decide +kernel
theorem dX6_object_61 : decode cX6_object 61 = .ok (.getfield 13, 3) := by decide +kernel
theorem dX6_object_64 : decode cX6_object 64 = .ok (.iload 4, 2) := by decide +kernel
theorem dX6_object_66 : decode cX6_object 66 = .ok (.iaload, 1) := by decide +kernel
theorem dX6_object_67 : decode cX6_object 67 = .ok (.ireturn, 1) := by decide +kernel
theorem dX6_object_68 : decode cX6_object 68 = .ok (.aload_n 0, 1) := by decide +kernel
theorem dX6_object_69 : decode cX6_object 69 = .ok (.getfield 20, 3) := by decide +kernel
theorem dX6_object_72 : decode cX6_object 72 = .ok (.iload 4, 2) := by decide +kernel
theorem dX6_object_74 : decode cX6_object 74 = .ok (.iaload, 1) := by decide +kernel
theorem dX6_object_75 : decode cX6_object 75 = .ok (.ireturn, 1) := by decide +kernel
theorem dX6_object_76 : decode cX6_object 76 = .ok (.aload_n 0, 1) := by decide +kernel
theorem dX6_object_77 : decode cX6_object 77 = .ok (.invokevirtual 184, 3) := by decide +kernel
theorem dX6_object_80 : decode cX6_object 80 = .ok (.aload_n 0, 1) := by decide +kernel
theorem dX6_object_81 : decode cX6_object 81 = .ok (.getfield 84, 3) := by decide +kernel
theorem dX6_object_84 : decode cX6_object 84 = .ok (.iload 4, 2) := by decide +kernel
theorem dX6_object_86 : decode cX6_object 86 = .ok (.baload, 1) := by decide +kernel
theorem dX6_object_87 : decode cX6_object 87 = .ok (.ifCond .eq 7, 3) := by decide +kernel
theorem dX6_object_90 : decode cX6_object 90 = .ok (.iconst 1, 1) := by decide +kernel
theorem dX6_object_91 : decode cX6_object 91 = .ok (.goto 4, 3) := by decide +kernel
theorem dX6_object_94 : decode cX6_object 94 = .ok (.iconst 0, 1) := by decide +kernel
theorem dX6_object_95 : decode cX6_object 95 = .ok (.ireturn, 1) := by decide +kernel
theorem dX6_object_96 : decode cX6_object 96 = .ok (.bipush (-2), 2) := by decide +kernel
theorem dX6_object_98 : decode cX6_object 98 = .ok (.ireturn, 1) := by decide +kernel
theorem dX6_weight_0 : decode cX6_weight 0 = .ok (.aload_n 0, 1) := by decide +kernel
theorem dX6_weight_1 : decode cX6_weight 1 = .ok (.iload_n 1, 1) := by decide +kernel
theorem dX6_weight_2 : decode cX6_weight 2 = .ok (.invokevirtual 90, 3) := by decide +kernel
theorem dX6_weight_5 : decode cX6_weight 5 = .ok (.ifCond .eq 40, 3) := by decide +kernel
theorem dX6_weight_8 : decode cX6_weight 8 = .ok (.aload_n 0, 1) := by decide +kernel
theorem dX6_weight_9 : decode cX6_weight 9 = .ok (.iload_n 2, 1) := by decide +kernel
theorem dX6_weight_10 : decode cX6_weight 10 = .ok (.invokevirtual 90, 3) := by decide +kernel
theorem dX6_weight_13 : decode cX6_weight 13 = .ok (.ifCond .eq 32, 3) := by decide +kernel
theorem dX6_weight_16 : decode cX6_weight 16 = .ok (.iload_n 3, 1) := by decide +kernel
theorem dX6_weight_17 : decode cX6_weight 17 = .ok (.ifCond .lt 28, 3) := by decide +kernel
theorem dX6_weight_20 : decode cX6_weight 20 = .ok (.iload_n 3, 1) := by decide +kernel
theorem dX6_weight_21 : decode cX6_weight 21 = .ok (.bipush 24, 2) := by decide +kernel
theorem dX6_weight_23 : decode cX6_weight 23 = .ok (.if_icmp .ge 22, 3) := by decide +kernel
theorem dX6_weight_26 : decode cX6_weight 26 = .ok (.aload_n 0, 1) := by decide +kernel
theorem dX6_weight_27 : decode cX6_weight 27 = .ok (.getfield 39, 3) := by decide +kernel
theorem dX6_weight_30 : decode cX6_weight 30 = .ok (.bipush 120, 2) := by decide +kernel
theorem dX6_weight_32 : decode cX6_weight 32 = .ok (.iload_n 1, 1) := by decide +kernel
theorem dX6_weight_33 : decode cX6_weight 33 = .ok (.imul, 1) := by decide +kernel
theorem dX6_weight_34 : decode cX6_weight 34 = .ok (.bipush 24, 2) := by decide +kernel
theorem dX6_weight_36 : decode cX6_weight 36 = .ok (.iload_n 2, 1) := by decide +kernel
theorem dX6_weight_37 : decode cX6_weight 37 = .ok (.imul, 1) := by decide +kernel
theorem dX6_weight_38 : decode cX6_weight 38 = .ok (.iadd, 1) := by decide +kernel
theorem dX6_weight_39 : decode cX6_weight 39 = .ok (.iload_n 3, 1) := by decide +kernel
theorem dX6_weight_40 : decode cX6_weight 40 = .ok (.iadd, 1) := by decide +kernel
theorem dX6_weight_41 : decode cX6_weight 41 = .ok (.iaload, 1) := by decide +kernel
theorem dX6_weight_42 : decode cX6_weight 42 = .ok (.goto 4, 3) := by decide +kernel
theorem dX6_weight_45 : decode cX6_weight 45 = .ok (.iconst 0, 1) := by decide +kernel
theorem dX6_weight_46 : decode cX6_weight 46 = .ok (.ireturn, 1) := by decide +kernel
theorem dX6_message_0 : decode cX6_message 0 = .ok (.aload_n 0, 1) := by decide +kernel
theorem dX6_message_1 : decode cX6_message 1 = .ok (.iload_n 1, 1) := by decide +kernel
theorem dX6_message_2 : decode cX6_message 2 = .ok (.invokevirtual 90, 3) := by decide +kernel
theorem dX6_message_5 : decode cX6_message 5 = .ok (.ifCond .eq 26, 3) := by decide +kernel
theorem dX6_message_8 : decode cX6_message 8 = .ok (.aload_n 0, 1) := by decide +kernel
theorem dX6_message_9 : decode cX6_message 9 = .ok (.iload_n 2, 1) := by decide +kernel
theorem dX6_message_10 : decode cX6_message 10 = .ok (.invokevirtual 90, 3) := by decide +kernel
theorem dX6_message_13 : decode cX6_message 13 = .ok (.ifCond .eq 18, 3) := by decide +kernel
theorem dX6_message_16 : decode cX6_message 16 = .ok (.iload_n 3, 1) := by decide +kernel
theorem dX6_message_17 : decode cX6_message 17 = .ok (.ifCond .lt 14, 3) := by decide +kernel
theorem dX6_message_20 : decode cX6_message 20 = .ok (.iload 4, 2) := by decide +kernel
theorem dX6_message_22 : decode cX6_message 22 = .ok (.ifCond .lt 9, 3) := by decide +kernel
theorem dX6_message_25 : decode cX6_message 25 = .ok (.iload 4, 2) := by decide +kernel
theorem dX6_message_27 : decode cX6_message 27 = .ok (.iconst 3, 1) := by decide +kernel
theorem dX6_message_28 : decode cX6_message 28 = .ok (.if_icmp .le 5, 3) := by decide +kernel
theorem dX6_message_31 : decode cX6_message 31 = .ok (.iconst (-1), 1) := by decide +kernel
theorem dX6_message_32 : decode cX6_message 32 = .ok (.ireturn, 1) := by decide +kernel
theorem dX6_message_33 : decode cX6_message 33 = .ok (.iload_n 3, 1) := by decide +kernel
theorem dX6_message_34 : decode cX6_message 34 = .ok (.istore 5, 2) := by decide +kernel
theorem dX6_message_36 : decode cX6_message 36 = .ok (.iconst 0, 1) := by decide +kernel
theorem dX6_message_37 : decode cX6_message 37 = .ok (.istore 6, 2) := by decide +kernel
theorem dX6_message_39 : decode cX6_message 39 = .ok (.iload 6, 2) := by decide +kernel
theorem dX6_message_41 : decode cX6_message 41 = .ok (.aload_n 0, 1) := by decide +kernel
theorem dX6_message_42 : decode cX6_message 42 = .ok (.getfield 110, 3) := by decide +kernel
theorem dX6_message_45 : decode cX6_message 45 = .ok (.if_icmp .ge 117, 3) := by decide +kernel
theorem dX6_message_48 : decode cX6_message 48 = .ok (.aload_n 0, 1) := by decide +kernel
theorem dX6_message_49 : decode cX6_message 49 = .ok (.getfield 48, 3) := by decide +kernel
theorem dX6_message_52 : decode cX6_message 52 = .ok (.iload 6, 2) := by decide +kernel
theorem dX6_message_54 : decode cX6_message 54 = .ok (.iaload, 1) := by decide +kernel
theorem dX6_message_55 : decode cX6_message 55 = .ok (.iload_n 1, 1) := by decide +kernel
theorem dX6_message_56 : decode cX6_message 56 = .ok (.if_icmp .ne 100, 3) := by decide +kernel
theorem dX6_message_59 : decode cX6_message 59 = .ok (.aload_n 0, 1) := by decide +kernel
theorem dX6_message_60 : decode cX6_message 60 = .ok (.getfield 51, 3) := by decide +kernel
theorem dX6_message_63 : decode cX6_message 63 = .ok (.iload 6, 2) := by decide +kernel
theorem dX6_message_65 : decode cX6_message 65 = .ok (.iaload, 1) := by decide +kernel
theorem dX6_message_66 : decode cX6_message 66 = .ok (.iload_n 2, 1) := by decide +kernel
theorem dX6_message_67 : decode cX6_message 67 = .ok (.if_icmp .eq 6, 3) := by decide +kernel
theorem dX6_message_70 : decode cX6_message 70 = .ok (.goto 86, 3) := by decide +kernel
theorem dX6_message_73 : decode cX6_message 73 = .ok (.iload 5, 2) := by decide +kernel
theorem dX6_message_75 : decode cX6_message 75 = .ok (.ifCond .le 9, 3) := by decide +kernel
theorem dX6_message_78 : decode cX6_message 78 = .ok (.iinc 5 (-1), 3) := by decide +kernel
theorem dX6_message_81 : decode cX6_message 81 = .ok (.goto 75, 3) := by decide +kernel
theorem dX6_message_84 : decode cX6_message 84 = .ok (.iload 4, 2) := by decide +kernel
theorem dX6_message_86 : decode cX6_message 86 = .ok (.ifCond .ne 13, 3) := by decide +kernel
theorem dX6_message_89 : decode cX6_message 89 = .ok (.aload_n 0, 1) := by decide +kernel
theorem dX6_message_90 : decode cX6_message 90 = .ok (.getfield 54, 3) := by decide +kernel
theorem dX6_message_93 : decode cX6_message 93 = .ok (.iload 6, 2) := by decide +kernel
theorem dX6_message_95 : decode cX6_message 95 = .ok (.iaload, 1) := by decide +kernel
theorem dX6_message_96 : decode cX6_message 96 = .ok (.goto 59, 3) := by decide +kernel
theorem dX6_message_99 : decode cX6_message 99 = .ok (.iload 4, 2) := by decide +kernel
theorem dX6_message_101 : decode cX6_message 101 = .ok (.iconst 1, 1) := by decide +kernel
theorem dX6_message_102 : decode cX6_message 102 = .ok (.if_icmp .ne 30, 3) := by decide +kernel
theorem dX6_message_105 : decode cX6_message 105 = .ok (.bipush 100, 2) := by decide +kernel
theorem dX6_message_107 : decode cX6_message 107 = .ok (.aload_n 0, 1) := by decide +kernel
theorem dX6_message_108 : decode cX6_message 108 = .ok (.getfield 57, 3) := by decide +kernel
theorem dX6_message_111 : decode cX6_message 111 = .ok (.iload 6, 2) := by decide +kernel
theorem dX6_message_113 : decode cX6_message 113 = .ok (.iaload, 1) := by decide +kernel
theorem dX6_message_114 : decode cX6_message 114 = .ok (.bipush 24, 2) := by decide +kernel
theorem dX6_message_116 : decode cX6_message 116 = .ok (.idiv, 1) := by decide +kernel
theorem dX6_message_117 : decode cX6_message 117 = .ok (.imul, 1) := by decide +kernel
theorem dX6_message_118 : decode cX6_message 118 = .ok (.aload_n 0, 1) := by decide +kernel
theorem dX6_message_119 : decode cX6_message 119 = .ok (.getfield 57, 3) := by decide +kernel
theorem dX6_message_122 : decode cX6_message 122 = .ok (.iload 6, 2) := by decide +kernel
theorem dX6_message_124 : decode cX6_message 124 = .ok (.iaload, 1) := by decide +kernel
theorem dX6_message_125 : decode cX6_message 125 = .ok (.bipush 24, 2) := by decide +kernel
theorem dX6_message_127 : decode cX6_message 127 = .ok (.irem, 1) := by decide +kernel
theorem dX6_message_128 : decode cX6_message 128 = .ok (.iadd, 1) := by decide +kernel
theorem dX6_message_129 : decode cX6_message 129 = .ok (.goto 26, 3) := by decide +kernel
theorem dX6_message_132 : decode cX6_message 132 = .ok (.iload 4, 2) := by decide +kernel
theorem dX6_message_134 : decode cX6_message 134 = .ok (.iconst 2, 1) := by decide +kernel
theorem dX6_message_135 : decode cX6_message 135 = .ok (.if_icmp .ne 13, 3) := by decide +kernel
theorem dX6_message_138 : decode cX6_message 138 = .ok (.aload_n 0, 1) := by decide +kernel
theorem dX6_message_139 : decode cX6_message 139 = .ok (.getfield 60, 3) := by decide +kernel
theorem dX6_message_142 : decode cX6_message 142 = .ok (.iload 6, 2) := by decide +kernel
theorem dX6_message_144 : decode cX6_message 144 = .ok (.iaload, 1) := by decide +kernel
theorem dX6_message_145 : decode cX6_message 145 = .ok (.goto 10, 3) := by decide +kernel
theorem dX6_message_148 : decode cX6_message 148 = .ok (.aload_n 0, 1) := by decide +kernel
theorem dX6_message_149 : decode cX6_message 149 = .ok (.getfield 63, 3) := by decide +kernel
theorem dX6_message_152 : decode cX6_message 152 = .ok (.iload 6, 2) := by decide +kernel
theorem dX6_message_154 : decode cX6_message 154 = .ok (.iaload, 1) := by decide +kernel
theorem dX6_message_155 : decode cX6_message 155 = .ok (.ireturn, 1) := by decide +kernel
theorem dX6_message_156 : decode cX6_message 156 = .ok (.iinc 6 1, 3) := by decide +kernel
theorem dX6_message_159 : decode cX6_message 159 = .ok (.goto (-120), 3) := by decide +kernel
theorem dX6_message_162 : decode cX6_message 162 = .ok (.iconst (-1), 1) := by decide +kernel
theorem dX6_message_163 : decode cX6_message 163 = .ok (.ireturn, 1) := by decide +kernel
theorem dX6_count_0 : decode cX6_count 0 = .ok (.iload_n 1, 1) := by decide +kernel
theorem dX6_count_1 : decode cX6_count 1 = .ok (.iconst (-1), 1) := by decide +kernel
theorem dX6_count_2 : decode cX6_count 2 = .ok (.if_icmp .lt 21, 3) := by decide +kernel
theorem dX6_count_5 : decode cX6_count 5 = .ok (.iload_n 1, 1) := by decide +kernel
theorem dX6_count_6 : decode cX6_count 6 = .ok (.aload_n 0, 1) := by decide +kernel
theorem dX6_count_7 : decode cX6_count 7 = .ok (.getfield 87, 3) := by decide +kernel
theorem dX6_count_10 : decode cX6_count 10 = .ok (.if_icmp .ge 13, 3) := by decide +kernel
theorem dX6_count_13 : decode cX6_count 13 = .ok (.iload_n 2, 1) := by decide +kernel
theorem dX6_count_14 : decode cX6_count 14 = .ok (.ifCond .lt 9, 3) := by decide +kernel
theorem dX6_count_17 : decode cX6_count 17 = .ok (.iload_n 2, 1) := by decide +kernel
theorem dX6_count_18 : decode cX6_count 18 = .ok (.bipush 6, 2) := by decide +kernel
theorem dX6_count_20 : decode cX6_count 20 = .ok (.if_icmp .le 5, 3) := by decide +kernel
theorem dX6_count_23 : decode cX6_count 23 = .ok (.iconst (-1), 1) := by decide +kernel
theorem dX6_count_24 : decode cX6_count 24 = .ok (.ireturn, 1) := by decide +kernel
theorem dX6_count_25 : decode cX6_count 25 = .ok (.iconst 0, 1) := by decide +kernel
theorem dX6_count_26 : decode cX6_count 26 = .ok (.istore_n 3, 1) := by decide +kernel
theorem dX6_count_27 : decode cX6_count 27 = .ok (.iload_n 2, 1) := by decide +kernel
theorem dX6_count_28 : decode cX6_count 28 = .ok (.iconst 3, 1) := by decide +kernel
theorem dX6_count_29 : decode cX6_count 29 = .ok (.if_icmp .ne 7, 3) := by decide +kernel
theorem dX6_count_32 : decode cX6_count 32 = .ok (.aload_n 0, 1) := by decide +kernel
theorem dX6_count_33 : decode cX6_count 33 = .ok (.invokevirtual 184, 3) := by decide +kernel
theorem dX6_count_36 : decode cX6_count 36 = .ok (.iconst 0, 1) := by decide +kernel
theorem dX6_count_37 : decode cX6_count 37 = .ok (.istore 4, 2) := by decide +kernel
theorem dX6_count_39 : decode cX6_count 39 = .ok (.iload 4, 2) := by decide +kernel
theorem dX6_count_41 : decode cX6_count 41 = .ok (.aload_n 0, 1) := by decide +kernel
theorem dX6_count_42 : decode cX6_count 42 = .ok (.getfield 87, 3) := by decide +kernel
theorem dX6_count_45 : decode cX6_count 45 = .ok (.if_icmp .ge 204, 3) := by decide +kernel
theorem dX6_count_48 : decode cX6_count 48 = .ok (.iload_n 1, 1) := by decide +kernel
theorem dX6_count_49 : decode cX6_count 49 = .ok (.iconst (-1), 1) := by decide +kernel
theorem dX6_count_50 : decode cX6_count 50 = .ok (.if_icmp .eq 12, 3) := by decide +kernel
theorem dX6_count_53 : decode cX6_count 53 = .ok (.iload 4, 2) := by decide +kernel
theorem dX6_count_55 : decode cX6_count 55 = .ok (.iload_n 1, 1) := by decide +kernel
theorem dX6_count_56 : decode cX6_count 56 = .ok (.if_icmp .eq 6, 3) := by decide +kernel
theorem dX6_count_59 : decode cX6_count 59 = .ok (.goto 184, 3) := by decide +kernel
theorem dX6_count_62 : decode cX6_count 62 = .ok (.iload_n 2, 1) := by decide +kernel
theorem dX6_count_63 : decode cX6_count 63 = .ok (.tableswitch 107 2 6 #[33, 107, 45, 81, 94], 33) := by decide +kernel
theorem dX6_count_96 : decode cX6_count 96 = .ok (.iload_n 3, 1) := by decide +kernel
theorem dX6_count_97 : decode cX6_count 97 = .ok (.aload_n 0, 1) := by decide +kernel
theorem dX6_count_98 : decode cX6_count 98 = .ok (.iload 4, 2) := by decide +kernel
theorem dX6_count_100 : decode cX6_count 100 = .ok (.invokevirtual 117, 3) := by decide +kernel
theorem dX6_count_103 : decode cX6_count 103 = .ok (.iadd, 1) := by decide +kernel
theorem dX6_count_104 : decode cX6_count 104 = .ok (.istore_n 3, 1) := by decide +kernel
theorem dX6_count_105 : decode cX6_count 105 = .ok (.goto 138, 3) := by decide +kernel
theorem dX6_count_108 : decode cX6_count 108 = .ok (.iconst 0, 1) := by decide +kernel
theorem dX6_count_109 : decode cX6_count 109 = .ok (.istore 5, 2) := by decide +kernel
theorem dX6_count_111 : decode cX6_count 111 = .ok (.iload 5, 2) := by decide +kernel
theorem dX6_count_113 : decode cX6_count 113 = .ok (.aload_n 0, 1) := by decide +kernel
theorem dX6_count_114 : decode cX6_count 114 = .ok (.getfield 110, 3) := by decide +kernel
theorem dX6_count_117 : decode cX6_count 117 = .ok (.if_icmp .ge 24, 3) := by decide +kernel
theorem dX6_count_120 : decode cX6_count 120 = .ok (.aload_n 0, 1) := by decide +kernel
theorem dX6_count_121 : decode cX6_count 121 = .ok (.getfield 51, 3) := by decide +kernel
theorem dX6_count_124 : decode cX6_count 124 = .ok (.iload 5, 2) := by decide +kernel
theorem dX6_count_126 : decode cX6_count 126 = .ok (.iaload, 1) := by decide +kernel
theorem dX6_count_127 : decode cX6_count 127 = .ok (.iload 4, 2) := by decide +kernel
theorem dX6_count_129 : decode cX6_count 129 = .ok (.if_icmp .ne 6, 3) := by decide +kernel
theorem dX6_count_132 : decode cX6_count 132 = .ok (.iinc 3 1, 3) := by decide +kernel
theorem dX6_count_135 : decode cX6_count 135 = .ok (.iinc 5 1, 3) := by decide +kernel
theorem dX6_count_138 : decode cX6_count 138 = .ok (.goto (-27), 3) := by decide +kernel
theorem dX6_count_141 : decode cX6_count 141 = .ok (.goto 102, 3) := by decide +kernel
theorem dX6_count_144 : decode cX6_count 144 = .ok (.iload_n 3, 1) := by decide +kernel
theorem dX6_count_145 : decode cX6_count 145 = .ok (.aload_n 0, 1) := by decide +kernel
theorem dX6_count_146 : decode cX6_count 146 = .ok (.getfield 42, 3) := by decide +kernel
theorem dX6_count_149 : decode cX6_count 149 = .ok (.iload 4, 2) := by decide +kernel
theorem dX6_count_151 : decode cX6_count 151 = .ok (.iaload, 1) := by decide +kernel
theorem dX6_count_152 : decode cX6_count 152 = .ok (.iadd, 1) := by decide +kernel
theorem dX6_count_153 : decode cX6_count 153 = .ok (.istore_n 3, 1) := by decide +kernel
theorem dX6_count_154 : decode cX6_count 154 = .ok (.goto 89, 3) := by decide +kernel
theorem dX6_count_157 : decode cX6_count 157 = .ok (.iload_n 3, 1) := by decide +kernel
theorem dX6_count_158 : decode cX6_count 158 = .ok (.aload_n 0, 1) := by decide +kernel
theorem dX6_count_159 : decode cX6_count 159 = .ok (.getfield 45, 3) := by decide +kernel
theorem dX6_count_162 : decode cX6_count 162 = .ok (.iload 4, 2) := by decide +kernel
theorem dX6_count_164 : decode cX6_count 164 = .ok (.iaload, 1) := by decide +kernel
theorem dX6_count_165 : decode cX6_count 165 = .ok (.iadd, 1) := by decide +kernel
theorem dX6_count_166 : decode cX6_count 166 = .ok (.istore_n 3, 1) := by decide +kernel
theorem dX6_count_167 : decode cX6_count 167 = .ok (.goto 76, 3) := by decide +kernel
theorem dX6_count_170 : decode cX6_count 170 = .ok (.bipush 24, 2) := by decide +kernel
theorem dX6_count_172 : decode cX6_count 172 = .ok (.iload 4, 2) := by decide +kernel
theorem dX6_count_174 : decode cX6_count 174 = .ok (.imul, 1) := by decide +kernel
theorem dX6_count_175 : decode cX6_count 175 = .ok (.istore 5, 2) := by decide +kernel
theorem dX6_count_177 : decode cX6_count 177 = .ok (.iload 5, 2) := by decide +kernel
theorem dX6_count_179 : decode cX6_count 179 = .ok (.bipush 24, 2) := by decide +kernel
theorem dX6_count_181 : decode cX6_count 181 = .ok (.iload 4, 2) := by decide +kernel
theorem dX6_count_183 : decode cX6_count 183 = .ok (.imul, 1) := by decide +kernel
theorem dX6_count_184 : decode cX6_count 184 = .ok (.bipush 24, 2) := by decide +kernel
theorem dX6_count_186 : decode cX6_count 186 = .ok (.iadd, 1) := by decide +kernel
theorem dX6_count_187 : decode cX6_count 187 = .ok (.if_icmp .ge 56, 3) := by decide +kernel
theorem dX6_count_190 : decode cX6_count 190 = .ok (.aload_n 0, 1) := by decide +kernel
theorem dX6_count_191 : decode cX6_count 191 = .ok (.getfield 23, 3) := by decide +kernel
theorem dX6_count_194 : decode cX6_count 194 = .ok (.iload 5, 2) := by decide +kernel
theorem dX6_count_196 : decode cX6_count 196 = .ok (.baload, 1) := by decide +kernel
theorem dX6_count_197 : decode cX6_count 197 = .ok (.ifCond .eq 40, 3) := by decide +kernel
theorem dX6_count_200 : decode cX6_count 200 = .ok (.iload_n 2, 1) := by decide +kernel
theorem dX6_count_201 : decode cX6_count 201 = .ok (.ifCond .eq 33, 3) := by decide +kernel
theorem dX6_count_204 : decode cX6_count 204 = .ok (.iload_n 2, 1) := by decide +kernel
theorem dX6_count_205 : decode cX6_count 205 = .ok (.iconst 1, 1) := by decide +kernel
theorem dX6_count_206 : decode cX6_count 206 = .ok (.if_icmp .ne 13, 3) := by decide +kernel
theorem dX6_count_209 : decode cX6_count 209 = .ok (.aload_n 0, 1) := by decide +kernel
theorem dX6_count_210 : decode cX6_count 210 = .ok (.getfield 20, 3) := by decide +kernel
theorem dX6_count_213 : decode cX6_count 213 = .ok (.iload 5, 2) := by decide +kernel
theorem dX6_count_215 : decode cX6_count 215 = .ok (.iaload, 1) := by decide +kernel
theorem dX6_count_216 : decode cX6_count 216 = .ok (.ifCond .gt 18, 3) := by decide +kernel
theorem dX6_count_219 : decode cX6_count 219 = .ok (.iload_n 2, 1) := by decide +kernel
theorem dX6_count_220 : decode cX6_count 220 = .ok (.iconst 3, 1) := by decide +kernel
theorem dX6_count_221 : decode cX6_count 221 = .ok (.if_icmp .ne 16, 3) := by decide +kernel
theorem dX6_count_224 : decode cX6_count 224 = .ok (.aload_n 0, 1) := by decide +kernel
theorem dX6_count_225 : decode cX6_count 225 = .ok (.getfield 84, 3) := by decide +kernel
theorem dX6_count_228 : decode cX6_count 228 = .ok (.iload 5, 2) := by decide +kernel
theorem dX6_count_230 : decode cX6_count 230 = .ok (.baload, 1) := by decide +kernel
theorem dX6_count_231 : decode cX6_count 231 = .ok (.ifCond .ne 6, 3) := by decide +kernel
theorem dX6_count_234 : decode cX6_count 234 = .ok (.iinc 3 1, 3) := by decide +kernel
theorem dX6_count_237 : decode cX6_count 237 = .ok (.iinc 5 1, 3) := by decide +kernel
theorem dX6_count_240 : decode cX6_count 240 = .ok (.goto (-63), 3) := by decide +kernel
theorem dX6_count_243 : decode cX6_count 243 = .ok (.iinc 4 1, 3) := by decide +kernel
theorem dX6_count_246 : decode cX6_count 246 = .ok (.goto (-207), 3) := by decide +kernel
theorem dX6_count_249 : decode cX6_count 249 = .ok (.iload_n 3, 1) := by decide +kernel
theorem dX6_count_250 : decode cX6_count 250 = .ok (.ireturn, 1) := by decide +kernel
theorem dX6_isEven_0 : decode cX6_isEven 0 = .ok (.iconst 0, 1) := by decide +kernel
theorem dX6_isEven_1 : decode cX6_isEven 1 = .ok (.istore_n 1, 1) := by decide +kernel
theorem dX6_isEven_2 : decode cX6_isEven 2 = .ok (.iload_n 1, 1) := by decide +kernel
theorem dX6_isEven_3 : decode cX6_isEven 3 = .ok (.bipush 120, 2) := by decide +kernel
theorem dX6_isEven_5 : decode cX6_isEven 5 = .ok (.if_icmp .ge 111, 3) := by decide +kernel
theorem dX6_isEven_8 : decode cX6_isEven 8 = .ok (.iconst 0, 1) := by decide +kernel
theorem dX6_isEven_9 : decode cX6_isEven 9 = .ok (.istore_n 2, 1) := by decide +kernel
theorem dX6_isEven_10 : decode cX6_isEven 10 = .ok (.iconst 0, 1) := by decide +kernel
theorem dX6_isEven_11 : decode cX6_isEven 11 = .ok (.istore_n 3, 1) := by decide +kernel
theorem dX6_isEven_12 : decode cX6_isEven 12 = .ok (.iload_n 3, 1) := by decide +kernel
theorem dX6_isEven_13 : decode cX6_isEven 13 = .ok (.aload_n 0, 1) := by decide +kernel
theorem dX6_isEven_14 : decode cX6_isEven 14 = .ok (.getfield 87, 3) := by decide +kernel
theorem dX6_isEven_17 : decode cX6_isEven 17 = .ok (.if_icmp .ge 23, 3) := by decide +kernel
theorem dX6_isEven_20 : decode cX6_isEven 20 = .ok (.iload_n 2, 1) := by decide +kernel
theorem dX6_isEven_21 : decode cX6_isEven 21 = .ok (.aload_n 0, 1) := by decide +kernel
theorem dX6_isEven_22 : decode cX6_isEven 22 = .ok (.getfield 39, 3) := by decide +kernel
theorem dX6_isEven_25 : decode cX6_isEven 25 = .ok (.bipush 120, 2) := by decide +kernel
theorem dX6_isEven_27 : decode cX6_isEven 27 = .ok (.iload_n 3, 1) := by decide +kernel
theorem dX6_isEven_28 : decode cX6_isEven 28 = .ok (.imul, 1) := by decide +kernel
theorem dX6_isEven_29 : decode cX6_isEven 29 = .ok (.iload_n 1, 1) := by decide +kernel
theorem dX6_isEven_30 : decode cX6_isEven 30 = .ok (.iadd, 1) := by decide +kernel
theorem dX6_isEven_31 : decode cX6_isEven 31 = .ok (.iaload, 1) := by decide +kernel
theorem dX6_isEven_32 : decode cX6_isEven 32 = .ok (.iadd, 1) := by decide +kernel
theorem dX6_isEven_33 : decode cX6_isEven 33 = .ok (.istore_n 2, 1) := by decide +kernel
theorem dX6_isEven_34 : decode cX6_isEven 34 = .ok (.iinc 3 1, 3) := by decide +kernel
theorem dX6_isEven_37 : decode cX6_isEven 37 = .ok (.goto (-25), 3) := by decide +kernel
theorem dX6_isEven_40 : decode cX6_isEven 40 = .ok (.iconst 0, 1) := by decide +kernel
theorem dX6_isEven_41 : decode cX6_isEven 41 = .ok (.istore_n 3, 1) := by decide +kernel
theorem dX6_isEven_42 : decode cX6_isEven 42 = .ok (.iload_n 3, 1) := by decide +kernel
theorem dX6_isEven_43 : decode cX6_isEven 43 = .ok (.aload_n 0, 1) := by decide +kernel
theorem dX6_isEven_44 : decode cX6_isEven 44 = .ok (.getfield 110, 3) := by decide +kernel
theorem dX6_isEven_47 : decode cX6_isEven 47 = .ok (.if_icmp .ge 38, 3) := by decide +kernel
theorem dX6_isEven_50 : decode cX6_isEven 50 = .ok (.aload_n 0, 1) := by decide +kernel
theorem dX6_isEven_51 : decode cX6_isEven 51 = .ok (.getfield 57, 3) := by decide +kernel
theorem dX6_isEven_54 : decode cX6_isEven 54 = .ok (.iload_n 3, 1) := by decide +kernel
theorem dX6_isEven_55 : decode cX6_isEven 55 = .ok (.iaload, 1) := by decide +kernel
theorem dX6_isEven_56 : decode cX6_isEven 56 = .ok (.iload_n 1, 1) := by decide +kernel
theorem dX6_isEven_57 : decode cX6_isEven 57 = .ok (.if_icmp .ne 22, 3) := by decide +kernel
theorem dX6_isEven_60 : decode cX6_isEven 60 = .ok (.aload_n 0, 1) := by decide +kernel
theorem dX6_isEven_61 : decode cX6_isEven 61 = .ok (.getfield 54, 3) := by decide +kernel
theorem dX6_isEven_64 : decode cX6_isEven 64 = .ok (.iload_n 3, 1) := by decide +kernel
theorem dX6_isEven_65 : decode cX6_isEven 65 = .ok (.iaload, 1) := by decide +kernel
theorem dX6_isEven_66 : decode cX6_isEven 66 = .ok (.iconst 3, 1) := by decide +kernel
theorem dX6_isEven_67 : decode cX6_isEven 67 = .ok (.if_icmp .eq 12, 3) := by decide +kernel
theorem dX6_isEven_70 : decode cX6_isEven 70 = .ok (.iload_n 2, 1) := by decide +kernel
theorem dX6_isEven_71 : decode cX6_isEven 71 = .ok (.aload_n 0, 1) := by decide +kernel
theorem dX6_isEven_72 : decode cX6_isEven 72 = .ok (.getfield 60, 3) := by decide +kernel
theorem dX6_isEven_75 : decode cX6_isEven 75 = .ok (.iload_n 3, 1) := by decide +kernel
theorem dX6_isEven_76 : decode cX6_isEven 76 = .ok (.iaload, 1) := by decide +kernel
theorem dX6_isEven_77 : decode cX6_isEven 77 = .ok (.iadd, 1) := by decide +kernel
theorem dX6_isEven_78 : decode cX6_isEven 78 = .ok (.istore_n 2, 1) := by decide +kernel
theorem dX6_isEven_79 : decode cX6_isEven 79 = .ok (.iinc 3 1, 3) := by decide +kernel
theorem dX6_isEven_82 : decode cX6_isEven 82 = .ok (.goto (-40), 3) := by decide +kernel
theorem dX6_isEven_85 : decode cX6_isEven 85 = .ok (.aload_n 0, 1) := by decide +kernel
theorem dX6_isEven_86 : decode cX6_isEven 86 = .ok (.getfield 23, 3) := by decide +kernel
theorem dX6_isEven_89 : decode cX6_isEven 89 = .ok (.iload_n 1, 1) := by decide +kernel
theorem dX6_isEven_90 : decode cX6_isEven 90 = .ok (.baload, 1) := by decide +kernel
theorem dX6_isEven_91 : decode cX6_isEven 91 = .ok (.ifCond .eq 12, 3) := by decide +kernel
theorem dX6_isEven_94 : decode cX6_isEven 94 = .ok (.aload_n 0, 1) := by decide +kernel
theorem dX6_isEven_95 : decode cX6_isEven 95 = .ok (.getfield 20, 3) := by decide +kernel
theorem dX6_isEven_98 : decode cX6_isEven 98 = .ok (.iload_n 1, 1) := by decide +kernel
theorem dX6_isEven_99 : decode cX6_isEven 99 = .ok (.iaload, 1) := by decide +kernel
theorem dX6_isEven_100 : decode cX6_isEven 100 = .ok (.goto 4, 3) := by decide +kernel
theorem dX6_isEven_103 : decode cX6_isEven 103 = .ok (.iconst 0, 1) := by decide +kernel
theorem dX6_isEven_104 : decode cX6_isEven 104 = .ok (.iload_n 2, 1) := by decide +kernel
theorem dX6_isEven_105 : decode cX6_isEven 105 = .ok (.if_icmp .eq 5, 3) := by decide +kernel
theorem dX6_isEven_108 : decode cX6_isEven 108 = .ok (.iconst 0, 1) := by decide +kernel
theorem dX6_isEven_109 : decode cX6_isEven 109 = .ok (.ireturn, 1) := by decide +kernel
theorem dX6_isEven_110 : decode cX6_isEven 110 = .ok (.iinc 1 1, 3) := by decide +kernel
theorem dX6_isEven_113 : decode cX6_isEven 113 = .ok (.goto (-111), 3) := by decide +kernel
theorem dX6_isEven_116 : decode cX6_isEven 116 = .ok (.iconst 1, 1) := by decide +kernel
theorem dX6_isEven_117 : decode cX6_isEven 117 = .ok (.ireturn, 1) := by decide +kernel
theorem dJ9_max_7cf53_0 : decode cJ9_max_7cf53 0 = .ok (.iload_n 0, 1) := by decide +kernel
theorem dJ9_max_7cf53_1 : decode cJ9_max_7cf53 1 = .ok (.iload_n 1, 1) := by decide +kernel
theorem dJ9_max_7cf53_2 : decode cJ9_max_7cf53 2 = .ok (.if_icmp .lt 7, 3) := by decide +kernel
theorem dJ9_max_7cf53_5 : decode cJ9_max_7cf53 5 = .ok (.iload_n 0, 1) := by decide +kernel
theorem dJ9_max_7cf53_6 : decode cJ9_max_7cf53 6 = .ok (.goto 4, 3) := by decide +kernel
theorem dJ9_max_7cf53_9 : decode cJ9_max_7cf53 9 = .ok (.iload_n 1, 1) := by decide +kernel
theorem dJ9_max_7cf53_10 : decode cJ9_max_7cf53 10 = .ok (.ireturn, 1) := by decide +kernel
theorem dJ9_min_7cf53_0 : decode cJ9_min_7cf53 0 = .ok (.iload_n 0, 1) := by decide +kernel
theorem dJ9_min_7cf53_1 : decode cJ9_min_7cf53 1 = .ok (.iload_n 1, 1) := by decide +kernel
theorem dJ9_min_7cf53_2 : decode cJ9_min_7cf53 2 = .ok (.if_icmp .gt 7, 3) := by decide +kernel
theorem dJ9_min_7cf53_5 : decode cJ9_min_7cf53 5 = .ok (.iload_n 0, 1) := by decide +kernel
theorem dJ9_min_7cf53_6 : decode cJ9_min_7cf53 6 = .ok (.goto 4, 3) := by decide +kernel
theorem dJ9_min_7cf53_9 : decode cJ9_min_7cf53 9 = .ok (.iload_n 1, 1) := by decide +kernel
theorem dJ9_min_7cf53_10 : decode cJ9_min_7cf53 10 = .ok (.ireturn, 1) := by decide +kernel
theorem dJ7_fill_53178_0 : decode cJ7_fill_53178 0 = .ok (.iconst 0, 1) := by decide +kernel
theorem dJ7_fill_53178_1 : decode cJ7_fill_53178 1 = .ok (.istore_n 2, 1) := by decide +kernel
