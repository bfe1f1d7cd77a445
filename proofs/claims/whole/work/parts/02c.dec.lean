theorem dX5_come_143 : decode cX5_come 143 = .ok (.goto 49, 3) := by decide +kernel
theorem dX5_come_146 : decode cX5_come 146 = .ok (.iload 4, 2) := by decide +kernel
theorem dX5_come_148 : decode cX5_come 148 = .ok (.iconst 3, 1) := by decide +kernel
theorem dX5_come_149 : decode cX5_come 149 = .ok (.if_icmp .ne 34, 3) := by decide +kernel
theorem dX5_come_152 : decode cX5_come 152 = .ok (.aload_n 0, 1) := by decide +kernel
theorem dX5_come_153 : decode cX5_come 153 = .ok (.getfield 20, 3) := by decide +kernel
theorem dX5_come_156 : decode cX5_come 156 = .ok (.iload_n 2, 1) := by decide +kernel
theorem dX5_come_157 : decode cX5_come 157 = .ok (.aaload, 1) := by decide +kernel
theorem dX5_come_158 : decode cX5_come 158 = .ok (.iload 5, 2) := by decide +kernel
theorem dX5_come_160 : decode cX5_come 160 = .ok (.bipush 64, 2) := by decide +kernel
theorem dX5_come_162 : decode cX5_come 162 = .ok (.invokevirtual 137, 3) := by decide +kernel
theorem dX5_come_165 : decode cX5_come 165 = .ok (.aload_n 0, 1) := by decide +kernel
theorem dX5_come_166 : decode cX5_come 166 = .ok (.getfield 30, 3) := by decide +kernel
theorem dX5_come_169 : decode cX5_come 169 = .ok (.iconst 4, 1) := by decide +kernel
theorem dX5_come_170 : decode cX5_come 170 = .ok (.iload_n 2, 1) := by decide +kernel
theorem dX5_come_171 : decode cX5_come 171 = .ok (.iload_n 1, 1) := by decide +kernel
theorem dX5_come_172 : decode cX5_come 172 = .ok (.iload 5, 2) := by decide +kernel
theorem dX5_come_174 : decode cX5_come 174 = .ok (.bipush 64, 2) := by decide +kernel
theorem dX5_come_176 : decode cX5_come 176 = .ok (.iconst (-1), 1) := by decide +kernel
theorem dX5_come_177 : decode cX5_come 177 = .ok (.invokevirtual 98, 3) := by decide +kernel
theorem dX5_come_180 : decode cX5_come 180 = .ok (.goto 12, 3) := by decide +kernel
theorem dX5_come_183 : decode cX5_come 183 = .ok (.aload_n 0, 1) := by decide +kernel
theorem dX5_come_184 : decode cX5_come 184 = .ok (.iload_n 2, 1) := by decide +kernel
theorem dX5_come_185 : decode cX5_come 185 = .ok (.iload 5, 2) := by decide +kernel
theorem dX5_come_187 : decode cX5_come 187 = .ok (.iload 6, 2) := by decide +kernel
theorem dX5_come_189 : decode cX5_come 189 = .ok (.invokevirtual 140, 3) := by decide +kernel
theorem dX5_come_192 : decode cX5_come 192 = .ok (.iload 4, 2) := by decide +kernel
theorem dX5_come_194 : decode cX5_come 194 = .ok (.ireturn, 1) := by decide +kernel
theorem dX5_drain_0 : decode cX5_drain 0 = .ok (.iload_n 1, 1) := by decide +kernel
theorem dX5_drain_1 : decode cX5_drain 1 = .ok (.ifCond .lt 10, 3) := by decide +kernel
theorem dX5_drain_4 : decode cX5_drain 4 = .ok (.iload_n 1, 1) := by decide +kernel
theorem dX5_drain_5 : decode cX5_drain 5 = .ok (.sipush 1000, 3) := by decide +kernel
theorem dX5_drain_8 : decode cX5_drain 8 = .ok (.if_icmp .le 5, 3) := by decide +kernel
theorem dX5_drain_11 : decode cX5_drain 11 = .ok (.iconst (-1), 1) := by decide +kernel
theorem dX5_drain_12 : decode cX5_drain 12 = .ok (.ireturn, 1) := by decide +kernel
theorem dX5_drain_13 : decode cX5_drain 13 = .ok (.iconst 0, 1) := by decide +kernel
theorem dX5_drain_14 : decode cX5_drain 14 = .ok (.istore_n 2, 1) := by decide +kernel
theorem dX5_drain_15 : decode cX5_drain 15 = .ok (.iload_n 2, 1) := by decide +kernel
theorem dX5_drain_16 : decode cX5_drain 16 = .ok (.iload_n 1, 1) := by decide +kernel
theorem dX5_drain_17 : decode cX5_drain 17 = .ok (.if_icmp .ge 16, 3) := by decide +kernel
theorem dX5_drain_20 : decode cX5_drain 20 = .ok (.aload_n 0, 1) := by decide +kernel
theorem dX5_drain_21 : decode cX5_drain 21 = .ok (.invokevirtual 143, 3) := by decide +kernel
theorem dX5_drain_24 : decode cX5_drain 24 = .ok (.ifCond .eq 9, 3) := by decide +kernel
theorem dX5_drain_27 : decode cX5_drain 27 = .ok (.iinc 2 1, 3) := by decide +kernel
theorem dX5_drain_30 : decode cX5_drain 30 = .ok (.goto (-15), 3) := by decide +kernel
theorem dX5_drain_33 : decode cX5_drain 33 = .ok (.iload_n 2, 1) := by decide +kernel
theorem dX5_drain_34 : decode cX5_drain 34 = .ok (.ireturn, 1) := by decide +kernel
theorem dX5_collect_0 : decode cX5_collect 0 = .ok (.aload_n 0, 1) := by decide +kernel
theorem dX5_collect_1 : decode cX5_collect 1 = .ok (.iload_n 1, 1) := by decide +kernel
theorem dX5_collect_2 : decode cX5_collect 2 = .ok (.invokevirtual 48, 3) := by decide +kernel
theorem dX5_collect_5 : decode cX5_collect 5 = .ok (.ifCond .ne 5, 3) := by decide +kernel
theorem dX5_collect_8 : decode cX5_collect 8 = .ok (.iconst (-1), 1) := by decide +kernel
theorem dX5_collect_9 : decode cX5_collect 9 = .ok (.ireturn, 1) := by decide +kernel
theorem dX5_collect_10 : decode cX5_collect 10 = .ok (.aload_n 0, 1) := by decide +kernel
theorem dX5_collect_11 : decode cX5_collect 11 = .ok (.getfield 20, 3) := by decide +kernel
theorem dX5_collect_14 : decode cX5_collect 14 = .ok (.iload_n 1, 1) := by decide +kernel
theorem dX5_collect_15 : decode cX5_collect 15 = .ok (.aaload, 1) := by decide +kernel
theorem dX5_collect_16 : decode cX5_collect 16 = .ok (.astore_n 2, 1) := by decide +kernel
theorem dX5_collect_17 : decode cX5_collect 17 = .ok (.aload_n 2, 1) := by decide +kernel
theorem dX5_collect_18 : decode cX5_collect 18 = .ok (.aload_n 0, 1) := by decide +kernel
theorem dX5_collect_19 : decode cX5_collect 19 = .ok (.getfield 37, 3) := by decide +kernel
theorem dX5_collect_22 : decode cX5_collect 22 = .ok (.invokevirtual 146, 3) := by decide +kernel
theorem dX5_collect_25 : decode cX5_collect 25 = .ok (.aload_n 2, 1) := by decide +kernel
theorem dX5_collect_26 : decode cX5_collect 26 = .ok (.aload_n 0, 1) := by decide +kernel
theorem dX5_collect_27 : decode cX5_collect 27 = .ok (.getfield 37, 3) := by decide +kernel
theorem dX5_collect_30 : decode cX5_collect 30 = .ok (.invokevirtual 150, 3) := by decide +kernel
theorem dX5_collect_33 : decode cX5_collect 33 = .ok (.aload_n 0, 1) := by decide +kernel
theorem dX5_collect_34 : decode cX5_collect 34 = .ok (.getfield 30, 3) := by decide +kernel
theorem dX5_collect_37 : decode cX5_collect 37 = .ok (.getfield 154, 3) := by decide +kernel
theorem dX5_collect_40 : decode cX5_collect 40 = .ok (.iadd, 1) := by decide +kernel
theorem dX5_collect_41 : decode cX5_collect 41 = .ok (.bipush 60, 2) := by decide +kernel
theorem dX5_collect_43 : decode cX5_collect 43 = .ok (.if_icmp .le 6, 3) := by decide +kernel
theorem dX5_collect_46 : decode cX5_collect 46 = .ok (.bipush (-2), 2) := by decide +kernel
theorem dX5_collect_48 : decode cX5_collect 48 = .ok (.ireturn, 1) := by decide +kernel
theorem dX5_collect_49 : decode cX5_collect 49 = .ok (.aload_n 2, 1) := by decide +kernel
theorem dX5_collect_50 : decode cX5_collect 50 = .ok (.aload_n 0, 1) := by decide +kernel
theorem dX5_collect_51 : decode cX5_collect 51 = .ok (.getfield 37, 3) := by decide +kernel
theorem dX5_collect_54 : decode cX5_collect 54 = .ok (.aload_n 0, 1) := by decide +kernel
theorem dX5_collect_55 : decode cX5_collect 55 = .ok (.getfield 30, 3) := by decide +kernel
theorem dX5_collect_58 : decode cX5_collect 58 = .ok (.invokevirtual 157, 3) := by decide +kernel
theorem dX5_collect_61 : decode cX5_collect 61 = .ok (.aload_n 2, 1) := by decide +kernel
theorem dX5_collect_62 : decode cX5_collect 62 = .ok (.aload_n 0, 1) := by decide +kernel
theorem dX5_collect_63 : decode cX5_collect 63 = .ok (.getfield 37, 3) := by decide +kernel
theorem dX5_collect_66 : decode cX5_collect 66 = .ok (.invokevirtual 161, 3) := by decide +kernel
theorem dX5_collect_69 : decode cX5_collect 69 = .ok (.ireturn, 1) := by decide +kernel
theorem dX5_trial_0 : decode cX5_trial 0 = .ok (.aload_n 0, 1) := by decide +kernel
theorem dX5_trial_1 : decode cX5_trial 1 = .ok (.iload_n 1, 1) := by decide +kernel
theorem dX5_trial_2 : decode cX5_trial 2 = .ok (.iload_n 2, 1) := by decide +kernel
theorem dX5_trial_3 : decode cX5_trial 3 = .ok (.invokevirtual 164, 3) := by decide +kernel
theorem dX5_trial_6 : decode cX5_trial 6 = .ok (.ifCond .eq 27, 3) := by decide +kernel
theorem dX5_trial_9 : decode cX5_trial 9 = .ok (.aload_n 0, 1) := by decide +kernel
theorem dX5_trial_10 : decode cX5_trial 10 = .ok (.getfield 20, 3) := by decide +kernel
theorem dX5_trial_13 : decode cX5_trial 13 = .ok (.iload_n 1, 1) := by decide +kernel
theorem dX5_trial_14 : decode cX5_trial 14 = .ok (.aaload, 1) := by decide +kernel
theorem dX5_trial_15 : decode cX5_trial 15 = .ok (.getfield 168, 3) := by decide +kernel
theorem dX5_trial_18 : decode cX5_trial 18 = .ok (.iload_n 2, 1) := by decide +kernel
theorem dX5_trial_19 : decode cX5_trial 19 = .ok (.iaload, 1) := by decide +kernel
theorem dX5_trial_20 : decode cX5_trial 20 = .ok (.ifCond .eq 13, 3) := by decide +kernel
theorem dX5_trial_23 : decode cX5_trial 23 = .ok (.aload_n 0, 1) := by decide +kernel
theorem dX5_trial_24 : decode cX5_trial 24 = .ok (.getfield 30, 3) := by decide +kernel
theorem dX5_trial_27 : decode cX5_trial 27 = .ok (.getfield 154, 3) := by decide +kernel
theorem dX5_trial_30 : decode cX5_trial 30 = .ok (.ifCond .le 5, 3) := by decide +kernel
theorem dX5_trial_33 : decode cX5_trial 33 = .ok (.iconst (-1), 1) := by decide +kernel
theorem dX5_trial_34 : decode cX5_trial 34 = .ok (.ireturn, 1) := by decide +kernel
theorem dX5_trial_35 : decode cX5_trial 35 = .ok (.aload_n 0, 1) := by decide +kernel
theorem dX5_trial_36 : decode cX5_trial 36 = .ok (.getfield 44, 3) := by decide +kernel
theorem dX5_trial_39 : decode cX5_trial 39 = .ok (.aload_n 0, 1) := by decide +kernel
theorem dX5_trial_40 : decode cX5_trial 40 = .ok (.getfield 20, 3) := by decide +kernel
theorem dX5_trial_43 : decode cX5_trial 43 = .ok (.iload_n 1, 1) := by decide +kernel
theorem dX5_trial_44 : decode cX5_trial 44 = .ok (.iload_n 2, 1) := by decide +kernel
theorem dX5_trial_45 : decode cX5_trial 45 = .ok (.invokestatic 66, 3) := by decide +kernel
theorem dX5_trial_48 : decode cX5_trial 48 = .ok (.aload_n 0, 1) := by decide +kernel
theorem dX5_trial_49 : decode cX5_trial 49 = .ok (.getfield 30, 3) := by decide +kernel
theorem dX5_trial_52 : decode cX5_trial 52 = .ok (.invokevirtual 171, 3) := by decide +kernel
theorem dX5_trial_55 : decode cX5_trial 55 = .ok (.ireturn, 1) := by decide +kernel
theorem dX5_settle_0 : decode cX5_settle 0 = .ok (.iconst 0, 1) := by decide +kernel
theorem dX5_settle_1 : decode cX5_settle 1 = .ok (.istore_n 1, 1) := by decide +kernel
theorem dX5_settle_2 : decode cX5_settle 2 = .ok (.iconst 0, 1) := by decide +kernel
theorem dX5_settle_3 : decode cX5_settle 3 = .ok (.istore_n 2, 1) := by decide +kernel
theorem dX5_settle_4 : decode cX5_settle 4 = .ok (.iload_n 2, 1) := by decide +kernel
theorem dX5_settle_5 : decode cX5_settle 5 = .ok (.ldc 175, 2) := by decide +kernel
theorem dX5_settle_7 : decode cX5_settle 7 = .ok (.if_icmp .ge 100, 3) := by decide +kernel
theorem dX5_settle_10 : decode cX5_settle 10 = .ok (.aload_n 0, 1) := by decide +kernel
theorem dX5_settle_11 : decode cX5_settle 11 = .ok (.sipush 1000, 3) := by decide +kernel
theorem dX5_settle_14 : decode cX5_settle 14 = .ok (.invokevirtual 176, 3) := by decide +kernel
theorem dX5_settle_17 : decode cX5_settle 17 = .ok (.istore_n 3, 1) := by decide +kernel
theorem dX5_settle_18 : decode cX5_settle 18 = .ok (.aload_n 0, 1) := by decide +kernel
theorem dX5_settle_19 : decode cX5_settle 19 = .ok (.getfield 30, 3) := by decide +kernel
theorem dX5_settle_22 : decode cX5_settle 22 = .ok (.getfield 154, 3) := by decide +kernel
theorem dX5_settle_25 : decode cX5_settle 25 = .ok (.istore 4, 2) := by decide +kernel
theorem dX5_settle_27 : decode cX5_settle 27 = .ok (.iconst 0, 1) := by decide +kernel
theorem dX5_settle_28 : decode cX5_settle 28 = .ok (.istore 5, 2) := by decide +kernel
theorem dX5_settle_30 : decode cX5_settle 30 = .ok (.iconst 0, 1) := by decide +kernel
theorem dX5_settle_31 : decode cX5_settle 31 = .ok (.istore 6, 2) := by decide +kernel
theorem dX5_settle_33 : decode cX5_settle 33 = .ok (.iload 6, 2) := by decide +kernel
theorem dX5_settle_35 : decode cX5_settle 35 = .ok (.aload_n 0, 1) := by decide +kernel
theorem dX5_settle_36 : decode cX5_settle 36 = .ok (.getfield 20, 3) := by decide +kernel
theorem dX5_settle_39 : decode cX5_settle 39 = .ok (.arraylength, 1) := by decide +kernel
theorem dX5_settle_40 : decode cX5_settle 40 = .ok (.if_icmp .ge 32, 3) := by decide +kernel
theorem dX5_settle_43 : decode cX5_settle 43 = .ok (.aload_n 0, 1) := by decide +kernel
theorem dX5_settle_44 : decode cX5_settle 44 = .ok (.iload 6, 2) := by decide +kernel
theorem dX5_settle_46 : decode cX5_settle 46 = .ok (.invokevirtual 179, 3) := by decide +kernel
theorem dX5_settle_49 : decode cX5_settle 49 = .ok (.istore 7, 2) := by decide +kernel
theorem dX5_settle_51 : decode cX5_settle 51 = .ok (.iload 7, 2) := by decide +kernel
theorem dX5_settle_53 : decode cX5_settle 53 = .ok (.ifCond .ge 6, 3) := by decide +kernel
theorem dX5_settle_56 : decode cX5_settle 56 = .ok (.bipush (-2), 2) := by decide +kernel
theorem dX5_settle_58 : decode cX5_settle 58 = .ok (.ireturn, 1) := by decide +kernel
theorem dX5_settle_59 : decode cX5_settle 59 = .ok (.iload 5, 2) := by decide +kernel
theorem dX5_settle_61 : decode cX5_settle 61 = .ok (.iload 7, 2) := by decide +kernel
theorem dX5_settle_63 : decode cX5_settle 63 = .ok (.iadd, 1) := by decide +kernel
theorem dX5_settle_64 : decode cX5_settle 64 = .ok (.istore 5, 2) := by decide +kernel
theorem dX5_settle_66 : decode cX5_settle 66 = .ok (.iinc 6 1, 3) := by decide +kernel
theorem dX5_settle_69 : decode cX5_settle 69 = .ok (.goto (-36), 3) := by decide +kernel
theorem dX5_settle_72 : decode cX5_settle 72 = .ok (.iload_n 1, 1) := by decide +kernel
theorem dX5_settle_73 : decode cX5_settle 73 = .ok (.iload 5, 2) := by decide +kernel
theorem dX5_settle_75 : decode cX5_settle 75 = .ok (.iadd, 1) := by decide +kernel
theorem dX5_settle_76 : decode cX5_settle 76 = .ok (.istore_n 1, 1) := by decide +kernel
theorem dX5_settle_77 : decode cX5_settle 77 = .ok (.iload_n 3, 1) := by decide +kernel
theorem dX5_settle_78 : decode cX5_settle 78 = .ok (.ifCond .ne 23, 3) := by decide +kernel
theorem dX5_settle_81 : decode cX5_settle 81 = .ok (.aload_n 0, 1) := by decide +kernel
theorem dX5_settle_82 : decode cX5_settle 82 = .ok (.getfield 30, 3) := by decide +kernel
theorem dX5_settle_85 : decode cX5_settle 85 = .ok (.getfield 154, 3) := by decide +kernel
theorem dX5_settle_88 : decode cX5_settle 88 = .ok (.iload 4, 2) := by decide +kernel
theorem dX5_settle_90 : decode cX5_settle 90 = .ok (.if_icmp .ne 11, 3) := by decide +kernel
theorem dX5_settle_93 : decode cX5_settle 93 = .ok (.iload 5, 2) := by decide +kernel
theorem dX5_settle_95 : decode cX5_settle 95 = .ok (.ifCond .ne 6, 3) := by decide +kernel
theorem dX5_settle_98 : decode cX5_settle 98 = .ok (.goto 9, 3) := by decide +kernel
theorem dX5_settle_101 : decode cX5_settle 101 = .ok (.iinc 2 1, 3) := by decide +kernel
theorem dX5_settle_104 : decode cX5_settle 104 = .ok (.goto (-100), 3) := by decide +kernel
theorem dX5_settle_107 : decode cX5_settle 107 = .ok (.aload_n 0, 1) := by decide +kernel
theorem dX5_settle_108 : decode cX5_settle 108 = .ok (.getfield 30, 3) := by decide +kernel
theorem dX5_settle_111 : decode cX5_settle 111 = .ok (.getfield 154, 3) := by decide +kernel
theorem dX5_settle_114 : decode cX5_settle 114 = .ok (.ifCond .le 8, 3) := by decide +kernel
theorem dX5_settle_117 : decode cX5_settle 117 = .ok (.bipush (-2), 2) := by decide +kernel
theorem dX5_settle_119 : decode cX5_settle 119 = .ok (.goto 4, 3) := by decide +kernel
theorem dX5_settle_122 : decode cX5_settle 122 = .ok (.iload_n 1, 1) := by decide +kernel
theorem dX5_settle_123 : decode cX5_settle 123 = .ok (.ireturn, 1) := by decide +kernel
theorem dX5_pass_0 : decode cX5_pass 0 = .ok (.iconst 0, 1) := by decide +kernel
theorem dX5_pass_1 : decode cX5_pass 1 = .ok (.istore_n 1, 1) := by decide +kernel
theorem dX5_pass_2 : decode cX5_pass 2 = .ok (.iconst 1, 1) := by decide +kernel
theorem dX5_pass_3 : decode cX5_pass 3 = .ok (.istore_n 2, 1) := by decide +kernel
theorem dX5_pass_4 : decode cX5_pass 4 = .ok (.iconst 0, 1) := by decide +kernel
theorem dX5_pass_5 : decode cX5_pass 5 = .ok (.istore_n 3, 1) := by decide +kernel
theorem dX5_pass_6 : decode cX5_pass 6 = .ok (.iload_n 2, 1) := by decide +kernel
theorem dX5_pass_7 : decode cX5_pass 7 = .ok (.ifCond .eq 79, 3) := by decide +kernel
theorem dX5_pass_10 : decode cX5_pass 10 = .ok (.iload_n 3, 1) := by decide +kernel
theorem dX5_pass_11 : decode cX5_pass 11 = .ok (.ldc 175, 2) := by decide +kernel
theorem dX5_pass_13 : decode cX5_pass 13 = .ok (.if_icmp .ge 73, 3) := by decide +kernel
theorem dX5_pass_16 : decode cX5_pass 16 = .ok (.aload_n 0, 1) := by decide +kernel
theorem dX5_pass_17 : decode cX5_pass 17 = .ok (.invokevirtual 182, 3) := by decide +kernel
theorem dX5_pass_20 : decode cX5_pass 20 = .ok (.istore 4, 2) := by decide +kernel
theorem dX5_pass_22 : decode cX5_pass 22 = .ok (.iload 4, 2) := by decide +kernel
theorem dX5_pass_24 : decode cX5_pass 24 = .ok (.ifCond .ge 6, 3) := by decide +kernel
theorem dX5_pass_27 : decode cX5_pass 27 = .ok (.bipush (-2), 2) := by decide +kernel
theorem dX5_pass_29 : decode cX5_pass 29 = .ok (.ireturn, 1) := by decide +kernel
theorem dX5_pass_30 : decode cX5_pass 30 = .ok (.iload_n 1, 1) := by decide +kernel
theorem dX5_pass_31 : decode cX5_pass 31 = .ok (.iload 4, 2) := by decide +kernel
theorem dX5_pass_33 : decode cX5_pass 33 = .ok (.iadd, 1) := by decide +kernel
theorem dX5_pass_34 : decode cX5_pass 34 = .ok (.istore_n 1, 1) := by decide +kernel
theorem dX5_pass_35 : decode cX5_pass 35 = .ok (.iconst 0, 1) := by decide +kernel
theorem dX5_pass_36 : decode cX5_pass 36 = .ok (.istore_n 2, 1) := by decide +kernel
theorem dX5_pass_37 : decode cX5_pass 37 = .ok (.iconst 0, 1) := by decide +kernel
theorem dX5_pass_38 : decode cX5_pass 38 = .ok (.istore 5, 2) := by decide +kernel
theorem dX5_pass_40 : decode cX5_pass 40 = .ok (.iload 5, 2) := by decide +kernel
theorem dX5_pass_42 : decode cX5_pass 42 = .ok (.bipush 120, 2) := by decide +kernel
theorem dX5_pass_44 : decode cX5_pass 44 = .ok (.if_icmp .ge 36, 3) := by decide +kernel
theorem dX5_pass_47 : decode cX5_pass 47 = .ok (.iload_n 2, 1) := by decide +kernel
theorem dX5_pass_48 : decode cX5_pass 48 = .ok (.ifCond .ne 32, 3) := by decide +kernel
theorem dX5_pass_51 : decode cX5_pass 51 = .ok (.aload_n 0, 1) := by decide +kernel
theorem dX5_pass_52 : decode cX5_pass 52 = .ok (.iload 5, 2) := by decide +kernel
theorem dX5_pass_54 : decode cX5_pass 54 = .ok (.invokestatic 105, 3) := by decide +kernel
theorem dX5_pass_57 : decode cX5_pass 57 = .ok (.iload 5, 2) := by decide +kernel
theorem dX5_pass_59 : decode cX5_pass 59 = .ok (.invokestatic 185, 3) := by decide +kernel
theorem dX5_pass_62 : decode cX5_pass 62 = .ok (.invokevirtual 188, 3) := by decide +kernel
theorem dX5_pass_65 : decode cX5_pass 65 = .ok (.ifCond .le 7, 3) := by decide +kernel
theorem dX5_pass_68 : decode cX5_pass 68 = .ok (.iconst 1, 1) := by decide +kernel
theorem dX5_pass_69 : decode cX5_pass 69 = .ok (.goto 4, 3) := by decide +kernel
theorem dX5_pass_72 : decode cX5_pass 72 = .ok (.iconst 0, 1) := by decide +kernel
theorem dX5_pass_73 : decode cX5_pass 73 = .ok (.istore_n 2, 1) := by decide +kernel
theorem dX5_pass_74 : decode cX5_pass 74 = .ok (.iinc 5 1, 3) := by decide +kernel
theorem dX5_pass_77 : decode cX5_pass 77 = .ok (.goto (-37), 3) := by decide +kernel
theorem dX5_pass_80 : decode cX5_pass 80 = .ok (.iinc 3 1, 3) := by decide +kernel
theorem dX5_pass_83 : decode cX5_pass 83 = .ok (.goto (-77), 3) := by decide +kernel
theorem dX5_pass_86 : decode cX5_pass 86 = .ok (.iload_n 1, 1) := by decide +kernel
theorem dX5_pass_87 : decode cX5_pass 87 = .ok (.ireturn, 1) := by decide +kernel
theorem dX5_register_0 : decode cX5_register 0 = .ok (.aload_n 0, 1) := by decide +kernel
theorem dX5_register_1 : decode cX5_register 1 = .ok (.iload_n 1, 1) := by decide +kernel
theorem dX5_register_2 : decode cX5_register 2 = .ok (.invokevirtual 48, 3) := by decide +kernel
theorem dX5_register_5 : decode cX5_register 5 = .ok (.ifCond .eq 10, 3) := by decide +kernel
theorem dX5_register_8 : decode cX5_register 8 = .ok (.iload_n 2, 1) := by decide +kernel
theorem dX5_register_9 : decode cX5_register 9 = .ok (.invokestatic 52, 3) := by decide +kernel
theorem dX5_register_12 : decode cX5_register 12 = .ok (.ifCond .ne 5, 3) := by decide +kernel
theorem dX5_register_15 : decode cX5_register 15 = .ok (.iconst (-1), 1) := by decide +kernel
theorem dX5_register_16 : decode cX5_register 16 = .ok (.ireturn, 1) := by decide +kernel
theorem dX5_register_17 : decode cX5_register 17 = .ok (.aload_n 0, 1) := by decide +kernel
theorem dX5_register_18 : decode cX5_register 18 = .ok (.getfield 20, 3) := by decide +kernel
theorem dX5_register_21 : decode cX5_register 21 = .ok (.iload_n 1, 1) := by decide +kernel
theorem dX5_register_22 : decode cX5_register 22 = .ok (.aaload, 1) := by decide +kernel
theorem dX5_register_23 : decode cX5_register 23 = .ok (.iload_n 2, 1) := by decide +kernel
theorem dX5_register_24 : decode cX5_register 24 = .ok (.iload_n 3, 1) := by decide +kernel
theorem dX5_register_25 : decode cX5_register 25 = .ok (.invokevirtual 191, 3) := by decide +kernel
theorem dX5_register_28 : decode cX5_register 28 = .ok (.ireturn, 1) := by decide +kernel
theorem dX5_field_0 : decode cX5_field 0 = .ok (.aload_n 0, 1) := by decide +kernel
theorem dX5_field_1 : decode cX5_field 1 = .ok (.iload_n 1, 1) := by decide +kernel
theorem dX5_field_2 : decode cX5_field 2 = .ok (.invokevirtual 48, 3) := by decide +kernel
theorem dX5_field_5 : decode cX5_field 5 = .ok (.ifCond .eq 17, 3) := by decide +kernel
theorem dX5_field_8 : decode cX5_field 8 = .ok (.aload_n 0, 1) := by decide +kernel
theorem dX5_field_9 : decode cX5_field 9 = .ok (.getfield 20, 3) := by decide +kernel
theorem dX5_field_12 : decode cX5_field 12 = .ok (.iload_n 1, 1) := by decide +kernel
theorem dX5_field_13 : decode cX5_field 13 = .ok (.aaload, 1) := by decide +kernel
theorem dX5_field_14 : decode cX5_field 14 = .ok (.iload_n 2, 1) := by decide +kernel
theorem dX5_field_15 : decode cX5_field 15 = .ok (.iload_n 3, 1) := by decide +kernel
theorem dX5_field_16 : decode cX5_field 16 = .ok (.invokevirtual 194, 3) := by decide +kernel
theorem dX5_field_19 : decode cX5_field 19 = .ok (.ifCond .ne 5, 3) := by decide +kernel
theorem dX5_field_22 : decode cX5_field 22 = .ok (.iconst (-1), 1) := by decide +kernel
theorem dX5_field_23 : decode cX5_field 23 = .ok (.ireturn, 1) := by decide +kernel
theorem dX5_field_24 : decode cX5_field 24 = .ok (.aload_n 0, 1) := by decide +kernel
theorem dX5_field_25 : decode cX5_field 25 = .ok (.getfield 20, 3) := by decide +kernel
theorem dX5_field_28 : decode cX5_field 28 = .ok (.iload_n 1, 1) := by decide +kernel
theorem dX5_field_29 : decode cX5_field 29 = .ok (.aaload, 1) := by decide +kernel
theorem dX5_field_30 : decode cX5_field 30 = .ok (.iload_n 2, 1) := by decide +kernel
theorem dX5_field_31 : decode cX5_field 31 = .ok (.iload_n 3, 1) := by decide +kernel
theorem dX5_field_32 : decode cX5_field 32 = .ok (.invokestatic 197, 3) := by decide +kernel
theorem dX5_field_35 : decode cX5_field 35 = .ok (.iload 4, 2) := by decide +kernel
theorem dX5_field_37 : decode cX5_field 37 = .ok (.invokevirtual 191, 3) := by decide +kernel
theorem dX5_field_40 : decode cX5_field 40 = .ok (.ireturn, 1) := by decide +kernel
theorem dX5_cell_0 : decode cX5_cell 0 = .ok (.aload_n 0, 1) := by decide +kernel
theorem dX5_cell_1 : decode cX5_cell 1 = .ok (.iload_n 1, 1) := by decide +kernel
theorem dX5_cell_2 : decode cX5_cell 2 = .ok (.invokevirtual 48, 3) := by decide +kernel
theorem dX5_cell_5 : decode cX5_cell 5 = .ok (.ifCond .eq 12, 3) := by decide +kernel
theorem dX5_cell_8 : decode cX5_cell 8 = .ok (.iload_n 3, 1) := by decide +kernel
theorem dX5_cell_9 : decode cX5_cell 9 = .ok (.ifCond .lt 8, 3) := by decide +kernel
theorem dX5_cell_12 : decode cX5_cell 12 = .ok (.iload_n 3, 1) := by decide +kernel
theorem dX5_cell_13 : decode cX5_cell 13 = .ok (.iconst 1, 1) := by decide +kernel
theorem dX5_cell_14 : decode cX5_cell 14 = .ok (.if_icmp .le 5, 3) := by decide +kernel
theorem dX5_cell_17 : decode cX5_cell 17 = .ok (.iconst (-1), 1) := by decide +kernel
theorem dX5_cell_18 : decode cX5_cell 18 = .ok (.ireturn, 1) := by decide +kernel
theorem dX5_cell_19 : decode cX5_cell 19 = .ok (.aload_n 0, 1) := by decide +kernel
theorem dX5_cell_20 : decode cX5_cell 20 = .ok (.getfield 20, 3) := by decide +kernel
theorem dX5_cell_23 : decode cX5_cell 23 = .ok (.iload_n 1, 1) := by decide +kernel
theorem dX5_cell_24 : decode cX5_cell 24 = .ok (.aaload, 1) := by decide +kernel
theorem dX5_cell_25 : decode cX5_cell 25 = .ok (.iload_n 2, 1) := by decide +kernel
theorem dX5_cell_26 : decode cX5_cell 26 = .ok (.invokevirtual 200, 3) := by decide +kernel
theorem dX5_cell_29 : decode cX5_cell 29 = .ok (.istore 4, 2) := by decide +kernel
theorem dX5_cell_31 : decode cX5_cell 31 = .ok (.iload 4, 2) := by decide +kernel
theorem dX5_cell_33 : decode cX5_cell 33 = .ok (.iconst (-1), 1) := by decide +kernel
theorem dX5_cell_34 : decode cX5_cell 34 = .ok (.if_icmp .ne 5, 3) := by decide +kernel
theorem dX5_cell_37 : decode cX5_cell 37 = .ok (.iconst (-1), 1) := by decide +kernel
theorem dX5_cell_38 : decode cX5_cell 38 = .ok (.ireturn, 1) := by decide +kernel
theorem dX5_cell_39 : decode cX5_cell 39 = .ok (.iload_n 3, 1) := by decide +kernel
theorem dX5_cell_40 : decode cX5_cell 40 = .ok (.ifCond .ne 8, 3) := by decide +kernel
theorem dX5_cell_43 : decode cX5_cell 43 = .ok (.iload 4, 2) := by decide +kernel
theorem dX5_cell_45 : decode cX5_cell 45 = .ok (.goto 17, 3) := by decide +kernel
theorem dX5_cell_48 : decode cX5_cell 48 = .ok (.iload_n 2, 1) := by decide +kernel
theorem dX5_cell_49 : decode cX5_cell 49 = .ok (.aload_n 0, 1) := by decide +kernel
theorem dX5_cell_50 : decode cX5_cell 50 = .ok (.getfield 20, 3) := by decide +kernel
theorem dX5_cell_53 : decode cX5_cell 53 = .ok (.iload_n 1, 1) := by decide +kernel
theorem dX5_cell_54 : decode cX5_cell 54 = .ok (.aaload, 1) := by decide +kernel
theorem dX5_cell_55 : decode cX5_cell 55 = .ok (.getfield 203, 3) := by decide +kernel
theorem dX5_cell_58 : decode cX5_cell 58 = .ok (.iload 4, 2) := by decide +kernel
theorem dX5_cell_60 : decode cX5_cell 60 = .ok (.iaload, 1) := by decide +kernel
theorem dX5_cell_61 : decode cX5_cell 61 = .ok (.isub, 1) := by decide +kernel
theorem dX5_cell_62 : decode cX5_cell 62 = .ok (.ireturn, 1) := by decide +kernel
theorem dX5_object_0 : decode cX5_object 0 = .ok (.aload_n 0, 1) := by decide +kernel
theorem dX5_object_1 : decode cX5_object 1 = .ok (.iload_n 1, 1) := by decide +kernel
theorem dX5_object_2 : decode cX5_object 2 = .ok (.iload_n 2, 1) := by decide +kernel
theorem dX5_object_3 : decode cX5_object 3 = .ok (.invokevirtual 164, 3) := by decide +kernel
theorem dX5_object_6 : decode cX5_object 6 = .ok (.ifCond .ne 6, 3) := by decide +kernel
theorem dX5_object_9 : decode cX5_object 9 = .ok (.bipush (-2), 2) := by decide +kernel
theorem dX5_object_11 : decode cX5_object 11 = .ok (.ireturn, 1) := by decide +kernel
theorem dX5_object_12 : decode cX5_object 12 = .ok (.iload_n 3, 1) := by decide +kernel
theorem dX5_object_13 : decode cX5_object 13 = .ok (.tableswitch 92 0 3 #[31, 43, 55, 67], 31) := by decide +kernel
theorem dX5_object_44 : decode cX5_object 44 = .ok (.aload_n 0, 1) := by decide +kernel
theorem dX5_object_45 : decode cX5_object 45 = .ok (.getfield 20, 3) := by decide +kernel
theorem dX5_object_48 : decode cX5_object 48 = .ok (.iload_n 1, 1) := by decide +kernel
theorem dX5_object_49 : decode cX5_object 49 = .ok (.aaload, 1) := by decide +kernel
theorem dX5_object_50 : decode cX5_object 50 = .ok (.getfield 203, 3) := by decide +kernel
theorem dX5_object_53 : decode cX5_object 53 = .ok (.iload_n 2, 1) := by decide +kernel
theorem dX5_object_54 : decode cX5_object 54 = .ok (.iaload, 1) := by decide +kernel
theorem dX5_object_55 : decode cX5_object 55 = .ok (.ireturn, 1) := by decide +kernel
theorem dX5_object_56 : decode cX5_object 56 = .ok (.aload_n 0, 1) := by decide +kernel
theorem dX5_object_57 : decode cX5_object 57 = .ok (.getfield 20, 3) := by decide +kernel
theorem dX5_object_60 : decode cX5_object 60 = .ok (.iload_n 1, 1) := by decide +kernel
theorem dX5_object_61 : decode cX5_object 61 = .ok (.aaload, 1) := by decide +kernel
theorem dX5_object_62 : decode cX5_object 62 = .ok (.getfield 206, 3) := by decide +kernel
theorem dX5_object_65 : decode cX5_object 65 = .ok (.iload_n 2, 1) := by decide +kernel
theorem dX5_object_66 : decode cX5_object 66 = .ok (.iaload, 1) := by decide +kernel
theorem dX5_object_67 : decode cX5_object 67 = .ok (.ireturn, 1) := by decide +kernel
theorem dX5_object_68 : decode cX5_object 68 = .ok (.aload_n 0, 1) := by decide +kernel
theorem dX5_object_69 : decode cX5_object 69 = .ok (.getfield 20, 3) := by decide +kernel
theorem dX5_object_72 : decode cX5_object 72 = .ok (.iload_n 1, 1) := by decide +kernel
theorem dX5_object_73 : decode cX5_object 73 = .ok (.aaload, 1) := by decide +kernel
theorem dX5_object_74 : decode cX5_object 74 = .ok (.getfield 168, 3) := by decide +kernel
theorem dX5_object_77 : decode cX5_object 77 = .ok (.iload_n 2, 1) := by decide +kernel
theorem dX5_object_78 : decode cX5_object 78 = .ok (.iaload, 1) := by decide +kernel
theorem dX5_object_79 : decode cX5_object 79 = .ok (.ireturn, 1) := by decide +kernel
theorem dX5_object_80 : decode cX5_object 80 = .ok (.aload_n 0, 1) := by decide +kernel
theorem dX5_object_81 : decode cX5_object 81 = .ok (.invokevirtual 209, 3) := by decide +kernel
theorem dX5_object_84 : decode cX5_object 84 = .ok (.aload_n 0, 1) := by decide +kernel
theorem dX5_object_85 : decode cX5_object 85 = .ok (.getfield 37, 3) := by decide +kernel
theorem dX5_object_88 : decode cX5_object 88 = .ok (.iload_n 1, 1) := by decide +kernel
theorem dX5_object_89 : decode cX5_object 89 = .ok (.iload_n 2, 1) := by decide +kernel
theorem dX5_object_90 : decode cX5_object 90 = .ok (.invokestatic 66, 3) := by decide +kernel
theorem dX5_object_93 : decode cX5_object 93 = .ok (.invokevirtual 212, 3) := by decide +kernel
theorem dX5_object_96 : decode cX5_object 96 = .ok (.ifCond .eq 7, 3) := by decide +kernel
theorem dX5_object_99 : decode cX5_object 99 = .ok (.iconst 1, 1) := by decide +kernel
theorem dX5_object_100 : decode cX5_object 100 = .ok (.goto 4, 3) := by decide +kernel
theorem dX5_object_103 : decode cX5_object 103 = .ok (.iconst 0, 1) := by decide +kernel
theorem dX5_object_104 : decode cX5_object 104 = .ok (.ireturn, 1) := by decide +kernel
theorem dX5_object_105 : decode cX5_object 105 = .ok (.bipush (-2), 2) := by decide +kernel
theorem dX5_object_107 : decode cX5_object 107 = .ok (.ireturn, 1) := by decide +kernel
theorem dX5_weight_0 : decode cX5_weight 0 = .ok (.aload_n 0, 1) := by decide +kernel
theorem dX5_weight_1 : decode cX5_weight 1 = .ok (.iload_n 1, 1) := by decide +kernel
theorem dX5_weight_2 : decode cX5_weight 2 = .ok (.invokevirtual 48, 3) := by decide +kernel
theorem dX5_weight_5 : decode cX5_weight 5 = .ok (.ifCond .eq 21, 3) := by decide +kernel
theorem dX5_weight_8 : decode cX5_weight 8 = .ok (.aload_n 0, 1) := by decide +kernel
theorem dX5_weight_9 : decode cX5_weight 9 = .ok (.iload_n 2, 1) := by decide +kernel
theorem dX5_weight_10 : decode cX5_weight 10 = .ok (.invokevirtual 48, 3) := by decide +kernel
theorem dX5_weight_13 : decode cX5_weight 13 = .ok (.ifCond .eq 13, 3) := by decide +kernel
theorem dX5_weight_16 : decode cX5_weight 16 = .ok (.iload_n 3, 1) := by decide +kernel
theorem dX5_weight_17 : decode cX5_weight 17 = .ok (.ifCond .lt 9, 3) := by decide +kernel
theorem dX5_weight_20 : decode cX5_weight 20 = .ok (.iload_n 3, 1) := by decide +kernel
theorem dX5_weight_21 : decode cX5_weight 21 = .ok (.bipush 24, 2) := by decide +kernel
theorem dX5_weight_23 : decode cX5_weight 23 = .ok (.if_icmp .lt 5, 3) := by decide +kernel
theorem dX5_weight_26 : decode cX5_weight 26 = .ok (.iconst 0, 1) := by decide +kernel
theorem dX5_weight_27 : decode cX5_weight 27 = .ok (.ireturn, 1) := by decide +kernel
theorem dX5_weight_28 : decode cX5_weight 28 = .ok (.aload_n 0, 1) := by decide +kernel
theorem dX5_weight_29 : decode cX5_weight 29 = .ok (.getfield 20, 3) := by decide +kernel
theorem dX5_weight_32 : decode cX5_weight 32 = .ok (.iload_n 1, 1) := by decide +kernel
theorem dX5_weight_33 : decode cX5_weight 33 = .ok (.aaload, 1) := by decide +kernel
theorem dX5_weight_34 : decode cX5_weight 34 = .ok (.iload_n 2, 1) := by decide +kernel
theorem dX5_weight_35 : decode cX5_weight 35 = .ok (.iload_n 3, 1) := by decide +kernel
theorem dX5_weight_36 : decode cX5_weight 36 = .ok (.invokestatic 66, 3) := by decide +kernel
theorem dX5_weight_39 : decode cX5_weight 39 = .ok (.invokevirtual 215, 3) := by decide +kernel
theorem dX5_weight_42 : decode cX5_weight 42 = .ok (.ireturn, 1) := by decide +kernel
theorem dX5_message_0 : decode cX5_message 0 = .ok (.aload_n 0, 1) := by decide +kernel
theorem dX5_message_1 : decode cX5_message 1 = .ok (.getfield 30, 3) := by decide +kernel
theorem dX5_message_4 : decode cX5_message 4 = .ok (.iload_n 1, 1) := by decide +kernel
theorem dX5_message_5 : decode cX5_message 5 = .ok (.iload_n 2, 1) := by decide +kernel
theorem dX5_message_6 : decode cX5_message 6 = .ok (.iload_n 3, 1) := by decide +kernel
theorem dX5_message_7 : decode cX5_message 7 = .ok (.invokevirtual 108, 3) := by decide +kernel
theorem dX5_message_10 : decode cX5_message 10 = .ok (.astore 5, 2) := by decide +kernel
theorem dX5_message_12 : decode cX5_message 12 = .ok (.aload 5, 2) := by decide +kernel
theorem dX5_message_14 : decode cX5_message 14 = .ok (.ifnonnull 5, 3) := by decide +kernel
theorem dX5_message_17 : decode cX5_message 17 = .ok (.iconst (-1), 1) := by decide +kernel
theorem dX5_message_18 : decode cX5_message 18 = .ok (.ireturn, 1) := by decide +kernel
theorem dX5_message_19 : decode cX5_message 19 = .ok (.iload 4, 2) := by decide +kernel
theorem dX5_message_21 : decode cX5_message 21 = .ok (.tableswitch 58 0 3 #[31, 37, 46, 52], 31) := by decide +kernel
theorem dX5_message_52 : decode cX5_message 52 = .ok (.aload 5, 2) := by decide +kernel
theorem dX5_message_54 : decode cX5_message 54 = .ok (.getfield 112, 3) := by decide +kernel
theorem dX5_message_57 : decode cX5_message 57 = .ok (.ireturn, 1) := by decide +kernel
theorem dX5_message_58 : decode cX5_message 58 = .ok (.aload 5, 2) := by decide +kernel
theorem dX5_message_60 : decode cX5_message 60 = .ok (.getfield 118, 3) := by decide +kernel
theorem dX5_message_63 : decode cX5_message 63 = .ok (.invokestatic 218, 3) := by decide +kernel
theorem dX5_message_66 : decode cX5_message 66 = .ok (.ireturn, 1) := by decide +kernel
theorem dX5_message_67 : decode cX5_message 67 = .ok (.aload 5, 2) := by decide +kernel
theorem dX5_message_69 : decode cX5_message 69 = .ok (.getfield 124, 3) := by decide +kernel
theorem dX5_message_72 : decode cX5_message 72 = .ok (.ireturn, 1) := by decide +kernel
theorem dX5_message_73 : decode cX5_message 73 = .ok (.aload 5, 2) := by decide +kernel
theorem dX5_message_75 : decode cX5_message 75 = .ok (.getfield 127, 3) := by decide +kernel
theorem dX5_message_78 : decode cX5_message 78 = .ok (.ireturn, 1) := by decide +kernel
theorem dX5_message_79 : decode cX5_message 79 = .ok (.iconst (-1), 1) := by decide +kernel
theorem dX5_message_80 : decode cX5_message 80 = .ok (.ireturn, 1) := by decide +kernel
theorem dX5_count_0 : decode cX5_count 0 = .ok (.iload_n 1, 1) := by decide +kernel
theorem dX5_count_1 : decode cX5_count 1 = .ok (.iconst (-1), 1) := by decide +kernel
theorem dX5_count_2 : decode cX5_count 2 = .ok (.if_icmp .eq 11, 3) := by decide +kernel
theorem dX5_count_5 : decode cX5_count 5 = .ok (.aload_n 0, 1) := by decide +kernel
theorem dX5_count_6 : decode cX5_count 6 = .ok (.iload_n 1, 1) := by decide +kernel
theorem dX5_count_7 : decode cX5_count 7 = .ok (.invokevirtual 48, 3) := by decide +kernel
theorem dX5_count_10 : decode cX5_count 10 = .ok (.ifCond .eq 13, 3) := by decide +kernel
theorem dX5_count_13 : decode cX5_count 13 = .ok (.iload_n 2, 1) := by decide +kernel
theorem dX5_count_14 : decode cX5_count 14 = .ok (.ifCond .lt 9, 3) := by decide +kernel
theorem dX5_count_17 : decode cX5_count 17 = .ok (.iload_n 2, 1) := by decide +kernel
theorem dX5_count_18 : decode cX5_count 18 = .ok (.bipush 6, 2) := by decide +kernel
theorem dX5_count_20 : decode cX5_count 20 = .ok (.if_icmp .le 5, 3) := by decide +kernel
theorem dX5_count_23 : decode cX5_count 23 = .ok (.iconst (-1), 1) := by decide +kernel
theorem dX5_count_24 : decode cX5_count 24 = .ok (.ireturn, 1) := by decide +kernel
theorem dX5_count_25 : decode cX5_count 25 = .ok (.iload_n 2, 1) := by decide +kernel
theorem dX5_count_26 : decode cX5_count 26 = .ok (.iconst 3, 1) := by decide +kernel
theorem dX5_count_27 : decode cX5_count 27 = .ok (.if_icmp .ne 7, 3) := by decide +kernel
theorem dX5_count_30 : decode cX5_count 30 = .ok (.aload_n 0, 1) := by decide +kernel
theorem dX5_count_31 : decode cX5_count 31 = .ok (.invokevirtual 209, 3) := by decide +kernel
theorem dX5_count_34 : decode cX5_count 34 = .ok (.iconst 0, 1) := by decide +kernel
theorem dX5_count_35 : decode cX5_count 35 = .ok (.istore_n 3, 1) := by decide +kernel
theorem dX5_count_36 : decode cX5_count 36 = .ok (.iconst 0, 1) := by decide +kernel
theorem dX5_count_37 : decode cX5_count 37 = .ok (.istore 4, 2) := by decide +kernel
theorem dX5_count_39 : decode cX5_count 39 = .ok (.iload 4, 2) := by decide +kernel
theorem dX5_count_41 : decode cX5_count 41 = .ok (.aload_n 0, 1) := by decide +kernel
theorem dX5_count_42 : decode cX5_count 42 = .ok (.getfield 20, 3) := by decide +kernel
theorem dX5_count_45 : decode cX5_count 45 = .ok (.arraylength, 1) := by decide +kernel
theorem dX5_count_46 : decode cX5_count 46 = .ok (.if_icmp .ge 35, 3) := by decide +kernel
theorem dX5_count_49 : decode cX5_count 49 = .ok (.iload_n 1, 1) := by decide +kernel
theorem dX5_count_50 : decode cX5_count 50 = .ok (.iconst (-1), 1) := by decide +kernel
theorem dX5_count_51 : decode cX5_count 51 = .ok (.if_icmp .eq 9, 3) := by decide +kernel
theorem dX5_count_54 : decode cX5_count 54 = .ok (.iload_n 1, 1) := by decide +kernel
theorem dX5_count_55 : decode cX5_count 55 = .ok (.iload 4, 2) := by decide +kernel
theorem dX5_count_57 : decode cX5_count 57 = .ok (.if_icmp .ne 18, 3) := by decide +kernel
theorem dX5_count_60 : decode cX5_count 60 = .ok (.iload_n 3, 1) := by decide +kernel
theorem dX5_count_61 : decode cX5_count 61 = .ok (.aload_n 0, 1) := by decide +kernel
theorem dX5_count_62 : decode cX5_count 62 = .ok (.aload_n 0, 1) := by decide +kernel
theorem dX5_count_63 : decode cX5_count 63 = .ok (.getfield 20, 3) := by decide +kernel
theorem dX5_count_66 : decode cX5_count 66 = .ok (.iload 4, 2) := by decide +kernel
theorem dX5_count_68 : decode cX5_count 68 = .ok (.aaload, 1) := by decide +kernel
theorem dX5_count_69 : decode cX5_count 69 = .ok (.iload_n 2, 1) := by decide +kernel
theorem dX5_count_70 : decode cX5_count 70 = .ok (.invokevirtual 221, 3) := by decide +kernel
theorem dX5_count_73 : decode cX5_count 73 = .ok (.iadd, 1) := by decide +kernel
theorem dX5_count_74 : decode cX5_count 74 = .ok (.istore_n 3, 1) := by decide +kernel
theorem dX5_count_75 : decode cX5_count 75 = .ok (.iinc 4 1, 3) := by decide +kernel
theorem dX5_count_78 : decode cX5_count 78 = .ok (.goto (-39), 3) := by decide +kernel
theorem dX5_count_81 : decode cX5_count 81 = .ok (.iload_n 3, 1) := by decide +kernel
theorem dX5_count_82 : decode cX5_count 82 = .ok (.ireturn, 1) := by decide +kernel
theorem dX5_isEven_0 : decode cX5_isEven 0 = .ok (.iconst 0, 1) := by decide +kernel
theorem dX5_isEven_1 : decode cX5_isEven 1 = .ok (.istore_n 1, 1) := by decide +kernel
theorem dX5_isEven_2 : decode cX5_isEven 2 = .ok (.iload_n 1, 1) := by decide +kernel
theorem dX5_isEven_3 : decode cX5_isEven 3 = .ok (.aload_n 0, 1) := by decide +kernel
theorem dX5_isEven_4 : decode cX5_isEven 4 = .ok (.getfield 20, 3) := by decide +kernel
theorem dX5_isEven_7 : decode cX5_isEven 7 = .ok (.arraylength, 1) := by decide +kernel
theorem dX5_isEven_8 : decode cX5_isEven 8 = .ok (.if_icmp .ge 54, 3) := by decide +kernel
theorem dX5_isEven_11 : decode cX5_isEven 11 = .ok (.iconst 0, 1) := by decide +kernel
theorem dX5_isEven_12 : decode cX5_isEven 12 = .ok (.istore_n 2, 1) := by decide +kernel
theorem dX5_isEven_13 : decode cX5_isEven 13 = .ok (.iload_n 2, 1) := by decide +kernel
theorem dX5_isEven_14 : decode cX5_isEven 14 = .ok (.bipush 24, 2) := by decide +kernel
theorem dX5_isEven_16 : decode cX5_isEven 16 = .ok (.if_icmp .ge 40, 3) := by decide +kernel
theorem dX5_isEven_19 : decode cX5_isEven 19 = .ok (.aload_n 0, 1) := by decide +kernel
theorem dX5_isEven_20 : decode cX5_isEven 20 = .ok (.getfield 20, 3) := by decide +kernel
theorem dX5_isEven_23 : decode cX5_isEven 23 = .ok (.iload_n 1, 1) := by decide +kernel
theorem dX5_isEven_24 : decode cX5_isEven 24 = .ok (.aaload, 1) := by decide +kernel
theorem dX5_isEven_25 : decode cX5_isEven 25 = .ok (.getfield 168, 3) := by decide +kernel
theorem dX5_isEven_28 : decode cX5_isEven 28 = .ok (.iload_n 2, 1) := by decide +kernel
theorem dX5_isEven_29 : decode cX5_isEven 29 = .ok (.iaload, 1) := by decide +kernel
theorem dX5_isEven_30 : decode cX5_isEven 30 = .ok (.istore_n 3, 1) := by decide +kernel
theorem dX5_isEven_31 : decode cX5_isEven 31 = .ok (.iload_n 3, 1) := by decide +kernel
theorem dX5_isEven_32 : decode cX5_isEven 32 = .ok (.ifCond .le 18, 3) := by decide +kernel
theorem dX5_isEven_35 : decode cX5_isEven 35 = .ok (.iload_n 3, 1) := by decide +kernel
theorem dX5_isEven_36 : decode cX5_isEven 36 = .ok (.aload_n 0, 1) := by decide +kernel
theorem dX5_isEven_37 : decode cX5_isEven 37 = .ok (.iload_n 1, 1) := by decide +kernel
theorem dX5_isEven_38 : decode cX5_isEven 38 = .ok (.iload_n 2, 1) := by decide +kernel
theorem dX5_isEven_39 : decode cX5_isEven 39 = .ok (.invokestatic 66, 3) := by decide +kernel
theorem dX5_isEven_42 : decode cX5_isEven 42 = .ok (.invokevirtual 225, 3) := by decide +kernel
theorem dX5_isEven_45 : decode cX5_isEven 45 = .ok (.if_icmp .eq 5, 3) := by decide +kernel
theorem dX5_isEven_48 : decode cX5_isEven 48 = .ok (.iconst 0, 1) := by decide +kernel
theorem dX5_isEven_49 : decode cX5_isEven 49 = .ok (.ireturn, 1) := by decide +kernel
theorem dX5_isEven_50 : decode cX5_isEven 50 = .ok (.iinc 2 1, 3) := by decide +kernel
theorem dX5_isEven_53 : decode cX5_isEven 53 = .ok (.goto (-40), 3) := by decide +kernel
theorem dX5_isEven_56 : decode cX5_isEven 56 = .ok (.iinc 1 1, 3) := by decide +kernel
theorem dX5_isEven_59 : decode cX5_isEven 59 = .ok (.goto (-57), 3) := by decide +kernel
theorem dX5_isEven_62 : decode cX5_isEven 62 = .ok (.iconst 1, 1) := by decide +kernel
theorem dX5_isEven_63 : decode cX5_isEven 63 = .ok (.ireturn, 1) := by decide +kernel
theorem dX5_idOf_0 : decode cX5_idOf 0 = .ok (.iload_n 0, 1) := by decide +kernel
theorem dX5_idOf_1 : decode cX5_idOf 1 = .ok (.bipush 24, 2) := by decide +kernel
theorem dX5_idOf_3 : decode cX5_idOf 3 = .ok (.imul, 1) := by decide +kernel
theorem dX5_idOf_4 : decode cX5_idOf 4 = .ok (.iload_n 1, 1) := by decide +kernel
theorem dX5_idOf_5 : decode cX5_idOf 5 = .ok (.iadd, 1) := by decide +kernel
theorem dX5_idOf_6 : decode cX5_idOf 6 = .ok (.ireturn, 1) := by decide +kernel
theorem dX5_isId_0 : decode cX5_isId 0 = .ok (.iload_n 0, 1) := by decide +kernel
theorem dX5_isId_1 : decode cX5_isId 1 = .ok (.ifCond .lt 13, 3) := by decide +kernel
theorem dX5_isId_4 : decode cX5_isId 4 = .ok (.iload_n 0, 1) := by decide +kernel
theorem dX5_isId_5 : decode cX5_isId 5 = .ok (.bipush 120, 2) := by decide +kernel
theorem dX5_isId_7 : decode cX5_isId 7 = .ok (.if_icmp .ge 7, 3) := by decide +kernel
theorem dX5_isId_10 : decode cX5_isId 10 = .ok (.iconst 1, 1) := by decide +kernel
theorem dX5_isId_11 : decode cX5_isId 11 = .ok (.goto 4, 3) := by decide +kernel
theorem dX5_isId_14 : decode cX5_isId 14 = .ok (.iconst 0, 1) := by decide +kernel
theorem dX5_isId_15 : decode cX5_isId 15 = .ok (.ireturn, 1) := by decide +kernel
theorem dX5_nodeOf_0 : decode cX5_nodeOf 0 = .ok (.iload_n 0, 1) := by decide +kernel
theorem dX5_nodeOf_1 : decode cX5_nodeOf 1 = .ok (.bipush 24, 2) := by decide +kernel
theorem dX5_nodeOf_3 : decode cX5_nodeOf 3 = .ok (.idiv, 1) := by decide +kernel
theorem dX5_nodeOf_4 : decode cX5_nodeOf 4 = .ok (.ireturn, 1) := by decide +kernel
theorem dX5_numberOf_0 : decode cX5_numberOf 0 = .ok (.iload_n 0, 1) := by decide +kernel
theorem dX5_numberOf_1 : decode cX5_numberOf 1 = .ok (.bipush 24, 2) := by decide +kernel
theorem dX5_numberOf_3 : decode cX5_numberOf 3 = .ok (.irem, 1) := by decide +kernel
theorem dX5_numberOf_4 : decode cX5_numberOf 4 = .ok (.ireturn, 1) := by decide +kernel
theorem dX5_nameOf_0 : decode cX5_nameOf 0 = .ok (.bipush 100, 2) := by decide +kernel
theorem dX5_nameOf_2 : decode cX5_nameOf 2 = .ok (.iload_n 0, 1) := by decide +kernel
theorem dX5_nameOf_3 : decode cX5_nameOf 3 = .ok (.invokestatic 105, 3) := by decide +kernel
theorem dX5_nameOf_6 : decode cX5_nameOf 6 = .ok (.imul, 1) := by decide +kernel
theorem dX5_nameOf_7 : decode cX5_nameOf 7 = .ok (.iload_n 0, 1) := by decide +kernel
theorem dX5_nameOf_8 : decode cX5_nameOf 8 = .ok (.invokestatic 185, 3) := by decide +kernel
theorem dX5_nameOf_11 : decode cX5_nameOf 11 = .ok (.iadd, 1) := by decide +kernel
theorem dX5_nameOf_12 : decode cX5_nameOf 12 = .ok (.ireturn, 1) := by decide +kernel
theorem dX5_fieldSlot_0 : decode cX5_fieldSlot 0 = .ok (.bipush 6, 2) := by decide +kernel
theorem dX5_fieldSlot_2 : decode cX5_fieldSlot 2 = .ok (.iload_n 0, 1) := by decide +kernel
theorem dX5_fieldSlot_3 : decode cX5_fieldSlot 3 = .ok (.bipush 12, 2) := by decide +kernel
theorem dX5_fieldSlot_5 : decode cX5_fieldSlot 5 = .ok (.imul, 1) := by decide +kernel
theorem dX5_fieldSlot_6 : decode cX5_fieldSlot 6 = .ok (.iadd, 1) := by decide +kernel
theorem dX5_fieldSlot_7 : decode cX5_fieldSlot 7 = .ok (.iload_n 1, 1) := by decide +kernel
theorem dX5_fieldSlot_8 : decode cX5_fieldSlot 8 = .ok (.iadd, 1) := by decide +kernel
theorem dX5_fieldSlot_9 : decode cX5_fieldSlot 9 = .ok (.ireturn, 1) := by decide +kernel
theorem dX5_isRegister_0 : decode cX5_isRegister 0 = .ok (.iload_n 0, 1) := by decide +kernel
theorem dX5_isRegister_1 : decode cX5_isRegister 1 = .ok (.ifCond .lt 13, 3) := by decide +kernel
theorem dX5_isRegister_4 : decode cX5_isRegister 4 = .ok (.iload_n 0, 1) := by decide +kernel
theorem dX5_isRegister_5 : decode cX5_isRegister 5 = .ok (.bipush 6, 2) := by decide +kernel
theorem dX5_isRegister_7 : decode cX5_isRegister 7 = .ok (.if_icmp .ge 7, 3) := by decide +kernel
theorem dX5_isRegister_10 : decode cX5_isRegister 10 = .ok (.iconst 1, 1) := by decide +kernel
theorem dX5_isRegister_11 : decode cX5_isRegister 11 = .ok (.goto 4, 3) := by decide +kernel
theorem dX5_isRegister_14 : decode cX5_isRegister 14 = .ok (.iconst 0, 1) := by decide +kernel
theorem dX5_isRegister_15 : decode cX5_isRegister 15 = .ok (.ireturn, 1) := by decide +kernel
theorem dX5_isNode_0 : decode cX5_isNode 0 = .ok (.iload_n 1, 1) := by decide +kernel
theorem dX5_isNode_1 : decode cX5_isNode 1 = .ok (.ifCond .lt 16, 3) := by decide +kernel
theorem dX5_isNode_4 : decode cX5_isNode 4 = .ok (.iload_n 1, 1) := by decide +kernel
theorem dX5_isNode_5 : decode cX5_isNode 5 = .ok (.aload_n 0, 1) := by decide +kernel
theorem dX5_isNode_6 : decode cX5_isNode 6 = .ok (.getfield 20, 3) := by decide +kernel
theorem dX5_isNode_9 : decode cX5_isNode 9 = .ok (.arraylength, 1) := by decide +kernel
theorem dX5_isNode_10 : decode cX5_isNode 10 = .ok (.if_icmp .ge 7, 3) := by decide +kernel
theorem dX5_isNode_13 : decode cX5_isNode 13 = .ok (.iconst 1, 1) := by decide +kernel
theorem dX5_isNode_14 : decode cX5_isNode 14 = .ok (.goto 4, 3) := by decide +kernel
theorem dX5_isNode_17 : decode cX5_isNode 17 = .ok (.iconst 0, 1) := by decide +kernel
theorem dX5_isNode_18 : decode cX5_isNode 18 = .ok (.ireturn, 1) := by decide +kernel
theorem dX5_isObject_0 : decode cX5_isObject 0 = .ok (.aload_n 0, 1) := by decide +kernel
theorem dX5_isObject_1 : decode cX5_isObject 1 = .ok (.iload_n 1, 1) := by decide +kernel
theorem dX5_isObject_2 : decode cX5_isObject 2 = .ok (.invokevirtual 48, 3) := by decide +kernel
theorem dX5_isObject_5 : decode cX5_isObject 5 = .ok (.ifCond .eq 20, 3) := by decide +kernel
theorem dX5_isObject_8 : decode cX5_isObject 8 = .ok (.aload_n 0, 1) := by decide +kernel
theorem dX5_isObject_9 : decode cX5_isObject 9 = .ok (.getfield 20, 3) := by decide +kernel
theorem dX5_isObject_12 : decode cX5_isObject 12 = .ok (.iload_n 1, 1) := by decide +kernel
theorem dX5_isObject_13 : decode cX5_isObject 13 = .ok (.aaload, 1) := by decide +kernel
theorem dX5_isObject_14 : decode cX5_isObject 14 = .ok (.iload_n 2, 1) := by decide +kernel
theorem dX5_isObject_15 : decode cX5_isObject 15 = .ok (.invokevirtual 228, 3) := by decide +kernel
theorem dX5_isObject_18 : decode cX5_isObject 18 = .ok (.ifCond .eq 7, 3) := by decide +kernel
theorem dX5_isObject_21 : decode cX5_isObject 21 = .ok (.iconst 1, 1) := by decide +kernel
theorem dX5_isObject_22 : decode cX5_isObject 22 = .ok (.goto 4, 3) := by decide +kernel
theorem dX5_isObject_25 : decode cX5_isObject 25 = .ok (.iconst 0, 1) := by decide +kernel
theorem dX5_isObject_26 : decode cX5_isObject 26 = .ok (.ireturn, 1) := by decide +kernel
theorem dX5_slotBehind_0 : decode cX5_slotBehind 0 = .ok (.aload_n 0, 1) := by decide +kernel
theorem dX5_slotBehind_1 : decode cX5_slotBehind 1 = .ok (.iload_n 1, 1) := by decide +kernel
theorem dX5_slotBehind_2 : decode cX5_slotBehind 2 = .ok (.invokevirtual 48, 3) := by decide +kernel
theorem dX5_slotBehind_5 : decode cX5_slotBehind 5 = .ok (.ifCond .eq 25, 3) := by decide +kernel
theorem dX5_slotBehind_8 : decode cX5_slotBehind 8 = .ok (.iload_n 2, 1) := by decide +kernel
theorem dX5_slotBehind_9 : decode cX5_slotBehind 9 = .ok (.invokestatic 52, 3) := by decide +kernel
theorem dX5_slotBehind_12 : decode cX5_slotBehind 12 = .ok (.ifCond .eq 18, 3) := by decide +kernel
theorem dX5_slotBehind_15 : decode cX5_slotBehind 15 = .ok (.aload_n 0, 1) := by decide +kernel
theorem dX5_slotBehind_16 : decode cX5_slotBehind 16 = .ok (.getfield 20, 3) := by decide +kernel
theorem dX5_slotBehind_19 : decode cX5_slotBehind 19 = .ok (.iload_n 1, 1) := by decide +kernel
theorem dX5_slotBehind_20 : decode cX5_slotBehind 20 = .ok (.aaload, 1) := by decide +kernel
theorem dX5_slotBehind_21 : decode cX5_slotBehind 21 = .ok (.getfield 102, 3) := by decide +kernel
theorem dX5_slotBehind_24 : decode cX5_slotBehind 24 = .ok (.iload_n 2, 1) := by decide +kernel
theorem dX5_slotBehind_25 : decode cX5_slotBehind 25 = .ok (.iaload, 1) := by decide +kernel
theorem dX5_slotBehind_26 : decode cX5_slotBehind 26 = .ok (.iconst 2, 1) := by decide +kernel
theorem dX5_slotBehind_27 : decode cX5_slotBehind 27 = .ok (.if_icmp .eq 5, 3) := by decide +kernel
theorem dX5_slotBehind_30 : decode cX5_slotBehind 30 = .ok (.iconst (-1), 1) := by decide +kernel
theorem dX5_slotBehind_31 : decode cX5_slotBehind 31 = .ok (.ireturn, 1) := by decide +kernel
theorem dX5_slotBehind_32 : decode cX5_slotBehind 32 = .ok (.aload_n 0, 1) := by decide +kernel
theorem dX5_slotBehind_33 : decode cX5_slotBehind 33 = .ok (.getfield 20, 3) := by decide +kernel
theorem dX5_slotBehind_36 : decode cX5_slotBehind 36 = .ok (.iload_n 1, 1) := by decide +kernel
theorem dX5_slotBehind_37 : decode cX5_slotBehind 37 = .ok (.aaload, 1) := by decide +kernel
theorem dX5_slotBehind_38 : decode cX5_slotBehind 38 = .ok (.getfield 90, 3) := by decide +kernel
theorem dX5_slotBehind_41 : decode cX5_slotBehind 41 = .ok (.iload_n 2, 1) := by decide +kernel
theorem dX5_slotBehind_42 : decode cX5_slotBehind 42 = .ok (.iaload, 1) := by decide +kernel
theorem dX5_slotBehind_43 : decode cX5_slotBehind 43 = .ok (.invokestatic 185, 3) := by decide +kernel
theorem dX5_slotBehind_46 : decode cX5_slotBehind 46 = .ok (.istore 4, 2) := by decide +kernel
theorem dX5_slotBehind_48 : decode cX5_slotBehind 48 = .ok (.aload_n 0, 1) := by decide +kernel
theorem dX5_slotBehind_49 : decode cX5_slotBehind 49 = .ok (.getfield 20, 3) := by decide +kernel
theorem dX5_slotBehind_52 : decode cX5_slotBehind 52 = .ok (.iload_n 1, 1) := by decide +kernel
theorem dX5_slotBehind_53 : decode cX5_slotBehind 53 = .ok (.aaload, 1) := by decide +kernel
theorem dX5_slotBehind_54 : decode cX5_slotBehind 54 = .ok (.iload 4, 2) := by decide +kernel
theorem dX5_slotBehind_56 : decode cX5_slotBehind 56 = .ok (.iload_n 3, 1) := by decide +kernel
theorem dX5_slotBehind_57 : decode cX5_slotBehind 57 = .ok (.invokevirtual 194, 3) := by decide +kernel
theorem dX5_slotBehind_60 : decode cX5_slotBehind 60 = .ok (.ifCond .eq 12, 3) := by decide +kernel
theorem dX5_slotBehind_63 : decode cX5_slotBehind 63 = .ok (.iload 4, 2) := by decide +kernel
theorem dX5_slotBehind_65 : decode cX5_slotBehind 65 = .ok (.iload_n 3, 1) := by decide +kernel
theorem dX5_slotBehind_66 : decode cX5_slotBehind 66 = .ok (.invokestatic 197, 3) := by decide +kernel
theorem dX5_slotBehind_69 : decode cX5_slotBehind 69 = .ok (.goto 4, 3) := by decide +kernel
theorem dX5_slotBehind_72 : decode cX5_slotBehind 72 = .ok (.iconst (-1), 1) := by decide +kernel
theorem dX5_slotBehind_73 : decode cX5_slotBehind 73 = .ok (.ireturn, 1) := by decide +kernel
theorem dX5_takeGrant_0 : decode cX5_takeGrant 0 = .ok (.aload_n 0, 1) := by decide +kernel
theorem dX5_takeGrant_1 : decode cX5_takeGrant 1 = .ok (.getfield 20, 3) := by decide +kernel
theorem dX5_takeGrant_4 : decode cX5_takeGrant 4 = .ok (.iload_n 1, 1) := by decide +kernel
theorem dX5_takeGrant_5 : decode cX5_takeGrant 5 = .ok (.aaload, 1) := by decide +kernel
theorem dX5_takeGrant_6 : decode cX5_takeGrant 6 = .ok (.iload_n 2, 1) := by decide +kernel
theorem dX5_takeGrant_7 : decode cX5_takeGrant 7 = .ok (.invokevirtual 215, 3) := by decide +kernel
theorem dX5_takeGrant_10 : decode cX5_takeGrant 10 = .ok (.ifCond .le 17, 3) := by decide +kernel
theorem dX5_takeGrant_13 : decode cX5_takeGrant 13 = .ok (.aload_n 0, 1) := by decide +kernel
theorem dX5_takeGrant_14 : decode cX5_takeGrant 14 = .ok (.getfield 20, 3) := by decide +kernel
theorem dX5_takeGrant_17 : decode cX5_takeGrant 17 = .ok (.iload_n 1, 1) := by decide +kernel
theorem dX5_takeGrant_18 : decode cX5_takeGrant 18 = .ok (.aaload, 1) := by decide +kernel
theorem dX5_takeGrant_19 : decode cX5_takeGrant 19 = .ok (.iload_n 2, 1) := by decide +kernel
theorem dX5_takeGrant_20 : decode cX5_takeGrant 20 = .ok (.iload_n 3, 1) := by decide +kernel
theorem dX5_takeGrant_21 : decode cX5_takeGrant 21 = .ok (.invokevirtual 231, 3) := by decide +kernel
theorem dX5_takeGrant_24 : decode cX5_takeGrant 24 = .ok (.goto 19, 3) := by decide +kernel
theorem dX5_takeGrant_27 : decode cX5_takeGrant 27 = .ok (.aload_n 0, 1) := by decide +kernel
theorem dX5_takeGrant_28 : decode cX5_takeGrant 28 = .ok (.getfield 30, 3) := by decide +kernel
theorem dX5_takeGrant_31 : decode cX5_takeGrant 31 = .ok (.iconst 2, 1) := by decide +kernel
theorem dX5_takeGrant_32 : decode cX5_takeGrant 32 = .ok (.iload_n 1, 1) := by decide +kernel
theorem dX5_takeGrant_33 : decode cX5_takeGrant 33 = .ok (.iload_n 2, 1) := by decide +kernel
theorem dX5_takeGrant_34 : decode cX5_takeGrant 34 = .ok (.invokestatic 105, 3) := by decide +kernel
theorem dX5_takeGrant_37 : decode cX5_takeGrant 37 = .ok (.iload_n 2, 1) := by decide +kernel
theorem dX5_takeGrant_38 : decode cX5_takeGrant 38 = .ok (.iload_n 3, 1) := by decide +kernel
theorem dX5_takeGrant_39 : decode cX5_takeGrant 39 = .ok (.iconst (-1), 1) := by decide +kernel
theorem dX5_takeGrant_40 : decode cX5_takeGrant 40 = .ok (.invokevirtual 98, 3) := by decide +kernel
theorem dX5_takeGrant_43 : decode cX5_takeGrant 43 = .ok (.return_, 1) := by decide +kernel
theorem dX5_bringNext_0 : decode cX5_bringNext 0 = .ok (.iconst 0, 1) := by decide +kernel
theorem dX5_bringNext_1 : decode cX5_bringNext 1 = .ok (.istore_n 1, 1) := by decide +kernel
theorem dX5_bringNext_2 : decode cX5_bringNext 2 = .ok (.iload_n 1, 1) := by decide +kernel
theorem dX5_bringNext_3 : decode cX5_bringNext 3 = .ok (.aload_n 0, 1) := by decide +kernel
theorem dX5_bringNext_4 : decode cX5_bringNext 4 = .ok (.getfield 20, 3) := by decide +kernel
theorem dX5_bringNext_7 : decode cX5_bringNext 7 = .ok (.arraylength, 1) := by decide +kernel
theorem dX5_bringNext_8 : decode cX5_bringNext 8 = .ok (.if_icmp .ge 37, 3) := by decide +kernel
theorem dX5_bringNext_11 : decode cX5_bringNext 11 = .ok (.iconst 0, 1) := by decide +kernel
theorem dX5_bringNext_12 : decode cX5_bringNext 12 = .ok (.istore_n 2, 1) := by decide +kernel
theorem dX5_bringNext_13 : decode cX5_bringNext 13 = .ok (.iload_n 2, 1) := by decide +kernel
theorem dX5_bringNext_14 : decode cX5_bringNext 14 = .ok (.aload_n 0, 1) := by decide +kernel
theorem dX5_bringNext_15 : decode cX5_bringNext 15 = .ok (.getfield 20, 3) := by decide +kernel
theorem dX5_bringNext_18 : decode cX5_bringNext 18 = .ok (.arraylength, 1) := by decide +kernel
theorem dX5_bringNext_19 : decode cX5_bringNext 19 = .ok (.if_icmp .ge 20, 3) := by decide +kernel
theorem dX5_bringNext_22 : decode cX5_bringNext 22 = .ok (.aload_n 0, 1) := by decide +kernel
theorem dX5_bringNext_23 : decode cX5_bringNext 23 = .ok (.iload_n 1, 1) := by decide +kernel
theorem dX5_bringNext_24 : decode cX5_bringNext 24 = .ok (.iload_n 2, 1) := by decide +kernel
theorem dX5_bringNext_25 : decode cX5_bringNext 25 = .ok (.invokevirtual 234, 3) := by decide +kernel
theorem dX5_bringNext_28 : decode cX5_bringNext 28 = .ok (.ifCond .le 5, 3) := by decide +kernel
theorem dX5_bringNext_31 : decode cX5_bringNext 31 = .ok (.iconst 1, 1) := by decide +kernel
theorem dX5_bringNext_32 : decode cX5_bringNext 32 = .ok (.ireturn, 1) := by decide +kernel
theorem dX5_bringNext_33 : decode cX5_bringNext 33 = .ok (.iinc 2 1, 3) := by decide +kernel
theorem dX5_bringNext_36 : decode cX5_bringNext 36 = .ok (.goto (-23), 3) := by decide +kernel
theorem dX5_bringNext_39 : decode cX5_bringNext 39 = .ok (.iinc 1 1, 3) := by decide +kernel
theorem dX5_bringNext_42 : decode cX5_bringNext 42 = .ok (.goto (-40), 3) := by decide +kernel
theorem dX5_bringNext_45 : decode cX5_bringNext 45 = .ok (.iconst 0, 1) := by decide +kernel
theorem dX5_bringNext_46 : decode cX5_bringNext 46 = .ok (.ireturn, 1) := by decide +kernel
theorem dX5_markHeld_0 : decode cX5_markHeld 0 = .ok (.aload_n 0, 1) := by decide +kernel
theorem dX5_markHeld_1 : decode cX5_markHeld 1 = .ok (.getfield 37, 3) := by decide +kernel
theorem dX5_markHeld_4 : decode cX5_markHeld 4 = .ok (.invokevirtual 237, 3) := by decide +kernel
theorem dX5_markHeld_7 : decode cX5_markHeld 7 = .ok (.iconst 0, 1) := by decide +kernel
theorem dX5_markHeld_8 : decode cX5_markHeld 8 = .ok (.istore_n 1, 1) := by decide +kernel
theorem dX5_markHeld_9 : decode cX5_markHeld 9 = .ok (.iload_n 1, 1) := by decide +kernel
theorem dX5_markHeld_10 : decode cX5_markHeld 10 = .ok (.aload_n 0, 1) := by decide +kernel
theorem dX5_markHeld_11 : decode cX5_markHeld 11 = .ok (.getfield 20, 3) := by decide +kernel
theorem dX5_markHeld_14 : decode cX5_markHeld 14 = .ok (.arraylength, 1) := by decide +kernel
theorem dX5_markHeld_15 : decode cX5_markHeld 15 = .ok (.if_icmp .ge 22, 3) := by decide +kernel
theorem dX5_markHeld_18 : decode cX5_markHeld 18 = .ok (.aload_n 0, 1) := by decide +kernel
theorem dX5_markHeld_19 : decode cX5_markHeld 19 = .ok (.getfield 20, 3) := by decide +kernel
theorem dX5_markHeld_22 : decode cX5_markHeld 22 = .ok (.iload_n 1, 1) := by decide +kernel
theorem dX5_markHeld_23 : decode cX5_markHeld 23 = .ok (.aaload, 1) := by decide +kernel
theorem dX5_markHeld_24 : decode cX5_markHeld 24 = .ok (.aload_n 0, 1) := by decide +kernel
theorem dX5_markHeld_25 : decode cX5_markHeld 25 = .ok (.getfield 37, 3) := by decide +kernel
theorem dX5_markHeld_28 : decode cX5_markHeld 28 = .ok (.invokevirtual 240, 3) := by decide +kernel
theorem dX5_markHeld_31 : decode cX5_markHeld 31 = .ok (.iinc 1 1, 3) := by decide +kernel
theorem dX5_markHeld_34 : decode cX5_markHeld 34 = .ok (.goto (-25), 3) := by decide +kernel
theorem dX5_markHeld_37 : decode cX5_markHeld 37 = .ok (.aload_n 0, 1) := by decide +kernel
theorem dX5_markHeld_38 : decode cX5_markHeld 38 = .ok (.getfield 30, 3) := by decide +kernel
theorem dX5_markHeld_41 : decode cX5_markHeld 41 = .ok (.aload_n 0, 1) := by decide +kernel
theorem dX5_markHeld_42 : decode cX5_markHeld 42 = .ok (.getfield 37, 3) := by decide +kernel
theorem dX5_markHeld_45 : decode cX5_markHeld 45 = .ok (.invokevirtual 243, 3) := by decide +kernel
theorem dX5_markHeld_48 : decode cX5_markHeld 48 = .ok (.aload_n 0, 1) := by decide +kernel
theorem dX5_markHeld_49 : decode cX5_markHeld 49 = .ok (.getfield 37, 3) := by decide +kernel
theorem dX5_markHeld_52 : decode cX5_markHeld 52 = .ok (.aload_n 0, 1) := by decide +kernel
theorem dX5_markHeld_53 : decode cX5_markHeld 53 = .ok (.getfield 20, 3) := by decide +kernel
theorem dX5_markHeld_56 : decode cX5_markHeld 56 = .ok (.invokevirtual 246, 3) := by decide +kernel
theorem dX5_markHeld_59 : decode cX5_markHeld 59 = .ok (.return_, 1) := by decide +kernel
theorem dX5_countOf_0 : decode cX5_countOf 0 = .ok (.iload_n 2, 1) := by decide +kernel
theorem dX5_countOf_1 : decode cX5_countOf 1 = .ok (.tableswitch 80 0 5 #[39, 44, 49, 54, 63, 75], 39) := by decide +kernel
theorem dX5_countOf_40 : decode cX5_countOf 40 = .ok (.aload_n 1, 1) := by decide +kernel
theorem dX5_countOf_41 : decode cX5_countOf 41 = .ok (.getfield 250, 3) := by decide +kernel
theorem dX5_countOf_44 : decode cX5_countOf 44 = .ok (.ireturn, 1) := by decide +kernel
theorem dX5_countOf_45 : decode cX5_countOf 45 = .ok (.aload_n 1, 1) := by decide +kernel
theorem dX5_countOf_46 : decode cX5_countOf 46 = .ok (.invokevirtual 253, 3) := by decide +kernel
theorem dX5_countOf_49 : decode cX5_countOf 49 = .ok (.ireturn, 1) := by decide +kernel
theorem dX5_countOf_50 : decode cX5_countOf 50 = .ok (.aload_n 1, 1) := by decide +kernel
theorem dX5_countOf_51 : decode cX5_countOf 51 = .ok (.getfield 256, 3) := by decide +kernel
theorem dX5_countOf_54 : decode cX5_countOf 54 = .ok (.ireturn, 1) := by decide +kernel
theorem dX5_countOf_55 : decode cX5_countOf 55 = .ok (.aload_n 1, 1) := by decide +kernel
theorem dX5_countOf_56 : decode cX5_countOf 56 = .ok (.aload_n 0, 1) := by decide +kernel
theorem dX5_countOf_57 : decode cX5_countOf 57 = .ok (.getfield 37, 3) := by decide +kernel
theorem dX5_countOf_60 : decode cX5_countOf 60 = .ok (.invokevirtual 259, 3) := by decide +kernel
theorem dX5_countOf_63 : decode cX5_countOf 63 = .ok (.ireturn, 1) := by decide +kernel
theorem dX5_countOf_64 : decode cX5_countOf 64 = .ok (.aload_n 0, 1) := by decide +kernel
theorem dX5_countOf_65 : decode cX5_countOf 65 = .ok (.getfield 30, 3) := by decide +kernel
theorem dX5_countOf_68 : decode cX5_countOf 68 = .ok (.aload_n 1, 1) := by decide +kernel
theorem dX5_countOf_69 : decode cX5_countOf 69 = .ok (.getfield 262, 3) := by decide +kernel
theorem dX5_countOf_72 : decode cX5_countOf 72 = .ok (.invokevirtual 265, 3) := by decide +kernel
theorem dX5_countOf_75 : decode cX5_countOf 75 = .ok (.ireturn, 1) := by decide +kernel
theorem dX5_countOf_76 : decode cX5_countOf 76 = .ok (.aload_n 1, 1) := by decide +kernel
theorem dX5_countOf_77 : decode cX5_countOf 77 = .ok (.getfield 268, 3) := by decide +kernel
theorem dX5_countOf_80 : decode cX5_countOf 80 = .ok (.ireturn, 1) := by decide +kernel
theorem dX5_countOf_81 : decode cX5_countOf 81 = .ok (.aload_n 1, 1) := by decide +kernel
theorem dX5_countOf_82 : decode cX5_countOf 82 = .ok (.getfield 271, 3) := by decide +kernel
theorem dX5_countOf_85 : decode cX5_countOf 85 = .ok (.ireturn, 1) := by decide +kernel
theorem dX5_weightsOf_0 : decode cX5_weightsOf 0 = .ok (.aload_n 0, 1) := by decide +kernel
theorem dX5_weightsOf_1 : decode cX5_weightsOf 1 = .ok (.getfield 30, 3) := by decide +kernel
theorem dX5_weightsOf_4 : decode cX5_weightsOf 4 = .ok (.iload_n 1, 1) := by decide +kernel
theorem dX5_weightsOf_5 : decode cX5_weightsOf 5 = .ok (.invokevirtual 274, 3) := by decide +kernel
theorem dX5_weightsOf_8 : decode cX5_weightsOf 8 = .ok (.istore_n 2, 1) := by decide +kernel
theorem dX5_weightsOf_9 : decode cX5_weightsOf 9 = .ok (.iconst 0, 1) := by decide +kernel
theorem dX5_weightsOf_10 : decode cX5_weightsOf 10 = .ok (.istore_n 3, 1) := by decide +kernel
theorem dX5_weightsOf_11 : decode cX5_weightsOf 11 = .ok (.iload_n 3, 1) := by decide +kernel
theorem dX5_weightsOf_12 : decode cX5_weightsOf 12 = .ok (.aload_n 0, 1) := by decide +kernel
theorem dX5_weightsOf_13 : decode cX5_weightsOf 13 = .ok (.getfield 20, 3) := by decide +kernel
theorem dX5_weightsOf_16 : decode cX5_weightsOf 16 = .ok (.arraylength, 1) := by decide +kernel
theorem dX5_weightsOf_17 : decode cX5_weightsOf 17 = .ok (.if_icmp .ge 22, 3) := by decide +kernel
theorem dX5_weightsOf_20 : decode cX5_weightsOf 20 = .ok (.iload_n 2, 1) := by decide +kernel
theorem dX5_weightsOf_21 : decode cX5_weightsOf 21 = .ok (.aload_n 0, 1) := by decide +kernel
theorem dX5_weightsOf_22 : decode cX5_weightsOf 22 = .ok (.getfield 20, 3) := by decide +kernel
theorem dX5_weightsOf_25 : decode cX5_weightsOf 25 = .ok (.iload_n 3, 1) := by decide +kernel
theorem dX5_weightsOf_26 : decode cX5_weightsOf 26 = .ok (.aaload, 1) := by decide +kernel
theorem dX5_weightsOf_27 : decode cX5_weightsOf 27 = .ok (.iload_n 1, 1) := by decide +kernel
theorem dX5_weightsOf_28 : decode cX5_weightsOf 28 = .ok (.invokevirtual 215, 3) := by decide +kernel
theorem dX5_weightsOf_31 : decode cX5_weightsOf 31 = .ok (.iadd, 1) := by decide +kernel
theorem dX5_weightsOf_32 : decode cX5_weightsOf 32 = .ok (.istore_n 2, 1) := by decide +kernel
theorem dX5_weightsOf_33 : decode cX5_weightsOf 33 = .ok (.iinc 3 1, 3) := by decide +kernel
theorem dX5_weightsOf_36 : decode cX5_weightsOf 36 = .ok (.goto (-25), 3) := by decide +kernel
theorem dX5_weightsOf_39 : decode cX5_weightsOf 39 = .ok (.iload_n 2, 1) := by decide +kernel
theorem dX5_weightsOf_40 : decode cX5_weightsOf 40 = .ok (.ireturn, 1) := by decide +kernel
theorem dX6_init_0 : decode cX6_init 0 = .ok (.aload_n 0, 1) := by decide +kernel
theorem dX6_init_1 : decode cX6_init 1 = .ok (.invokespecial 7, 3) := by decide +kernel
theorem dX6_init_4 : decode cX6_init 4 = .ok (.aload_n 0, 1) := by decide +kernel
theorem dX6_init_5 : decode cX6_init 5 = .ok (.bipush 120, 2) := by decide +kernel
theorem dX6_init_7 : decode cX6_init 7 = .ok (.newarray .int, 2) := by decide +kernel
theorem dX6_init_9 : decode cX6_init 9 = .ok (.putfield 13, 3) := by decide +kernel
theorem dX6_init_12 : decode cX6_init 12 = .ok (.aload_n 0, 1) := by decide +kernel
theorem dX6_init_13 : decode cX6_init 13 = .ok (.bipush 120, 2) := by decide +kernel
theorem dX6_init_15 : decode cX6_init 15 = .ok (.newarray .int, 2) := by decide +kernel
theorem dX6_init_17 : decode cX6_init 17 = .ok (.putfield 17, 3) := by decide +kernel
theorem dX6_init_20 : decode cX6_init 20 = .ok (.aload_n 0, 1) := by decide +kernel
theorem dX6_init_21 : decode cX6_init 21 = .ok (.bipush 120, 2) := by decide +kernel
theorem dX6_init_23 : decode cX6_init 23 = .ok (.newarray .int, 2) := by decide +kernel
theorem dX6_init_25 : decode cX6_init 25 = .ok (.putfield 20, 3) := by decide +kernel
theorem dX6_init_28 : decode cX6_init 28 = .ok (.aload_n 0, 1) := by decide +kernel
theorem dX6_init_29 : decode cX6_init 29 = .ok (.bipush 120, 2) := by decide +kernel
theorem dX6_init_31 : decode cX6_init 31 = .ok (.newarray .boolean, 2) := by decide +kernel
theorem dX6_init_33 : decode cX6_init 33 = .ok (.putfield 23, 3) := by decide +kernel
theorem dX6_init_36 : decode cX6_init 36 = .ok (.aload_n 0, 1) := by decide +kernel
theorem dX6_init_37 : decode cX6_init 37 = .ok (.sipush 1440, 3) := by decide +kernel
theorem dX6_init_40 : decode cX6_init 40 = .ok (.newarray .int, 2) := by decide +kernel
theorem dX6_init_42 : decode cX6_init 42 = .ok (.putfield 27, 3) := by decide +kernel
theorem dX6_init_45 : decode cX6_init 45 = .ok (.aload_n 0, 1) := by decide +kernel
theorem dX6_init_46 : decode cX6_init 46 = .ok (.sipush 1440, 3) := by decide +kernel
theorem dX6_init_49 : decode cX6_init 49 = .ok (.newarray .int, 2) := by decide +kernel
theorem dX6_init_51 : decode cX6_init 51 = .ok (.putfield 30, 3) := by decide +kernel
theorem dX6_init_54 : decode cX6_init 54 = .ok (.aload_n 0, 1) := by decide +kernel
theorem dX6_init_55 : decode cX6_init 55 = .ok (.bipush 30, 2) := by decide +kernel
theorem dX6_init_57 : decode cX6_init 57 = .ok (.newarray .int, 2) := by decide +kernel
theorem dX6_init_59 : decode cX6_init 59 = .ok (.putfield 33, 3) := by decide +kernel
theorem dX6_init_62 : decode cX6_init 62 = .ok (.aload_n 0, 1) := by decide +kernel
theorem dX6_init_63 : decode cX6_init 63 = .ok (.bipush 30, 2) := by decide +kernel
theorem dX6_init_65 : decode cX6_init 65 = .ok (.newarray .int, 2) := by decide +kernel
theorem dX6_init_67 : decode cX6_init 67 = .ok (.putfield 36, 3) := by decide +kernel
theorem dX6_init_70 : decode cX6_init 70 = .ok (.aload_n 0, 1) := by decide +kernel
theorem dX6_init_71 : decode cX6_init 71 = .ok (.sipush 600, 3) := by decide +kernel
theorem dX6_init_74 : decode cX6_init 74 = .ok (.newarray .int, 2) := by decide +kernel
theorem dX6_init_76 : decode cX6_init 76 = .ok (.putfield 39, 3) := by decide +kernel
theorem dX6_init_79 : decode cX6_init 79 = .ok (.aload_n 0, 1) := by decide +kernel
theorem dX6_init_80 : decode cX6_init 80 = .ok (.iconst 5, 1) := by decide +kernel
theorem dX6_init_81 : decode cX6_init 81 = .ok (.newarray .int, 2) := by decide +kernel
theorem dX6_init_83 : decode cX6_init 83 = .ok (.putfield 42, 3) := by decide +kernel
theorem dX6_init_86 : decode cX6_init 86 = .ok (.aload_n 0, 1) := by decide +kernel
theorem dX6_init_87 : decode cX6_init 87 = .ok (.iconst 5, 1) := by decide +kernel
theorem dX6_init_88 : decode cX6_init 88 = .ok (.newarray .int, 2) := by decide +kernel
theorem dX6_init_90 : decode cX6_init 90 = .ok (.putfield 45, 3) := by decide +kernel
theorem dX6_init_93 : decode cX6_init 93 = .ok (.aload_n 0, 1) := by decide +kernel
theorem dX6_init_94 : decode cX6_init 94 = .ok (.bipush 64, 2) := by decide +kernel
theorem dX6_init_96 : decode cX6_init 96 = .ok (.newarray .int, 2) := by decide +kernel
theorem dX6_init_98 : decode cX6_init 98 = .ok (.putfield 48, 3) := by decide +kernel
theorem dX6_init_101 : decode cX6_init 101 = .ok (.aload_n 0, 1) := by decide +kernel
theorem dX6_init_102 : decode cX6_init 102 = .ok (.bipush 64, 2) := by decide +kernel
theorem dX6_init_104 : decode cX6_init 104 = .ok (.newarray .int, 2) := by decide +kernel
theorem dX6_init_106 : decode cX6_init 106 = .ok (.putfield 51, 3) := by decide +kernel
theorem dX6_init_109 : decode cX6_init 109 = .ok (.aload_n 0, 1) := by decide +kernel
theorem dX6_init_110 : decode cX6_init 110 = .ok (.bipush 64, 2) := by decide +kernel
theorem dX6_init_112 : decode cX6_init 112 = .ok (.newarray .int, 2) := by decide +kernel
theorem dX6_init_114 : decode cX6_init 114 = .ok (.putfield 54, 3) := by decide +kernel
theorem dX6_init_117 : decode cX6_init 117 = .ok (.aload_n 0, 1) := by decide +kernel
theorem dX6_init_118 : decode cX6_init 118 = .ok (.bipush 64, 2) := by decide +kernel
theorem dX6_init_120 : decode cX6_init 120 = .ok (.newarray .int, 2) := by decide +kernel
theorem dX6_init_122 : decode cX6_init 122 = .ok (.putfield 57, 3) := by decide +kernel
theorem dX6_init_125 : decode cX6_init 125 = .ok (.aload_n 0, 1) := by decide +kernel
theorem dX6_init_126 : decode cX6_init 126 = .ok (.bipush 64, 2) := by decide +kernel
theorem dX6_init_128 : decode cX6_init 128 = .ok (.newarray .int, 2) := by decide +kernel
theorem dX6_init_130 : decode cX6_init 130 = .ok (.putfield 60, 3) := by decide +kernel
theorem dX6_init_133 : decode cX6_init 133 = .ok (.aload_n 0, 1) := by decide +kernel
theorem dX6_init_134 : decode cX6_init 134 = .ok (.bipush 64, 2) := by decide +kernel
theorem dX6_init_136 : decode cX6_init 136 = .ok (.newarray .int, 2) := by decide +kernel
theorem dX6_init_138 : decode cX6_init 138 = .ok (.putfield 63, 3) := by decide +kernel
theorem dX6_init_141 : decode cX6_init 141 = .ok (.aload_n 0, 1) := by decide +kernel
theorem dX6_init_142 : decode cX6_init 142 = .ok (.bipush 120, 2) := by decide +kernel
theorem dX6_init_144 : decode cX6_init 144 = .ok (.newarray .boolean, 2) := by decide +kernel
theorem dX6_init_146 : decode cX6_init 146 = .ok (.putfield 66, 3) := by decide +kernel
theorem dX6_init_149 : decode cX6_init 149 = .ok (.aload_n 0, 1) := by decide +kernel
theorem dX6_init_150 : decode cX6_init 150 = .ok (.bipush 120, 2) := by decide +kernel
theorem dX6_init_152 : decode cX6_init 152 = .ok (.newarray .boolean, 2) := by decide +kernel
theorem dX6_init_154 : decode cX6_init 154 = .ok (.putfield 69, 3) := by decide +kernel
theorem dX6_init_157 : decode cX6_init 157 = .ok (.aload_n 0, 1) := by decide +kernel
theorem dX6_init_158 : decode cX6_init 158 = .ok (.bipush 120, 2) := by decide +kernel
theorem dX6_init_160 : decode cX6_init 160 = .ok (.newarray .int, 2) := by decide +kernel
theorem dX6_init_162 : decode cX6_init 162 = .ok (.putfield 72, 3) := by decide +kernel
theorem dX6_init_165 : decode cX6_init 165 = .ok (.aload_n 0, 1) := by decide +kernel
theorem dX6_init_166 : decode cX6_init 166 = .ok (.bipush 120, 2) := by decide +kernel
theorem dX6_init_168 : decode cX6_init 168 = .ok (.newarray .boolean, 2) := by decide +kernel
theorem dX6_init_170 : decode cX6_init 170 = .ok (.putfield 75, 3) := by decide +kernel
theorem dX6_init_173 : decode cX6_init 173 = .ok (.aload_n 0, 1) := by decide +kernel
theorem dX6_init_174 : decode cX6_init 174 = .ok (.sipush 600, 3) := by decide +kernel
theorem dX6_init_177 : decode cX6_init 177 = .ok (.newarray .boolean, 2) := by decide +kernel
theorem dX6_init_179 : decode cX6_init 179 = .ok (.putfield 78, 3) := by decide +kernel
theorem dX6_init_182 : decode cX6_init 182 = .ok (.aload_n 0, 1) := by decide +kernel
theorem dX6_init_183 : decode cX6_init 183 = .ok (.bipush 120, 2) := by decide +kernel
theorem dX6_init_185 : decode cX6_init 185 = .ok (.newarray .boolean, 2) := by decide +kernel
theorem dX6_init_187 : decode cX6_init 187 = .ok (.putfield 81, 3) := by decide +kernel
theorem dX6_init_190 : decode cX6_init 190 = .ok (.aload_n 0, 1) := by decide +kernel
theorem dX6_init_191 : decode cX6_init 191 = .ok (.bipush 120, 2) := by decide +kernel
theorem dX6_init_193 : decode cX6_init 193 = .ok (.newarray .boolean, 2) := by decide +kernel
theorem dX6_init_195 : decode cX6_init 195 = .ok (.putfield 84, 3) := by decide +kernel
theorem dX6_init_198 : decode cX6_init 198 = .ok (.aload_n 0, 1) := by decide +kernel
theorem dX6_init_199 : decode cX6_init 199 = .ok (.iload_n 1, 1) := by decide +kernel
theorem dX6_init_200 : decode cX6_init 200 = .ok (.iconst 1, 1) := by decide +kernel
theorem dX6_init_201 : decode cX6_init 201 = .ok (.if_icmp .ge 7, 3) := by decide +kernel
theorem dX6_init_204 : decode cX6_init 204 = .ok (.iconst 1, 1) := by decide +kernel
theorem dX6_init_205 : decode cX6_init 205 = .ok (.goto 13, 3) := by decide +kernel
theorem dX6_init_208 : decode cX6_init 208 = .ok (.iload_n 1, 1) := by decide +kernel
theorem dX6_init_209 : decode cX6_init 209 = .ok (.iconst 5, 1) := by decide +kernel
theorem dX6_init_210 : decode cX6_init 210 = .ok (.if_icmp .le 7, 3) := by decide +kernel
theorem dX6_init_213 : decode cX6_init 213 = .ok (.iconst 5, 1) := by decide +kernel
theorem dX6_init_214 : decode cX6_init 214 = .ok (.goto 4, 3) := by decide +kernel
theorem dX6_init_217 : decode cX6_init 217 = .ok (.iload_n 1, 1) := by decide +kernel
theorem dX6_init_218 : decode cX6_init 218 = .ok (.putfield 87, 3) := by decide +kernel
theorem dX6_init_221 : decode cX6_init 221 = .ok (.return_, 1) := by decide +kernel
theorem dX6_isNode_0 : decode cX6_isNode 0 = .ok (.iload_n 1, 1) := by decide +kernel
theorem dX6_isNode_1 : decode cX6_isNode 1 = .ok (.ifCond .lt 15, 3) := by decide +kernel
theorem dX6_isNode_4 : decode cX6_isNode 4 = .ok (.iload_n 1, 1) := by decide +kernel
theorem dX6_isNode_5 : decode cX6_isNode 5 = .ok (.aload_n 0, 1) := by decide +kernel
theorem dX6_isNode_6 : decode cX6_isNode 6 = .ok (.getfield 87, 3) := by decide +kernel
theorem dX6_isNode_9 : decode cX6_isNode 9 = .ok (.if_icmp .ge 7, 3) := by decide +kernel
theorem dX6_isNode_12 : decode cX6_isNode 12 = .ok (.iconst 1, 1) := by decide +kernel
theorem dX6_isNode_13 : decode cX6_isNode 13 = .ok (.goto 4, 3) := by decide +kernel
theorem dX6_isNode_16 : decode cX6_isNode 16 = .ok (.iconst 0, 1) := by decide +kernel
theorem dX6_isNode_17 : decode cX6_isNode 17 = .ok (.ireturn, 1) := by decide +kernel
theorem dX6_isRegister_0 : decode cX6_isRegister 0 = .ok (.aload_n 0, 1) := by decide +kernel
theorem dX6_isRegister_1 : decode cX6_isRegister 1 = .ok (.iload_n 1, 1) := by decide +kernel
theorem dX6_isRegister_2 : decode cX6_isRegister 2 = .ok (.invokevirtual 90, 3) := by decide +kernel
theorem dX6_isRegister_5 : decode cX6_isRegister 5 = .ok (.ifCond .eq 17, 3) := by decide +kernel
theorem dX6_isRegister_8 : decode cX6_isRegister 8 = .ok (.iload_n 2, 1) := by decide +kernel
theorem dX6_isRegister_9 : decode cX6_isRegister 9 = .ok (.ifCond .lt 13, 3) := by decide +kernel
theorem dX6_isRegister_12 : decode cX6_isRegister 12 = .ok (.iload_n 2, 1) := by decide +kernel
theorem dX6_isRegister_13 : decode cX6_isRegister 13 = .ok (.bipush 6, 2) := by decide +kernel
theorem dX6_isRegister_15 : decode cX6_isRegister 15 = .ok (.if_icmp .ge 7, 3) := by decide +kernel
theorem dX6_isRegister_18 : decode cX6_isRegister 18 = .ok (.iconst 1, 1) := by decide +kernel
theorem dX6_isRegister_19 : decode cX6_isRegister 19 = .ok (.goto 4, 3) := by decide +kernel
theorem dX6_isRegister_22 : decode cX6_isRegister 22 = .ok (.iconst 0, 1) := by decide +kernel
theorem dX6_isRegister_23 : decode cX6_isRegister 23 = .ok (.ireturn, 1) := by decide +kernel
theorem dX6_isObject_0 : decode cX6_isObject 0 = .ok (.aload_n 0, 1) := by decide +kernel
theorem dX6_isObject_1 : decode cX6_isObject 1 = .ok (.iload_n 1, 1) := by decide +kernel
theorem dX6_isObject_2 : decode cX6_isObject 2 = .ok (.invokevirtual 90, 3) := by decide +kernel
theorem dX6_isObject_5 : decode cX6_isObject 5 = .ok (.ifCond .eq 31, 3) := by decide +kernel
theorem dX6_isObject_8 : decode cX6_isObject 8 = .ok (.iload_n 2, 1) := by decide +kernel
theorem dX6_isObject_9 : decode cX6_isObject 9 = .ok (.ifCond .lt 27, 3) := by decide +kernel
theorem dX6_isObject_12 : decode cX6_isObject 12 = .ok (.iload_n 2, 1) := by decide +kernel
theorem dX6_isObject_13 : decode cX6_isObject 13 = .ok (.bipush 24, 2) := by decide +kernel
theorem dX6_isObject_15 : decode cX6_isObject 15 = .ok (.if_icmp .ge 21, 3) := by decide +kernel
theorem dX6_isObject_18 : decode cX6_isObject 18 = .ok (.aload_n 0, 1) := by decide +kernel
theorem dX6_isObject_19 : decode cX6_isObject 19 = .ok (.getfield 23, 3) := by decide +kernel
theorem dX6_isObject_22 : decode cX6_isObject 22 = .ok (.bipush 24, 2) := by decide +kernel
theorem dX6_isObject_24 : decode cX6_isObject 24 = .ok (.iload_n 1, 1) := by decide +kernel
theorem dX6_isObject_25 : decode cX6_isObject 25 = .ok (.imul, 1) := by decide +kernel
theorem dX6_isObject_26 : decode cX6_isObject 26 = .ok (.iload_n 2, 1) := by decide +kernel
theorem dX6_isObject_27 : decode cX6_isObject 27 = .ok (.iadd, 1) := by decide +kernel
theorem dX6_isObject_28 : decode cX6_isObject 28 = .ok (.baload, 1) := by decide +kernel
theorem dX6_isObject_29 : decode cX6_isObject 29 = .ok (.ifCond .eq 7, 3) := by decide +kernel
theorem dX6_isObject_32 : decode cX6_isObject 32 = .ok (.iconst 1, 1) := by decide +kernel
theorem dX6_isObject_33 : decode cX6_isObject 33 = .ok (.goto 4, 3) := by decide +kernel
theorem dX6_isObject_36 : decode cX6_isObject 36 = .ok (.iconst 0, 1) := by decide +kernel
theorem dX6_isObject_37 : decode cX6_isObject 37 = .ok (.ireturn, 1) := by decide +kernel
theorem dX6_local_0 : decode cX6_local 0 = .ok (.bipush 6, 2) := by decide +kernel
theorem dX6_local_2 : decode cX6_local 2 = .ok (.iload_n 1, 1) := by decide +kernel
theorem dX6_local_3 : decode cX6_local 3 = .ok (.imul, 1) := by decide +kernel
theorem dX6_local_4 : decode cX6_local 4 = .ok (.iload_n 2, 1) := by decide +kernel
