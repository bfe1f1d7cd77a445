theorem dX3_remove_21 : decode cX3_remove 21 = .ok (.aaload, 1) := by decide +kernel
theorem dX3_remove_22 : decode cX3_remove 22 = .ok (.aload_n 1, 1) := by decide +kernel
theorem dX3_remove_23 : decode cX3_remove 23 = .ok (.if_acmp .ne 7, 3) := by decide +kernel
theorem dX3_remove_26 : decode cX3_remove 26 = .ok (.iconst 1, 1) := by decide +kernel
theorem dX3_remove_27 : decode cX3_remove 27 = .ok (.goto 4, 3) := by decide +kernel
theorem dX3_remove_30 : decode cX3_remove 30 = .ok (.iconst 0, 1) := by decide +kernel
theorem dX3_remove_31 : decode cX3_remove 31 = .ok (.istore_n 2, 1) := by decide +kernel
theorem dX3_remove_32 : decode cX3_remove 32 = .ok (.iload_n 2, 1) := by decide +kernel
theorem dX3_remove_33 : decode cX3_remove 33 = .ok (.ifCond .eq 27, 3) := by decide +kernel
theorem dX3_remove_36 : decode cX3_remove 36 = .ok (.iload_n 3, 1) := by decide +kernel
theorem dX3_remove_37 : decode cX3_remove 37 = .ok (.iconst 1, 1) := by decide +kernel
theorem dX3_remove_38 : decode cX3_remove 38 = .ok (.iadd, 1) := by decide +kernel
theorem dX3_remove_39 : decode cX3_remove 39 = .ok (.aload_n 0, 1) := by decide +kernel
theorem dX3_remove_40 : decode cX3_remove 40 = .ok (.getfield 18, 3) := by decide +kernel
theorem dX3_remove_43 : decode cX3_remove 43 = .ok (.if_icmp .ge 17, 3) := by decide +kernel
theorem dX3_remove_46 : decode cX3_remove 46 = .ok (.aload_n 0, 1) := by decide +kernel
theorem dX3_remove_47 : decode cX3_remove 47 = .ok (.getfield 11, 3) := by decide +kernel
theorem dX3_remove_50 : decode cX3_remove 50 = .ok (.iload_n 3, 1) := by decide +kernel
theorem dX3_remove_51 : decode cX3_remove 51 = .ok (.aload_n 0, 1) := by decide +kernel
theorem dX3_remove_52 : decode cX3_remove 52 = .ok (.getfield 11, 3) := by decide +kernel
theorem dX3_remove_55 : decode cX3_remove 55 = .ok (.iload_n 3, 1) := by decide +kernel
theorem dX3_remove_56 : decode cX3_remove 56 = .ok (.iconst 1, 1) := by decide +kernel
theorem dX3_remove_57 : decode cX3_remove 57 = .ok (.iadd, 1) := by decide +kernel
theorem dX3_remove_58 : decode cX3_remove 58 = .ok (.aaload, 1) := by decide +kernel
theorem dX3_remove_59 : decode cX3_remove 59 = .ok (.aastore, 1) := by decide +kernel
theorem dX3_remove_60 : decode cX3_remove 60 = .ok (.iinc 3 1, 3) := by decide +kernel
theorem dX3_remove_63 : decode cX3_remove 63 = .ok (.goto (-59), 3) := by decide +kernel
theorem dX3_remove_66 : decode cX3_remove 66 = .ok (.iload_n 2, 1) := by decide +kernel
theorem dX3_remove_67 : decode cX3_remove 67 = .ok (.ifCond .eq 23, 3) := by decide +kernel
theorem dX3_remove_70 : decode cX3_remove 70 = .ok (.aload_n 0, 1) := by decide +kernel
theorem dX3_remove_71 : decode cX3_remove 71 = .ok (.dup, 1) := by decide +kernel
theorem dX3_remove_72 : decode cX3_remove 72 = .ok (.getfield 18, 3) := by decide +kernel
theorem dX3_remove_75 : decode cX3_remove 75 = .ok (.iconst 1, 1) := by decide +kernel
theorem dX3_remove_76 : decode cX3_remove 76 = .ok (.isub, 1) := by decide +kernel
theorem dX3_remove_77 : decode cX3_remove 77 = .ok (.putfield 18, 3) := by decide +kernel
theorem dX3_remove_80 : decode cX3_remove 80 = .ok (.aload_n 0, 1) := by decide +kernel
theorem dX3_remove_81 : decode cX3_remove 81 = .ok (.getfield 11, 3) := by decide +kernel
theorem dX3_remove_84 : decode cX3_remove 84 = .ok (.aload_n 0, 1) := by decide +kernel
theorem dX3_remove_85 : decode cX3_remove 85 = .ok (.getfield 18, 3) := by decide +kernel
theorem dX3_remove_88 : decode cX3_remove 88 = .ok (.aload_n 1, 1) := by decide +kernel
theorem dX3_remove_89 : decode cX3_remove 89 = .ok (.aastore, 1) := by decide +kernel
theorem dX3_remove_90 : decode cX3_remove 90 = .ok (.return_, 1) := by decide +kernel
theorem dX3_markRefs_0 : decode cX3_markRefs 0 = .ok (.iconst 0, 1) := by decide +kernel
theorem dX3_markRefs_1 : decode cX3_markRefs 1 = .ok (.istore_n 2, 1) := by decide +kernel
theorem dX3_markRefs_2 : decode cX3_markRefs 2 = .ok (.iload_n 2, 1) := by decide +kernel
theorem dX3_markRefs_3 : decode cX3_markRefs 3 = .ok (.aload_n 0, 1) := by decide +kernel
theorem dX3_markRefs_4 : decode cX3_markRefs 4 = .ok (.getfield 18, 3) := by decide +kernel
theorem dX3_markRefs_7 : decode cX3_markRefs 7 = .ok (.if_icmp .ge 35, 3) := by decide +kernel
theorem dX3_markRefs_10 : decode cX3_markRefs 10 = .ok (.aload_n 0, 1) := by decide +kernel
theorem dX3_markRefs_11 : decode cX3_markRefs 11 = .ok (.getfield 11, 3) := by decide +kernel
theorem dX3_markRefs_14 : decode cX3_markRefs 14 = .ok (.iload_n 2, 1) := by decide +kernel
theorem dX3_markRefs_15 : decode cX3_markRefs 15 = .ok (.aaload, 1) := by decide +kernel
theorem dX3_markRefs_16 : decode cX3_markRefs 16 = .ok (.getfield 26, 3) := by decide +kernel
theorem dX3_markRefs_19 : decode cX3_markRefs 19 = .ok (.iconst 1, 1) := by decide +kernel
theorem dX3_markRefs_20 : decode cX3_markRefs 20 = .ok (.if_icmp .ne 16, 3) := by decide +kernel
theorem dX3_markRefs_23 : decode cX3_markRefs 23 = .ok (.aload_n 1, 1) := by decide +kernel
theorem dX3_markRefs_24 : decode cX3_markRefs 24 = .ok (.aload_n 0, 1) := by decide +kernel
theorem dX3_markRefs_25 : decode cX3_markRefs 25 = .ok (.getfield 11, 3) := by decide +kernel
theorem dX3_markRefs_28 : decode cX3_markRefs 28 = .ok (.iload_n 2, 1) := by decide +kernel
theorem dX3_markRefs_29 : decode cX3_markRefs 29 = .ok (.aaload, 1) := by decide +kernel
theorem dX3_markRefs_30 : decode cX3_markRefs 30 = .ok (.getfield 35, 3) := by decide +kernel
theorem dX3_markRefs_33 : decode cX3_markRefs 33 = .ok (.invokevirtual 44, 3) := by decide +kernel
theorem dX3_markRefs_36 : decode cX3_markRefs 36 = .ok (.iinc 2 1, 3) := by decide +kernel
theorem dX3_markRefs_39 : decode cX3_markRefs 39 = .ok (.goto (-37), 3) := by decide +kernel
theorem dX3_markRefs_42 : decode cX3_markRefs 42 = .ok (.return_, 1) := by decide +kernel
theorem dX3_countTo_0 : decode cX3_countTo 0 = .ok (.iconst 0, 1) := by decide +kernel
theorem dX3_countTo_1 : decode cX3_countTo 1 = .ok (.istore_n 2, 1) := by decide +kernel
theorem dX3_countTo_2 : decode cX3_countTo 2 = .ok (.iconst 0, 1) := by decide +kernel
theorem dX3_countTo_3 : decode cX3_countTo 3 = .ok (.istore_n 3, 1) := by decide +kernel
theorem dX3_countTo_4 : decode cX3_countTo 4 = .ok (.iload_n 3, 1) := by decide +kernel
theorem dX3_countTo_5 : decode cX3_countTo 5 = .ok (.aload_n 0, 1) := by decide +kernel
theorem dX3_countTo_6 : decode cX3_countTo 6 = .ok (.getfield 18, 3) := by decide +kernel
theorem dX3_countTo_9 : decode cX3_countTo 9 = .ok (.if_icmp .ge 25, 3) := by decide +kernel
theorem dX3_countTo_12 : decode cX3_countTo 12 = .ok (.aload_n 0, 1) := by decide +kernel
theorem dX3_countTo_13 : decode cX3_countTo 13 = .ok (.getfield 11, 3) := by decide +kernel
theorem dX3_countTo_16 : decode cX3_countTo 16 = .ok (.iload_n 3, 1) := by decide +kernel
theorem dX3_countTo_17 : decode cX3_countTo 17 = .ok (.aaload, 1) := by decide +kernel
theorem dX3_countTo_18 : decode cX3_countTo 18 = .ok (.getfield 32, 3) := by decide +kernel
theorem dX3_countTo_21 : decode cX3_countTo 21 = .ok (.iload_n 1, 1) := by decide +kernel
theorem dX3_countTo_22 : decode cX3_countTo 22 = .ok (.if_icmp .ne 6, 3) := by decide +kernel
theorem dX3_countTo_25 : decode cX3_countTo 25 = .ok (.iinc 2 1, 3) := by decide +kernel
theorem dX3_countTo_28 : decode cX3_countTo 28 = .ok (.iinc 3 1, 3) := by decide +kernel
theorem dX3_countTo_31 : decode cX3_countTo 31 = .ok (.goto (-27), 3) := by decide +kernel
theorem dX3_countTo_34 : decode cX3_countTo 34 = .ok (.iload_n 2, 1) := by decide +kernel
theorem dX3_countTo_35 : decode cX3_countTo 35 = .ok (.ireturn, 1) := by decide +kernel
theorem dX3_weightOf_0 : decode cX3_weightOf 0 = .ok (.iconst 0, 1) := by decide +kernel
theorem dX3_weightOf_1 : decode cX3_weightOf 1 = .ok (.istore_n 2, 1) := by decide +kernel
theorem dX3_weightOf_2 : decode cX3_weightOf 2 = .ok (.iconst 0, 1) := by decide +kernel
theorem dX3_weightOf_3 : decode cX3_weightOf 3 = .ok (.istore_n 3, 1) := by decide +kernel
theorem dX3_weightOf_4 : decode cX3_weightOf 4 = .ok (.iload_n 3, 1) := by decide +kernel
theorem dX3_weightOf_5 : decode cX3_weightOf 5 = .ok (.aload_n 0, 1) := by decide +kernel
theorem dX3_weightOf_6 : decode cX3_weightOf 6 = .ok (.getfield 18, 3) := by decide +kernel
theorem dX3_weightOf_9 : decode cX3_weightOf 9 = .ok (.if_icmp .ge 34, 3) := by decide +kernel
theorem dX3_weightOf_12 : decode cX3_weightOf 12 = .ok (.aload_n 0, 1) := by decide +kernel
theorem dX3_weightOf_13 : decode cX3_weightOf 13 = .ok (.getfield 11, 3) := by decide +kernel
theorem dX3_weightOf_16 : decode cX3_weightOf 16 = .ok (.iload_n 3, 1) := by decide +kernel
theorem dX3_weightOf_17 : decode cX3_weightOf 17 = .ok (.aaload, 1) := by decide +kernel
theorem dX3_weightOf_18 : decode cX3_weightOf 18 = .ok (.getfield 35, 3) := by decide +kernel
theorem dX3_weightOf_21 : decode cX3_weightOf 21 = .ok (.iload_n 1, 1) := by decide +kernel
theorem dX3_weightOf_22 : decode cX3_weightOf 22 = .ok (.if_icmp .ne 15, 3) := by decide +kernel
theorem dX3_weightOf_25 : decode cX3_weightOf 25 = .ok (.iload_n 2, 1) := by decide +kernel
theorem dX3_weightOf_26 : decode cX3_weightOf 26 = .ok (.aload_n 0, 1) := by decide +kernel
theorem dX3_weightOf_27 : decode cX3_weightOf 27 = .ok (.getfield 11, 3) := by decide +kernel
theorem dX3_weightOf_30 : decode cX3_weightOf 30 = .ok (.iload_n 3, 1) := by decide +kernel
theorem dX3_weightOf_31 : decode cX3_weightOf 31 = .ok (.aaload, 1) := by decide +kernel
theorem dX3_weightOf_32 : decode cX3_weightOf 32 = .ok (.getfield 38, 3) := by decide +kernel
theorem dX3_weightOf_35 : decode cX3_weightOf 35 = .ok (.iadd, 1) := by decide +kernel
theorem dX3_weightOf_36 : decode cX3_weightOf 36 = .ok (.istore_n 2, 1) := by decide +kernel
theorem dX3_weightOf_37 : decode cX3_weightOf 37 = .ok (.iinc 3 1, 3) := by decide +kernel
theorem dX3_weightOf_40 : decode cX3_weightOf 40 = .ok (.goto (-36), 3) := by decide +kernel
theorem dX3_weightOf_43 : decode cX3_weightOf 43 = .ok (.iload_n 2, 1) := by decide +kernel
theorem dX3_weightOf_44 : decode cX3_weightOf 44 = .ok (.ireturn, 1) := by decide +kernel
theorem dX4_init_0 : decode cX4_init 0 = .ok (.aload_n 0, 1) := by decide +kernel
theorem dX4_init_1 : decode cX4_init 1 = .ok (.invokespecial 3, 3) := by decide +kernel
theorem dX4_init_4 : decode cX4_init 4 = .ok (.aload_n 0, 1) := by decide +kernel
theorem dX4_init_5 : decode cX4_init 5 = .ok (.new 9, 3) := by decide +kernel
theorem dX4_init_8 : decode cX4_init 8 = .ok (.dup, 1) := by decide +kernel
theorem dX4_init_9 : decode cX4_init 9 = .ok (.invokespecial 11, 3) := by decide +kernel
theorem dX4_init_12 : decode cX4_init 12 = .ok (.putfield 12, 3) := by decide +kernel
theorem dX4_init_15 : decode cX4_init 15 = .ok (.aload_n 0, 1) := by decide +kernel
theorem dX4_init_16 : decode cX4_init 16 = .ok (.new 9, 3) := by decide +kernel
theorem dX4_init_19 : decode cX4_init 19 = .ok (.dup, 1) := by decide +kernel
theorem dX4_init_20 : decode cX4_init 20 = .ok (.invokespecial 11, 3) := by decide +kernel
theorem dX4_init_23 : decode cX4_init 23 = .ok (.putfield 18, 3) := by decide +kernel
theorem dX4_init_26 : decode cX4_init 26 = .ok (.aload_n 0, 1) := by decide +kernel
theorem dX4_init_27 : decode cX4_init 27 = .ok (.bipush 120, 2) := by decide +kernel
theorem dX4_init_29 : decode cX4_init 29 = .ok (.newarray .int, 2) := by decide +kernel
theorem dX4_init_31 : decode cX4_init 31 = .ok (.putfield 21, 3) := by decide +kernel
theorem dX4_init_34 : decode cX4_init 34 = .ok (.aload_n 0, 1) := by decide +kernel
theorem dX4_init_35 : decode cX4_init 35 = .ok (.bipush 120, 2) := by decide +kernel
theorem dX4_init_37 : decode cX4_init 37 = .ok (.newarray .int, 2) := by decide +kernel
theorem dX4_init_39 : decode cX4_init 39 = .ok (.putfield 25, 3) := by decide +kernel
theorem dX4_init_42 : decode cX4_init 42 = .ok (.return_, 1) := by decide +kernel
theorem dX4_run_0 : decode cX4_run 0 = .ok (.aload_n 0, 1) := by decide +kernel
theorem dX4_run_1 : decode cX4_run 1 = .ok (.getfield 12, 3) := by decide +kernel
theorem dX4_run_4 : decode cX4_run 4 = .ok (.invokevirtual 28, 3) := by decide +kernel
theorem dX4_run_7 : decode cX4_run 7 = .ok (.aload_n 0, 1) := by decide +kernel
theorem dX4_run_8 : decode cX4_run 8 = .ok (.getfield 12, 3) := by decide +kernel
theorem dX4_run_11 : decode cX4_run 11 = .ok (.iload_n 2, 1) := by decide +kernel
theorem dX4_run_12 : decode cX4_run 12 = .ok (.invokevirtual 31, 3) := by decide +kernel
theorem dX4_run_15 : decode cX4_run 15 = .ok (.aload_n 0, 1) := by decide +kernel
theorem dX4_run_16 : decode cX4_run 16 = .ok (.getfield 12, 3) := by decide +kernel
theorem dX4_run_19 : decode cX4_run 19 = .ok (.aload_n 1, 1) := by decide +kernel
theorem dX4_run_20 : decode cX4_run 20 = .ok (.invokevirtual 35, 3) := by decide +kernel
theorem dX4_run_23 : decode cX4_run 23 = .ok (.aload_n 0, 1) := by decide +kernel
theorem dX4_run_24 : decode cX4_run 24 = .ok (.aload_n 1, 1) := by decide +kernel
theorem dX4_run_25 : decode cX4_run 25 = .ok (.iload_n 2, 1) := by decide +kernel
theorem dX4_run_26 : decode cX4_run 26 = .ok (.invokevirtual 39, 3) := by decide +kernel
theorem dX4_run_29 : decode cX4_run 29 = .ok (.aload_n 0, 1) := by decide +kernel
theorem dX4_run_30 : decode cX4_run 30 = .ok (.getfield 18, 3) := by decide +kernel
theorem dX4_run_33 : decode cX4_run 33 = .ok (.iload_n 2, 1) := by decide +kernel
theorem dX4_run_34 : decode cX4_run 34 = .ok (.invokevirtual 43, 3) := by decide +kernel
theorem dX4_run_37 : decode cX4_run 37 = .ok (.ifCond .ne 18, 3) := by decide +kernel
theorem dX4_run_40 : decode cX4_run 40 = .ok (.aload_n 0, 1) := by decide +kernel
theorem dX4_run_41 : decode cX4_run 41 = .ok (.aload_n 1, 1) := by decide +kernel
theorem dX4_run_42 : decode cX4_run 42 = .ok (.invokevirtual 47, 3) := by decide +kernel
theorem dX4_run_45 : decode cX4_run 45 = .ok (.aload_n 3, 1) := by decide +kernel
theorem dX4_run_46 : decode cX4_run 46 = .ok (.getfield 51, 3) := by decide +kernel
theorem dX4_run_49 : decode cX4_run 49 = .ok (.iadd, 1) := by decide +kernel
theorem dX4_run_50 : decode cX4_run 50 = .ok (.bipush 60, 2) := by decide +kernel
theorem dX4_run_52 : decode cX4_run 52 = .ok (.if_icmp .le 5, 3) := by decide +kernel
theorem dX4_run_55 : decode cX4_run 55 = .ok (.iconst 0, 1) := by decide +kernel
theorem dX4_run_56 : decode cX4_run 56 = .ok (.ireturn, 1) := by decide +kernel
theorem dX4_run_57 : decode cX4_run 57 = .ok (.iconst 0, 1) := by decide +kernel
theorem dX4_run_58 : decode cX4_run 58 = .ok (.istore 4, 2) := by decide +kernel
theorem dX4_run_60 : decode cX4_run 60 = .ok (.iload 4, 2) := by decide +kernel
theorem dX4_run_62 : decode cX4_run 62 = .ok (.aload_n 1, 1) := by decide +kernel
theorem dX4_run_63 : decode cX4_run 63 = .ok (.arraylength, 1) := by decide +kernel
theorem dX4_run_64 : decode cX4_run 64 = .ok (.if_icmp .ge 18, 3) := by decide +kernel
theorem dX4_run_67 : decode cX4_run 67 = .ok (.aload_n 0, 1) := by decide +kernel
theorem dX4_run_68 : decode cX4_run 68 = .ok (.aload_n 1, 1) := by decide +kernel
theorem dX4_run_69 : decode cX4_run 69 = .ok (.iload 4, 2) := by decide +kernel
theorem dX4_run_71 : decode cX4_run 71 = .ok (.aaload, 1) := by decide +kernel
theorem dX4_run_72 : decode cX4_run 72 = .ok (.aload_n 3, 1) := by decide +kernel
theorem dX4_run_73 : decode cX4_run 73 = .ok (.invokevirtual 57, 3) := by decide +kernel
theorem dX4_run_76 : decode cX4_run 76 = .ok (.iinc 4 1, 3) := by decide +kernel
theorem dX4_run_79 : decode cX4_run 79 = .ok (.goto (-19), 3) := by decide +kernel
theorem dX4_run_82 : decode cX4_run 82 = .ok (.aload_n 0, 1) := by decide +kernel
theorem dX4_run_83 : decode cX4_run 83 = .ok (.getfield 12, 3) := by decide +kernel
theorem dX4_run_86 : decode cX4_run 86 = .ok (.getfield 61, 3) := by decide +kernel
theorem dX4_run_89 : decode cX4_run 89 = .ok (.aload_n 0, 1) := by decide +kernel
theorem dX4_run_90 : decode cX4_run 90 = .ok (.getfield 18, 3) := by decide +kernel
theorem dX4_run_93 : decode cX4_run 93 = .ok (.getfield 61, 3) := by decide +kernel
theorem dX4_run_96 : decode cX4_run 96 = .ok (.isub, 1) := by decide +kernel
theorem dX4_run_97 : decode cX4_run 97 = .ok (.ireturn, 1) := by decide +kernel
theorem dX4_findWithout_0 : decode cX4_findWithout 0 = .ok (.aload_n 0, 1) := by decide +kernel
theorem dX4_findWithout_1 : decode cX4_findWithout 1 = .ok (.getfield 18, 3) := by decide +kernel
theorem dX4_findWithout_4 : decode cX4_findWithout 4 = .ok (.invokevirtual 28, 3) := by decide +kernel
theorem dX4_findWithout_7 : decode cX4_findWithout 7 = .ok (.iconst 0, 1) := by decide +kernel
theorem dX4_findWithout_8 : decode cX4_findWithout 8 = .ok (.istore_n 3, 1) := by decide +kernel
theorem dX4_findWithout_9 : decode cX4_findWithout 9 = .ok (.iload_n 3, 1) := by decide +kernel
theorem dX4_findWithout_10 : decode cX4_findWithout 10 = .ok (.aload_n 1, 1) := by decide +kernel
theorem dX4_findWithout_11 : decode cX4_findWithout 11 = .ok (.arraylength, 1) := by decide +kernel
theorem dX4_findWithout_12 : decode cX4_findWithout 12 = .ok (.if_icmp .ge 16, 3) := by decide +kernel
theorem dX4_findWithout_15 : decode cX4_findWithout 15 = .ok (.aload_n 0, 1) := by decide +kernel
theorem dX4_findWithout_16 : decode cX4_findWithout 16 = .ok (.aload_n 1, 1) := by decide +kernel
theorem dX4_findWithout_17 : decode cX4_findWithout 17 = .ok (.iload_n 3, 1) := by decide +kernel
theorem dX4_findWithout_18 : decode cX4_findWithout 18 = .ok (.aaload, 1) := by decide +kernel
theorem dX4_findWithout_19 : decode cX4_findWithout 19 = .ok (.invokevirtual 62, 3) := by decide +kernel
theorem dX4_findWithout_22 : decode cX4_findWithout 22 = .ok (.iinc 3 1, 3) := by decide +kernel
theorem dX4_findWithout_25 : decode cX4_findWithout 25 = .ok (.goto (-16), 3) := by decide +kernel
theorem dX4_findWithout_28 : decode cX4_findWithout 28 = .ok (.iconst 0, 1) := by decide +kernel
theorem dX4_findWithout_29 : decode cX4_findWithout 29 = .ok (.istore_n 3, 1) := by decide +kernel
theorem dX4_findWithout_30 : decode cX4_findWithout 30 = .ok (.iload_n 3, 1) := by decide +kernel
theorem dX4_findWithout_31 : decode cX4_findWithout 31 = .ok (.bipush 120, 2) := by decide +kernel
theorem dX4_findWithout_33 : decode cX4_findWithout 33 = .ok (.if_icmp .gt 42, 3) := by decide +kernel
theorem dX4_findWithout_36 : decode cX4_findWithout 36 = .ok (.aload_n 0, 1) := by decide +kernel
theorem dX4_findWithout_37 : decode cX4_findWithout 37 = .ok (.getfield 18, 3) := by decide +kernel
theorem dX4_findWithout_40 : decode cX4_findWithout 40 = .ok (.iload_n 2, 1) := by decide +kernel
theorem dX4_findWithout_41 : decode cX4_findWithout 41 = .ok (.invokevirtual 43, 3) := by decide +kernel
theorem dX4_findWithout_44 : decode cX4_findWithout 44 = .ok (.ifCond .ne 31, 3) := by decide +kernel
theorem dX4_findWithout_47 : decode cX4_findWithout 47 = .ok (.aload_n 0, 1) := by decide +kernel
theorem dX4_findWithout_48 : decode cX4_findWithout 48 = .ok (.getfield 18, 3) := by decide +kernel
theorem dX4_findWithout_51 : decode cX4_findWithout 51 = .ok (.aload_n 1, 1) := by decide +kernel
theorem dX4_findWithout_52 : decode cX4_findWithout 52 = .ok (.invokevirtual 35, 3) := by decide +kernel
theorem dX4_findWithout_55 : decode cX4_findWithout 55 = .ok (.aload_n 0, 1) := by decide +kernel
theorem dX4_findWithout_56 : decode cX4_findWithout 56 = .ok (.aload_n 1, 1) := by decide +kernel
theorem dX4_findWithout_57 : decode cX4_findWithout 57 = .ok (.invokevirtual 66, 3) := by decide +kernel
theorem dX4_findWithout_60 : decode cX4_findWithout 60 = .ok (.aload_n 0, 1) := by decide +kernel
theorem dX4_findWithout_61 : decode cX4_findWithout 61 = .ok (.aload_n 1, 1) := by decide +kernel
theorem dX4_findWithout_62 : decode cX4_findWithout 62 = .ok (.invokevirtual 69, 3) := by decide +kernel
theorem dX4_findWithout_65 : decode cX4_findWithout 65 = .ok (.ifCond .ne 4, 3) := by decide +kernel
theorem dX4_findWithout_68 : decode cX4_findWithout 68 = .ok (.return_, 1) := by decide +kernel
theorem dX4_findWithout_69 : decode cX4_findWithout 69 = .ok (.iinc 3 1, 3) := by decide +kernel
theorem dX4_findWithout_72 : decode cX4_findWithout 72 = .ok (.goto (-42), 3) := by decide +kernel
theorem dX4_findWithout_75 : decode cX4_findWithout 75 = .ok (.return_, 1) := by decide +kernel
theorem dX4_markHeldFromOutside_0 : decode cX4_markHeldFromOutside 0 = .ok (.iconst 0, 1) := by decide +kernel
theorem dX4_markHeldFromOutside_1 : decode cX4_markHeldFromOutside 1 = .ok (.istore_n 2, 1) := by decide +kernel
theorem dX4_markHeldFromOutside_2 : decode cX4_markHeldFromOutside 2 = .ok (.iload_n 2, 1) := by decide +kernel
theorem dX4_markHeldFromOutside_3 : decode cX4_markHeldFromOutside 3 = .ok (.bipush 6, 2) := by decide +kernel
theorem dX4_markHeldFromOutside_5 : decode cX4_markHeldFromOutside 5 = .ok (.if_icmp .ge 15, 3) := by decide +kernel
theorem dX4_markHeldFromOutside_8 : decode cX4_markHeldFromOutside 8 = .ok (.aload_n 0, 1) := by decide +kernel
theorem dX4_markHeldFromOutside_9 : decode cX4_markHeldFromOutside 9 = .ok (.aload_n 1, 1) := by decide +kernel
theorem dX4_markHeldFromOutside_10 : decode cX4_markHeldFromOutside 10 = .ok (.iload_n 2, 1) := by decide +kernel
theorem dX4_markHeldFromOutside_11 : decode cX4_markHeldFromOutside 11 = .ok (.invokevirtual 73, 3) := by decide +kernel
theorem dX4_markHeldFromOutside_14 : decode cX4_markHeldFromOutside 14 = .ok (.iinc 2 1, 3) := by decide +kernel
theorem dX4_markHeldFromOutside_17 : decode cX4_markHeldFromOutside 17 = .ok (.goto (-15), 3) := by decide +kernel
theorem dX4_markHeldFromOutside_20 : decode cX4_markHeldFromOutside 20 = .ok (.iconst 0, 1) := by decide +kernel
theorem dX4_markHeldFromOutside_21 : decode cX4_markHeldFromOutside 21 = .ok (.istore_n 2, 1) := by decide +kernel
theorem dX4_markHeldFromOutside_22 : decode cX4_markHeldFromOutside 22 = .ok (.iload_n 2, 1) := by decide +kernel
theorem dX4_markHeldFromOutside_23 : decode cX4_markHeldFromOutside 23 = .ok (.bipush 24, 2) := by decide +kernel
theorem dX4_markHeldFromOutside_25 : decode cX4_markHeldFromOutside 25 = .ok (.if_icmp .ge 55, 3) := by decide +kernel
theorem dX4_markHeldFromOutside_28 : decode cX4_markHeldFromOutside 28 = .ok (.aload_n 0, 1) := by decide +kernel
theorem dX4_markHeldFromOutside_29 : decode cX4_markHeldFromOutside 29 = .ok (.getfield 12, 3) := by decide +kernel
theorem dX4_markHeldFromOutside_32 : decode cX4_markHeldFromOutside 32 = .ok (.aload_n 1, 1) := by decide +kernel
theorem dX4_markHeldFromOutside_33 : decode cX4_markHeldFromOutside 33 = .ok (.getfield 77, 3) := by decide +kernel
theorem dX4_markHeldFromOutside_36 : decode cX4_markHeldFromOutside 36 = .ok (.iload_n 2, 1) := by decide +kernel
theorem dX4_markHeldFromOutside_37 : decode cX4_markHeldFromOutside 37 = .ok (.invokestatic 82, 3) := by decide +kernel
theorem dX4_markHeldFromOutside_40 : decode cX4_markHeldFromOutside 40 = .ok (.invokevirtual 43, 3) := by decide +kernel
theorem dX4_markHeldFromOutside_43 : decode cX4_markHeldFromOutside 43 = .ok (.ifCond .ne 31, 3) := by decide +kernel
theorem dX4_markHeldFromOutside_46 : decode cX4_markHeldFromOutside 46 = .ok (.iconst 0, 1) := by decide +kernel
theorem dX4_markHeldFromOutside_47 : decode cX4_markHeldFromOutside 47 = .ok (.istore_n 3, 1) := by decide +kernel
theorem dX4_markHeldFromOutside_48 : decode cX4_markHeldFromOutside 48 = .ok (.iload_n 3, 1) := by decide +kernel
theorem dX4_markHeldFromOutside_49 : decode cX4_markHeldFromOutside 49 = .ok (.aload_n 1, 1) := by decide +kernel
theorem dX4_markHeldFromOutside_50 : decode cX4_markHeldFromOutside 50 = .ok (.getfield 86, 3) := by decide +kernel
theorem dX4_markHeldFromOutside_53 : decode cX4_markHeldFromOutside 53 = .ok (.iload_n 2, 1) := by decide +kernel
theorem dX4_markHeldFromOutside_54 : decode cX4_markHeldFromOutside 54 = .ok (.iaload, 1) := by decide +kernel
theorem dX4_markHeldFromOutside_55 : decode cX4_markHeldFromOutside 55 = .ok (.if_icmp .ge 19, 3) := by decide +kernel
theorem dX4_markHeldFromOutside_58 : decode cX4_markHeldFromOutside 58 = .ok (.aload_n 0, 1) := by decide +kernel
theorem dX4_markHeldFromOutside_59 : decode cX4_markHeldFromOutside 59 = .ok (.aload_n 1, 1) := by decide +kernel
theorem dX4_markHeldFromOutside_60 : decode cX4_markHeldFromOutside 60 = .ok (.iload_n 2, 1) := by decide +kernel
theorem dX4_markHeldFromOutside_61 : decode cX4_markHeldFromOutside 61 = .ok (.iload_n 3, 1) := by decide +kernel
theorem dX4_markHeldFromOutside_62 : decode cX4_markHeldFromOutside 62 = .ok (.invokestatic 89, 3) := by decide +kernel
theorem dX4_markHeldFromOutside_65 : decode cX4_markHeldFromOutside 65 = .ok (.invokevirtual 73, 3) := by decide +kernel
theorem dX4_markHeldFromOutside_68 : decode cX4_markHeldFromOutside 68 = .ok (.iinc 3 1, 3) := by decide +kernel
theorem dX4_markHeldFromOutside_71 : decode cX4_markHeldFromOutside 71 = .ok (.goto (-23), 3) := by decide +kernel
theorem dX4_markHeldFromOutside_74 : decode cX4_markHeldFromOutside 74 = .ok (.iinc 2 1, 3) := by decide +kernel
theorem dX4_markHeldFromOutside_77 : decode cX4_markHeldFromOutside 77 = .ok (.goto (-55), 3) := by decide +kernel
theorem dX4_markHeldFromOutside_80 : decode cX4_markHeldFromOutside 80 = .ok (.return_, 1) := by decide +kernel
theorem dX4_markLocalGray_0 : decode cX4_markLocalGray 0 = .ok (.aload_n 1, 1) := by decide +kernel
theorem dX4_markLocalGray_1 : decode cX4_markLocalGray 1 = .ok (.getfield 92, 3) := by decide +kernel
theorem dX4_markLocalGray_4 : decode cX4_markLocalGray 4 = .ok (.iload_n 2, 1) := by decide +kernel
theorem dX4_markLocalGray_5 : decode cX4_markLocalGray 5 = .ok (.iaload, 1) := by decide +kernel
theorem dX4_markLocalGray_6 : decode cX4_markLocalGray 6 = .ok (.iconst 2, 1) := by decide +kernel
theorem dX4_markLocalGray_7 : decode cX4_markLocalGray 7 = .ok (.if_icmp .ne 32, 3) := by decide +kernel
theorem dX4_markLocalGray_10 : decode cX4_markLocalGray 10 = .ok (.aload_n 0, 1) := by decide +kernel
theorem dX4_markLocalGray_11 : decode cX4_markLocalGray 11 = .ok (.getfield 12, 3) := by decide +kernel
theorem dX4_markLocalGray_14 : decode cX4_markLocalGray 14 = .ok (.aload_n 1, 1) := by decide +kernel
theorem dX4_markLocalGray_15 : decode cX4_markLocalGray 15 = .ok (.getfield 95, 3) := by decide +kernel
theorem dX4_markLocalGray_18 : decode cX4_markLocalGray 18 = .ok (.iload_n 2, 1) := by decide +kernel
theorem dX4_markLocalGray_19 : decode cX4_markLocalGray 19 = .ok (.iaload, 1) := by decide +kernel
theorem dX4_markLocalGray_20 : decode cX4_markLocalGray 20 = .ok (.invokevirtual 43, 3) := by decide +kernel
theorem dX4_markLocalGray_23 : decode cX4_markLocalGray 23 = .ok (.ifCond .eq 16, 3) := by decide +kernel
theorem dX4_markLocalGray_26 : decode cX4_markLocalGray 26 = .ok (.aload_n 0, 1) := by decide +kernel
theorem dX4_markLocalGray_27 : decode cX4_markLocalGray 27 = .ok (.getfield 18, 3) := by decide +kernel
theorem dX4_markLocalGray_30 : decode cX4_markLocalGray 30 = .ok (.aload_n 1, 1) := by decide +kernel
theorem dX4_markLocalGray_31 : decode cX4_markLocalGray 31 = .ok (.getfield 95, 3) := by decide +kernel
theorem dX4_markLocalGray_34 : decode cX4_markLocalGray 34 = .ok (.iload_n 2, 1) := by decide +kernel
theorem dX4_markLocalGray_35 : decode cX4_markLocalGray 35 = .ok (.iaload, 1) := by decide +kernel
theorem dX4_markLocalGray_36 : decode cX4_markLocalGray 36 = .ok (.invokevirtual 31, 3) := by decide +kernel
theorem dX4_markLocalGray_39 : decode cX4_markLocalGray 39 = .ok (.return_, 1) := by decide +kernel
theorem dX4_markUncovered_0 : decode cX4_markUncovered 0 = .ok (.aload_n 0, 1) := by decide +kernel
theorem dX4_markUncovered_1 : decode cX4_markUncovered 1 = .ok (.getfield 18, 3) := by decide +kernel
theorem dX4_markUncovered_4 : decode cX4_markUncovered 4 = .ok (.getfield 61, 3) := by decide +kernel
theorem dX4_markUncovered_7 : decode cX4_markUncovered 7 = .ok (.istore_n 2, 1) := by decide +kernel
theorem dX4_markUncovered_8 : decode cX4_markUncovered 8 = .ok (.iconst 0, 1) := by decide +kernel
theorem dX4_markUncovered_9 : decode cX4_markUncovered 9 = .ok (.istore_n 3, 1) := by decide +kernel
theorem dX4_markUncovered_10 : decode cX4_markUncovered 10 = .ok (.iload_n 3, 1) := by decide +kernel
theorem dX4_markUncovered_11 : decode cX4_markUncovered 11 = .ok (.aload_n 1, 1) := by decide +kernel
theorem dX4_markUncovered_12 : decode cX4_markUncovered 12 = .ok (.arraylength, 1) := by decide +kernel
theorem dX4_markUncovered_13 : decode cX4_markUncovered 13 = .ok (.if_icmp .ge 82, 3) := by decide +kernel
theorem dX4_markUncovered_16 : decode cX4_markUncovered 16 = .ok (.iconst 0, 1) := by decide +kernel
theorem dX4_markUncovered_17 : decode cX4_markUncovered 17 = .ok (.istore 4, 2) := by decide +kernel
theorem dX4_markUncovered_19 : decode cX4_markUncovered 19 = .ok (.iload 4, 2) := by decide +kernel
theorem dX4_markUncovered_21 : decode cX4_markUncovered 21 = .ok (.bipush 24, 2) := by decide +kernel
theorem dX4_markUncovered_23 : decode cX4_markUncovered 23 = .ok (.if_icmp .ge 66, 3) := by decide +kernel
theorem dX4_markUncovered_26 : decode cX4_markUncovered 26 = .ok (.iload_n 3, 1) := by decide +kernel
theorem dX4_markUncovered_27 : decode cX4_markUncovered 27 = .ok (.iload 4, 2) := by decide +kernel
theorem dX4_markUncovered_29 : decode cX4_markUncovered 29 = .ok (.invokestatic 82, 3) := by decide +kernel
theorem dX4_markUncovered_32 : decode cX4_markUncovered 32 = .ok (.istore 5, 2) := by decide +kernel
theorem dX4_markUncovered_34 : decode cX4_markUncovered 34 = .ok (.aload_n 1, 1) := by decide +kernel
theorem dX4_markUncovered_35 : decode cX4_markUncovered 35 = .ok (.iload_n 3, 1) := by decide +kernel
theorem dX4_markUncovered_36 : decode cX4_markUncovered 36 = .ok (.aaload, 1) := by decide +kernel
theorem dX4_markUncovered_37 : decode cX4_markUncovered 37 = .ok (.getfield 98, 3) := by decide +kernel
theorem dX4_markUncovered_40 : decode cX4_markUncovered 40 = .ok (.iload 4, 2) := by decide +kernel
theorem dX4_markUncovered_42 : decode cX4_markUncovered 42 = .ok (.iaload, 1) := by decide +kernel
theorem dX4_markUncovered_43 : decode cX4_markUncovered 43 = .ok (.istore 6, 2) := by decide +kernel
theorem dX4_markUncovered_45 : decode cX4_markUncovered 45 = .ok (.aload_n 0, 1) := by decide +kernel
theorem dX4_markUncovered_46 : decode cX4_markUncovered 46 = .ok (.getfield 12, 3) := by decide +kernel
theorem dX4_markUncovered_49 : decode cX4_markUncovered 49 = .ok (.iload 5, 2) := by decide +kernel
theorem dX4_markUncovered_51 : decode cX4_markUncovered 51 = .ok (.invokevirtual 43, 3) := by decide +kernel
theorem dX4_markUncovered_54 : decode cX4_markUncovered 54 = .ok (.ifCond .eq 29, 3) := by decide +kernel
theorem dX4_markUncovered_57 : decode cX4_markUncovered 57 = .ok (.iload 6, 2) := by decide +kernel
theorem dX4_markUncovered_59 : decode cX4_markUncovered 59 = .ok (.ifCond .le 24, 3) := by decide +kernel
theorem dX4_markUncovered_62 : decode cX4_markUncovered 62 = .ok (.iload 6, 2) := by decide +kernel
theorem dX4_markUncovered_64 : decode cX4_markUncovered 64 = .ok (.aload_n 0, 1) := by decide +kernel
theorem dX4_markUncovered_65 : decode cX4_markUncovered 65 = .ok (.getfield 25, 3) := by decide +kernel
theorem dX4_markUncovered_68 : decode cX4_markUncovered 68 = .ok (.iload 5, 2) := by decide +kernel
theorem dX4_markUncovered_70 : decode cX4_markUncovered 70 = .ok (.iaload, 1) := by decide +kernel
theorem dX4_markUncovered_71 : decode cX4_markUncovered 71 = .ok (.if_icmp .eq 12, 3) := by decide +kernel
theorem dX4_markUncovered_74 : decode cX4_markUncovered 74 = .ok (.aload_n 0, 1) := by decide +kernel
theorem dX4_markUncovered_75 : decode cX4_markUncovered 75 = .ok (.getfield 18, 3) := by decide +kernel
theorem dX4_markUncovered_78 : decode cX4_markUncovered 78 = .ok (.iload 5, 2) := by decide +kernel
theorem dX4_markUncovered_80 : decode cX4_markUncovered 80 = .ok (.invokevirtual 31, 3) := by decide +kernel
theorem dX4_markUncovered_83 : decode cX4_markUncovered 83 = .ok (.iinc 4 1, 3) := by decide +kernel
theorem dX4_markUncovered_86 : decode cX4_markUncovered 86 = .ok (.goto (-67), 3) := by decide +kernel
theorem dX4_markUncovered_89 : decode cX4_markUncovered 89 = .ok (.iinc 3 1, 3) := by decide +kernel
theorem dX4_markUncovered_92 : decode cX4_markUncovered 92 = .ok (.goto (-82), 3) := by decide +kernel
theorem dX4_markUncovered_95 : decode cX4_markUncovered 95 = .ok (.aload_n 0, 1) := by decide +kernel
theorem dX4_markUncovered_96 : decode cX4_markUncovered 96 = .ok (.getfield 18, 3) := by decide +kernel
theorem dX4_markUncovered_99 : decode cX4_markUncovered 99 = .ok (.getfield 61, 3) := by decide +kernel
theorem dX4_markUncovered_102 : decode cX4_markUncovered 102 = .ok (.iload_n 2, 1) := by decide +kernel
theorem dX4_markUncovered_103 : decode cX4_markUncovered 103 = .ok (.if_icmp .le 7, 3) := by decide +kernel
theorem dX4_markUncovered_106 : decode cX4_markUncovered 106 = .ok (.iconst 1, 1) := by decide +kernel
theorem dX4_markUncovered_107 : decode cX4_markUncovered 107 = .ok (.goto 4, 3) := by decide +kernel
theorem dX4_markUncovered_110 : decode cX4_markUncovered 110 = .ok (.iconst 0, 1) := by decide +kernel
theorem dX4_markUncovered_111 : decode cX4_markUncovered 111 = .ok (.ireturn, 1) := by decide +kernel
theorem dX4_sumInnerWeights_0 : decode cX4_sumInnerWeights 0 = .ok (.aload_n 0, 1) := by decide +kernel
theorem dX4_sumInnerWeights_1 : decode cX4_sumInnerWeights 1 = .ok (.getfield 25, 3) := by decide +kernel
theorem dX4_sumInnerWeights_4 : decode cX4_sumInnerWeights 4 = .ok (.iconst 0, 1) := by decide +kernel
theorem dX4_sumInnerWeights_5 : decode cX4_sumInnerWeights 5 = .ok (.invokestatic 101, 3) := by decide +kernel
theorem dX4_sumInnerWeights_8 : decode cX4_sumInnerWeights 8 = .ok (.iconst 0, 1) := by decide +kernel
theorem dX4_sumInnerWeights_9 : decode cX4_sumInnerWeights 9 = .ok (.istore_n 2, 1) := by decide +kernel
theorem dX4_sumInnerWeights_10 : decode cX4_sumInnerWeights 10 = .ok (.iload_n 2, 1) := by decide +kernel
theorem dX4_sumInnerWeights_11 : decode cX4_sumInnerWeights 11 = .ok (.aload_n 1, 1) := by decide +kernel
theorem dX4_sumInnerWeights_12 : decode cX4_sumInnerWeights 12 = .ok (.arraylength, 1) := by decide +kernel
theorem dX4_sumInnerWeights_13 : decode cX4_sumInnerWeights 13 = .ok (.if_icmp .ge 57, 3) := by decide +kernel
theorem dX4_sumInnerWeights_16 : decode cX4_sumInnerWeights 16 = .ok (.aload_n 0, 1) := by decide +kernel
theorem dX4_sumInnerWeights_17 : decode cX4_sumInnerWeights 17 = .ok (.aload_n 1, 1) := by decide +kernel
theorem dX4_sumInnerWeights_18 : decode cX4_sumInnerWeights 18 = .ok (.iload_n 2, 1) := by decide +kernel
theorem dX4_sumInnerWeights_19 : decode cX4_sumInnerWeights 19 = .ok (.aaload, 1) := by decide +kernel
theorem dX4_sumInnerWeights_20 : decode cX4_sumInnerWeights 20 = .ok (.invokevirtual 107, 3) := by decide +kernel
theorem dX4_sumInnerWeights_23 : decode cX4_sumInnerWeights 23 = .ok (.iconst 0, 1) := by decide +kernel
theorem dX4_sumInnerWeights_24 : decode cX4_sumInnerWeights 24 = .ok (.istore_n 3, 1) := by decide +kernel
theorem dX4_sumInnerWeights_25 : decode cX4_sumInnerWeights 25 = .ok (.iload_n 3, 1) := by decide +kernel
theorem dX4_sumInnerWeights_26 : decode cX4_sumInnerWeights 26 = .ok (.bipush 120, 2) := by decide +kernel
theorem dX4_sumInnerWeights_28 : decode cX4_sumInnerWeights 28 = .ok (.if_icmp .ge 36, 3) := by decide +kernel
theorem dX4_sumInnerWeights_31 : decode cX4_sumInnerWeights 31 = .ok (.aload_n 0, 1) := by decide +kernel
theorem dX4_sumInnerWeights_32 : decode cX4_sumInnerWeights 32 = .ok (.getfield 21, 3) := by decide +kernel
theorem dX4_sumInnerWeights_35 : decode cX4_sumInnerWeights 35 = .ok (.iload_n 3, 1) := by decide +kernel
theorem dX4_sumInnerWeights_36 : decode cX4_sumInnerWeights 36 = .ok (.iaload, 1) := by decide +kernel
theorem dX4_sumInnerWeights_37 : decode cX4_sumInnerWeights 37 = .ok (.iconst 1, 1) := by decide +kernel
theorem dX4_sumInnerWeights_38 : decode cX4_sumInnerWeights 38 = .ok (.if_icmp .ne 20, 3) := by decide +kernel
theorem dX4_sumInnerWeights_41 : decode cX4_sumInnerWeights 41 = .ok (.aload_n 0, 1) := by decide +kernel
theorem dX4_sumInnerWeights_42 : decode cX4_sumInnerWeights 42 = .ok (.getfield 25, 3) := by decide +kernel
theorem dX4_sumInnerWeights_45 : decode cX4_sumInnerWeights 45 = .ok (.iload_n 3, 1) := by decide +kernel
theorem dX4_sumInnerWeights_46 : decode cX4_sumInnerWeights 46 = .ok (.dup2, 1) := by decide +kernel
theorem dX4_sumInnerWeights_47 : decode cX4_sumInnerWeights 47 = .ok (.iaload, 1) := by decide +kernel
theorem dX4_sumInnerWeights_48 : decode cX4_sumInnerWeights 48 = .ok (.aload_n 1, 1) := by decide +kernel
theorem dX4_sumInnerWeights_49 : decode cX4_sumInnerWeights 49 = .ok (.iload_n 2, 1) := by decide +kernel
theorem dX4_sumInnerWeights_50 : decode cX4_sumInnerWeights 50 = .ok (.aaload, 1) := by decide +kernel
theorem dX4_sumInnerWeights_51 : decode cX4_sumInnerWeights 51 = .ok (.getfield 110, 3) := by decide +kernel
theorem dX4_sumInnerWeights_54 : decode cX4_sumInnerWeights 54 = .ok (.iload_n 3, 1) := by decide +kernel
theorem dX4_sumInnerWeights_55 : decode cX4_sumInnerWeights 55 = .ok (.iaload, 1) := by decide +kernel
theorem dX4_sumInnerWeights_56 : decode cX4_sumInnerWeights 56 = .ok (.iadd, 1) := by decide +kernel
theorem dX4_sumInnerWeights_57 : decode cX4_sumInnerWeights 57 = .ok (.iastore, 1) := by decide +kernel
theorem dX4_sumInnerWeights_58 : decode cX4_sumInnerWeights 58 = .ok (.iinc 3 1, 3) := by decide +kernel
theorem dX4_sumInnerWeights_61 : decode cX4_sumInnerWeights 61 = .ok (.goto (-36), 3) := by decide +kernel
theorem dX4_sumInnerWeights_64 : decode cX4_sumInnerWeights 64 = .ok (.iinc 2 1, 3) := by decide +kernel
theorem dX4_sumInnerWeights_67 : decode cX4_sumInnerWeights 67 = .ok (.goto (-57), 3) := by decide +kernel
theorem dX4_sumInnerWeights_70 : decode cX4_sumInnerWeights 70 = .ok (.return_, 1) := by decide +kernel
theorem dX4_countInner_0 : decode cX4_countInner 0 = .ok (.iconst 0, 1) := by decide +kernel
theorem dX4_countInner_1 : decode cX4_countInner 1 = .ok (.istore_n 2, 1) := by decide +kernel
theorem dX4_countInner_2 : decode cX4_countInner 2 = .ok (.iconst 0, 1) := by decide +kernel
theorem dX4_countInner_3 : decode cX4_countInner 3 = .ok (.istore_n 3, 1) := by decide +kernel
theorem dX4_countInner_4 : decode cX4_countInner 4 = .ok (.iload_n 3, 1) := by decide +kernel
theorem dX4_countInner_5 : decode cX4_countInner 5 = .ok (.aload_n 1, 1) := by decide +kernel
theorem dX4_countInner_6 : decode cX4_countInner 6 = .ok (.arraylength, 1) := by decide +kernel
theorem dX4_countInner_7 : decode cX4_countInner 7 = .ok (.if_icmp .ge 46, 3) := by decide +kernel
theorem dX4_countInner_10 : decode cX4_countInner 10 = .ok (.aload_n 0, 1) := by decide +kernel
theorem dX4_countInner_11 : decode cX4_countInner 11 = .ok (.aload_n 1, 1) := by decide +kernel
theorem dX4_countInner_12 : decode cX4_countInner 12 = .ok (.iload_n 3, 1) := by decide +kernel
theorem dX4_countInner_13 : decode cX4_countInner 13 = .ok (.aaload, 1) := by decide +kernel
theorem dX4_countInner_14 : decode cX4_countInner 14 = .ok (.invokevirtual 107, 3) := by decide +kernel
theorem dX4_countInner_17 : decode cX4_countInner 17 = .ok (.iconst 0, 1) := by decide +kernel
theorem dX4_countInner_18 : decode cX4_countInner 18 = .ok (.istore 4, 2) := by decide +kernel
theorem dX4_countInner_20 : decode cX4_countInner 20 = .ok (.iload 4, 2) := by decide +kernel
theorem dX4_countInner_22 : decode cX4_countInner 22 = .ok (.bipush 120, 2) := by decide +kernel
theorem dX4_countInner_24 : decode cX4_countInner 24 = .ok (.if_icmp .ge 23, 3) := by decide +kernel
theorem dX4_countInner_27 : decode cX4_countInner 27 = .ok (.aload_n 0, 1) := by decide +kernel
theorem dX4_countInner_28 : decode cX4_countInner 28 = .ok (.getfield 21, 3) := by decide +kernel
theorem dX4_countInner_31 : decode cX4_countInner 31 = .ok (.iload 4, 2) := by decide +kernel
theorem dX4_countInner_33 : decode cX4_countInner 33 = .ok (.iaload, 1) := by decide +kernel
theorem dX4_countInner_34 : decode cX4_countInner 34 = .ok (.iconst 1, 1) := by decide +kernel
theorem dX4_countInner_35 : decode cX4_countInner 35 = .ok (.if_icmp .ne 6, 3) := by decide +kernel
theorem dX4_countInner_38 : decode cX4_countInner 38 = .ok (.iinc 2 1, 3) := by decide +kernel
theorem dX4_countInner_41 : decode cX4_countInner 41 = .ok (.iinc 4 1, 3) := by decide +kernel
theorem dX4_countInner_44 : decode cX4_countInner 44 = .ok (.goto (-24), 3) := by decide +kernel
theorem dX4_countInner_47 : decode cX4_countInner 47 = .ok (.iinc 3 1, 3) := by decide +kernel
theorem dX4_countInner_50 : decode cX4_countInner 50 = .ok (.goto (-46), 3) := by decide +kernel
theorem dX4_countInner_53 : decode cX4_countInner 53 = .ok (.iload_n 2, 1) := by decide +kernel
theorem dX4_countInner_54 : decode cX4_countInner 54 = .ok (.ireturn, 1) := by decide +kernel
theorem dX4_findHolders_0 : decode cX4_findHolders 0 = .ok (.aload_n 0, 1) := by decide +kernel
theorem dX4_findHolders_1 : decode cX4_findHolders 1 = .ok (.getfield 21, 3) := by decide +kernel
theorem dX4_findHolders_4 : decode cX4_findHolders 4 = .ok (.iconst 0, 1) := by decide +kernel
theorem dX4_findHolders_5 : decode cX4_findHolders 5 = .ok (.invokestatic 101, 3) := by decide +kernel
theorem dX4_findHolders_8 : decode cX4_findHolders 8 = .ok (.iconst 0, 1) := by decide +kernel
theorem dX4_findHolders_9 : decode cX4_findHolders 9 = .ok (.istore_n 2, 1) := by decide +kernel
theorem dX4_findHolders_10 : decode cX4_findHolders 10 = .ok (.iload_n 2, 1) := by decide +kernel
theorem dX4_findHolders_11 : decode cX4_findHolders 11 = .ok (.bipush 6, 2) := by decide +kernel
theorem dX4_findHolders_13 : decode cX4_findHolders 13 = .ok (.if_icmp .ge 16, 3) := by decide +kernel
theorem dX4_findHolders_16 : decode cX4_findHolders 16 = .ok (.aload_n 0, 1) := by decide +kernel
theorem dX4_findHolders_17 : decode cX4_findHolders 17 = .ok (.aload_n 1, 1) := by decide +kernel
theorem dX4_findHolders_18 : decode cX4_findHolders 18 = .ok (.iload_n 2, 1) := by decide +kernel
theorem dX4_findHolders_19 : decode cX4_findHolders 19 = .ok (.iconst 2, 1) := by decide +kernel
theorem dX4_findHolders_20 : decode cX4_findHolders 20 = .ok (.invokevirtual 113, 3) := by decide +kernel
theorem dX4_findHolders_23 : decode cX4_findHolders 23 = .ok (.iinc 2 1, 3) := by decide +kernel
theorem dX4_findHolders_26 : decode cX4_findHolders 26 = .ok (.goto (-16), 3) := by decide +kernel
theorem dX4_findHolders_29 : decode cX4_findHolders 29 = .ok (.iconst 0, 1) := by decide +kernel
theorem dX4_findHolders_30 : decode cX4_findHolders 30 = .ok (.istore_n 2, 1) := by decide +kernel
theorem dX4_findHolders_31 : decode cX4_findHolders 31 = .ok (.iload_n 2, 1) := by decide +kernel
theorem dX4_findHolders_32 : decode cX4_findHolders 32 = .ok (.bipush 24, 2) := by decide +kernel
theorem dX4_findHolders_34 : decode cX4_findHolders 34 = .ok (.if_icmp .ge 56, 3) := by decide +kernel
theorem dX4_findHolders_37 : decode cX4_findHolders 37 = .ok (.aload_n 0, 1) := by decide +kernel
theorem dX4_findHolders_38 : decode cX4_findHolders 38 = .ok (.aload_n 1, 1) := by decide +kernel
theorem dX4_findHolders_39 : decode cX4_findHolders 39 = .ok (.iload_n 2, 1) := by decide +kernel
theorem dX4_findHolders_40 : decode cX4_findHolders 40 = .ok (.invokevirtual 117, 3) := by decide +kernel
theorem dX4_findHolders_43 : decode cX4_findHolders 43 = .ok (.ifCond .eq 7, 3) := by decide +kernel
theorem dX4_findHolders_46 : decode cX4_findHolders 46 = .ok (.iconst 1, 1) := by decide +kernel
theorem dX4_findHolders_47 : decode cX4_findHolders 47 = .ok (.goto 4, 3) := by decide +kernel
theorem dX4_findHolders_50 : decode cX4_findHolders 50 = .ok (.iconst 2, 1) := by decide +kernel
theorem dX4_findHolders_51 : decode cX4_findHolders 51 = .ok (.istore_n 3, 1) := by decide +kernel
theorem dX4_findHolders_52 : decode cX4_findHolders 52 = .ok (.iconst 0, 1) := by decide +kernel
theorem dX4_findHolders_53 : decode cX4_findHolders 53 = .ok (.istore 4, 2) := by decide +kernel
theorem dX4_findHolders_55 : decode cX4_findHolders 55 = .ok (.iload 4, 2) := by decide +kernel
theorem dX4_findHolders_57 : decode cX4_findHolders 57 = .ok (.aload_n 1, 1) := by decide +kernel
theorem dX4_findHolders_58 : decode cX4_findHolders 58 = .ok (.getfield 86, 3) := by decide +kernel
theorem dX4_findHolders_61 : decode cX4_findHolders 61 = .ok (.iload_n 2, 1) := by decide +kernel
theorem dX4_findHolders_62 : decode cX4_findHolders 62 = .ok (.iaload, 1) := by decide +kernel
theorem dX4_findHolders_63 : decode cX4_findHolders 63 = .ok (.if_icmp .ge 21, 3) := by decide +kernel
theorem dX4_findHolders_66 : decode cX4_findHolders 66 = .ok (.aload_n 0, 1) := by decide +kernel
theorem dX4_findHolders_67 : decode cX4_findHolders 67 = .ok (.aload_n 1, 1) := by decide +kernel
theorem dX4_findHolders_68 : decode cX4_findHolders 68 = .ok (.iload_n 2, 1) := by decide +kernel
theorem dX4_findHolders_69 : decode cX4_findHolders 69 = .ok (.iload 4, 2) := by decide +kernel
theorem dX4_findHolders_71 : decode cX4_findHolders 71 = .ok (.invokestatic 89, 3) := by decide +kernel
theorem dX4_findHolders_74 : decode cX4_findHolders 74 = .ok (.iload_n 3, 1) := by decide +kernel
theorem dX4_findHolders_75 : decode cX4_findHolders 75 = .ok (.invokevirtual 113, 3) := by decide +kernel
theorem dX4_findHolders_78 : decode cX4_findHolders 78 = .ok (.iinc 4 1, 3) := by decide +kernel
theorem dX4_findHolders_81 : decode cX4_findHolders 81 = .ok (.goto (-26), 3) := by decide +kernel
theorem dX4_findHolders_84 : decode cX4_findHolders 84 = .ok (.iinc 2 1, 3) := by decide +kernel
theorem dX4_findHolders_87 : decode cX4_findHolders 87 = .ok (.goto (-56), 3) := by decide +kernel
theorem dX4_findHolders_90 : decode cX4_findHolders 90 = .ok (.return_, 1) := by decide +kernel
theorem dX4_noteHolder_0 : decode cX4_noteHolder 0 = .ok (.aload_n 1, 1) := by decide +kernel
theorem dX4_noteHolder_1 : decode cX4_noteHolder 1 = .ok (.getfield 95, 3) := by decide +kernel
theorem dX4_noteHolder_4 : decode cX4_noteHolder 4 = .ok (.iload_n 2, 1) := by decide +kernel
theorem dX4_noteHolder_5 : decode cX4_noteHolder 5 = .ok (.iaload, 1) := by decide +kernel
theorem dX4_noteHolder_6 : decode cX4_noteHolder 6 = .ok (.istore 4, 2) := by decide +kernel
theorem dX4_noteHolder_8 : decode cX4_noteHolder 8 = .ok (.aload_n 1, 1) := by decide +kernel
theorem dX4_noteHolder_9 : decode cX4_noteHolder 9 = .ok (.getfield 92, 3) := by decide +kernel
theorem dX4_noteHolder_12 : decode cX4_noteHolder 12 = .ok (.iload_n 2, 1) := by decide +kernel
theorem dX4_noteHolder_13 : decode cX4_noteHolder 13 = .ok (.iaload, 1) := by decide +kernel
theorem dX4_noteHolder_14 : decode cX4_noteHolder 14 = .ok (.iconst 3, 1) := by decide +kernel
theorem dX4_noteHolder_15 : decode cX4_noteHolder 15 = .ok (.if_icmp .ne 29, 3) := by decide +kernel
theorem dX4_noteHolder_18 : decode cX4_noteHolder 18 = .ok (.iload 4, 2) := by decide +kernel
theorem dX4_noteHolder_20 : decode cX4_noteHolder 20 = .ok (.invokestatic 121, 3) := by decide +kernel
theorem dX4_noteHolder_23 : decode cX4_noteHolder 23 = .ok (.ifCond .eq 21, 3) := by decide +kernel
theorem dX4_noteHolder_26 : decode cX4_noteHolder 26 = .ok (.aload_n 0, 1) := by decide +kernel
theorem dX4_noteHolder_27 : decode cX4_noteHolder 27 = .ok (.getfield 21, 3) := by decide +kernel
theorem dX4_noteHolder_30 : decode cX4_noteHolder 30 = .ok (.iload 4, 2) := by decide +kernel
theorem dX4_noteHolder_32 : decode cX4_noteHolder 32 = .ok (.aload_n 0, 1) := by decide +kernel
theorem dX4_noteHolder_33 : decode cX4_noteHolder 33 = .ok (.getfield 21, 3) := by decide +kernel
theorem dX4_noteHolder_36 : decode cX4_noteHolder 36 = .ok (.iload 4, 2) := by decide +kernel
theorem dX4_noteHolder_38 : decode cX4_noteHolder 38 = .ok (.iaload, 1) := by decide +kernel
theorem dX4_noteHolder_39 : decode cX4_noteHolder 39 = .ok (.iload_n 3, 1) := by decide +kernel
theorem dX4_noteHolder_40 : decode cX4_noteHolder 40 = .ok (.invokestatic 124, 3) := by decide +kernel
theorem dX4_noteHolder_43 : decode cX4_noteHolder 43 = .ok (.iastore, 1) := by decide +kernel
theorem dX4_noteHolder_44 : decode cX4_noteHolder 44 = .ok (.return_, 1) := by decide +kernel
theorem dX4_isLetGo_0 : decode cX4_isLetGo 0 = .ok (.aload_n 1, 1) := by decide +kernel
theorem dX4_isLetGo_1 : decode cX4_isLetGo 1 = .ok (.getfield 77, 3) := by decide +kernel
theorem dX4_isLetGo_4 : decode cX4_isLetGo 4 = .ok (.iload_n 2, 1) := by decide +kernel
theorem dX4_isLetGo_5 : decode cX4_isLetGo 5 = .ok (.invokestatic 82, 3) := by decide +kernel
theorem dX4_isLetGo_8 : decode cX4_isLetGo 8 = .ok (.istore_n 3, 1) := by decide +kernel
theorem dX4_isLetGo_9 : decode cX4_isLetGo 9 = .ok (.aload_n 0, 1) := by decide +kernel
theorem dX4_isLetGo_10 : decode cX4_isLetGo 10 = .ok (.getfield 12, 3) := by decide +kernel
theorem dX4_isLetGo_13 : decode cX4_isLetGo 13 = .ok (.iload_n 3, 1) := by decide +kernel
theorem dX4_isLetGo_14 : decode cX4_isLetGo 14 = .ok (.invokevirtual 43, 3) := by decide +kernel
theorem dX4_isLetGo_17 : decode cX4_isLetGo 17 = .ok (.ifCond .eq 18, 3) := by decide +kernel
theorem dX4_isLetGo_20 : decode cX4_isLetGo 20 = .ok (.aload_n 0, 1) := by decide +kernel
theorem dX4_isLetGo_21 : decode cX4_isLetGo 21 = .ok (.getfield 18, 3) := by decide +kernel
theorem dX4_isLetGo_24 : decode cX4_isLetGo 24 = .ok (.iload_n 3, 1) := by decide +kernel
theorem dX4_isLetGo_25 : decode cX4_isLetGo 25 = .ok (.invokevirtual 43, 3) := by decide +kernel
theorem dX4_isLetGo_28 : decode cX4_isLetGo 28 = .ok (.ifCond .ne 7, 3) := by decide +kernel
theorem dX4_isLetGo_31 : decode cX4_isLetGo 31 = .ok (.iconst 1, 1) := by decide +kernel
theorem dX4_isLetGo_32 : decode cX4_isLetGo 32 = .ok (.goto 4, 3) := by decide +kernel
theorem dX4_isLetGo_35 : decode cX4_isLetGo 35 = .ok (.iconst 0, 1) := by decide +kernel
theorem dX4_isLetGo_36 : decode cX4_isLetGo 36 = .ok (.ireturn, 1) := by decide +kernel
theorem dX4_letGo_0 : decode cX4_letGo 0 = .ok (.aload_n 0, 1) := by decide +kernel
theorem dX4_letGo_1 : decode cX4_letGo 1 = .ok (.aload_n 1, 1) := by decide +kernel
theorem dX4_letGo_2 : decode cX4_letGo 2 = .ok (.invokevirtual 107, 3) := by decide +kernel
theorem dX4_letGo_5 : decode cX4_letGo 5 = .ok (.iconst 0, 1) := by decide +kernel
theorem dX4_letGo_6 : decode cX4_letGo 6 = .ok (.istore_n 3, 1) := by decide +kernel
theorem dX4_letGo_7 : decode cX4_letGo 7 = .ok (.iload_n 3, 1) := by decide +kernel
theorem dX4_letGo_8 : decode cX4_letGo 8 = .ok (.bipush 120, 2) := by decide +kernel
theorem dX4_letGo_10 : decode cX4_letGo 10 = .ok (.if_icmp .ge 25, 3) := by decide +kernel
theorem dX4_letGo_13 : decode cX4_letGo 13 = .ok (.aload_n 0, 1) := by decide +kernel
theorem dX4_letGo_14 : decode cX4_letGo 14 = .ok (.getfield 21, 3) := by decide +kernel
theorem dX4_letGo_17 : decode cX4_letGo 17 = .ok (.iload_n 3, 1) := by decide +kernel
theorem dX4_letGo_18 : decode cX4_letGo 18 = .ok (.iaload, 1) := by decide +kernel
theorem dX4_letGo_19 : decode cX4_letGo 19 = .ok (.iconst 1, 1) := by decide +kernel
theorem dX4_letGo_20 : decode cX4_letGo 20 = .ok (.if_icmp .ne 9, 3) := by decide +kernel
theorem dX4_letGo_23 : decode cX4_letGo 23 = .ok (.aload_n 1, 1) := by decide +kernel
theorem dX4_letGo_24 : decode cX4_letGo 24 = .ok (.iload_n 3, 1) := by decide +kernel
theorem dX4_letGo_25 : decode cX4_letGo 25 = .ok (.aload_n 2, 1) := by decide +kernel
theorem dX4_letGo_26 : decode cX4_letGo 26 = .ok (.invokevirtual 129, 3) := by decide +kernel
theorem dX4_letGo_29 : decode cX4_letGo 29 = .ok (.iinc 3 1, 3) := by decide +kernel
theorem dX4_letGo_32 : decode cX4_letGo 32 = .ok (.goto (-25), 3) := by decide +kernel
theorem dX4_letGo_35 : decode cX4_letGo 35 = .ok (.iconst 0, 1) := by decide +kernel
theorem dX4_letGo_36 : decode cX4_letGo 36 = .ok (.istore_n 3, 1) := by decide +kernel
theorem dX4_letGo_37 : decode cX4_letGo 37 = .ok (.iload_n 3, 1) := by decide +kernel
theorem dX4_letGo_38 : decode cX4_letGo 38 = .ok (.bipush 24, 2) := by decide +kernel
theorem dX4_letGo_40 : decode cX4_letGo 40 = .ok (.if_icmp .ge 23, 3) := by decide +kernel
theorem dX4_letGo_43 : decode cX4_letGo 43 = .ok (.aload_n 0, 1) := by decide +kernel
theorem dX4_letGo_44 : decode cX4_letGo 44 = .ok (.aload_n 1, 1) := by decide +kernel
theorem dX4_letGo_45 : decode cX4_letGo 45 = .ok (.iload_n 3, 1) := by decide +kernel
theorem dX4_letGo_46 : decode cX4_letGo 46 = .ok (.invokevirtual 117, 3) := by decide +kernel
theorem dX4_letGo_49 : decode cX4_letGo 49 = .ok (.ifCond .eq 8, 3) := by decide +kernel
theorem dX4_letGo_52 : decode cX4_letGo 52 = .ok (.aload_n 1, 1) := by decide +kernel
theorem dX4_letGo_53 : decode cX4_letGo 53 = .ok (.iload_n 3, 1) := by decide +kernel
theorem dX4_letGo_54 : decode cX4_letGo 54 = .ok (.invokevirtual 133, 3) := by decide +kernel
theorem dX4_letGo_57 : decode cX4_letGo 57 = .ok (.iinc 3 1, 3) := by decide +kernel
theorem dX4_letGo_60 : decode cX4_letGo 60 = .ok (.goto (-23), 3) := by decide +kernel
theorem dX4_letGo_63 : decode cX4_letGo 63 = .ok (.return_, 1) := by decide +kernel
theorem dX5_init_0 : decode cX5_init 0 = .ok (.aload_n 0, 1) := by decide +kernel
theorem dX5_init_1 : decode cX5_init 1 = .ok (.invokespecial 3, 3) := by decide +kernel
theorem dX5_init_4 : decode cX5_init 4 = .ok (.aload_n 0, 1) := by decide +kernel
theorem dX5_init_5 : decode cX5_init 5 = .ok (.iconst 1, 1) := by decide +kernel
theorem dX5_init_6 : decode cX5_init 6 = .ok (.iconst 5, 1) := by decide +kernel
theorem dX5_init_7 : decode cX5_init 7 = .ok (.iload_n 1, 1) := by decide +kernel
theorem dX5_init_8 : decode cX5_init 8 = .ok (.invokestatic 9, 3) := by decide +kernel
theorem dX5_init_11 : decode cX5_init 11 = .ok (.invokestatic 15, 3) := by decide +kernel
theorem dX5_init_14 : decode cX5_init 14 = .ok (.anewarray 18, 3) := by decide +kernel
theorem dX5_init_17 : decode cX5_init 17 = .ok (.putfield 20, 3) := by decide +kernel
theorem dX5_init_20 : decode cX5_init 20 = .ok (.iconst 0, 1) := by decide +kernel
theorem dX5_init_21 : decode cX5_init 21 = .ok (.istore_n 2, 1) := by decide +kernel
theorem dX5_init_22 : decode cX5_init 22 = .ok (.iload_n 2, 1) := by decide +kernel
theorem dX5_init_23 : decode cX5_init 23 = .ok (.aload_n 0, 1) := by decide +kernel
theorem dX5_init_24 : decode cX5_init 24 = .ok (.getfield 20, 3) := by decide +kernel
theorem dX5_init_27 : decode cX5_init 27 = .ok (.arraylength, 1) := by decide +kernel
theorem dX5_init_28 : decode cX5_init 28 = .ok (.if_icmp .ge 23, 3) := by decide +kernel
theorem dX5_init_31 : decode cX5_init 31 = .ok (.aload_n 0, 1) := by decide +kernel
theorem dX5_init_32 : decode cX5_init 32 = .ok (.getfield 20, 3) := by decide +kernel
theorem dX5_init_35 : decode cX5_init 35 = .ok (.iload_n 2, 1) := by decide +kernel
theorem dX5_init_36 : decode cX5_init 36 = .ok (.new 18, 3) := by decide +kernel
theorem dX5_init_39 : decode cX5_init 39 = .ok (.dup, 1) := by decide +kernel
theorem dX5_init_40 : decode cX5_init 40 = .ok (.iload_n 2, 1) := by decide +kernel
theorem dX5_init_41 : decode cX5_init 41 = .ok (.invokespecial 24, 3) := by decide +kernel
theorem dX5_init_44 : decode cX5_init 44 = .ok (.aastore, 1) := by decide +kernel
theorem dX5_init_45 : decode cX5_init 45 = .ok (.iinc 2 1, 3) := by decide +kernel
theorem dX5_init_48 : decode cX5_init 48 = .ok (.goto (-26), 3) := by decide +kernel
theorem dX5_init_51 : decode cX5_init 51 = .ok (.aload_n 0, 1) := by decide +kernel
theorem dX5_init_52 : decode cX5_init 52 = .ok (.new 27, 3) := by decide +kernel
theorem dX5_init_55 : decode cX5_init 55 = .ok (.dup, 1) := by decide +kernel
theorem dX5_init_56 : decode cX5_init 56 = .ok (.invokespecial 29, 3) := by decide +kernel
theorem dX5_init_59 : decode cX5_init 59 = .ok (.putfield 30, 3) := by decide +kernel
theorem dX5_init_62 : decode cX5_init 62 = .ok (.aload_n 0, 1) := by decide +kernel
theorem dX5_init_63 : decode cX5_init 63 = .ok (.new 34, 3) := by decide +kernel
theorem dX5_init_66 : decode cX5_init 66 = .ok (.dup, 1) := by decide +kernel
theorem dX5_init_67 : decode cX5_init 67 = .ok (.invokespecial 36, 3) := by decide +kernel
theorem dX5_init_70 : decode cX5_init 70 = .ok (.putfield 37, 3) := by decide +kernel
theorem dX5_init_73 : decode cX5_init 73 = .ok (.aload_n 0, 1) := by decide +kernel
theorem dX5_init_74 : decode cX5_init 74 = .ok (.new 41, 3) := by decide +kernel
theorem dX5_init_77 : decode cX5_init 77 = .ok (.dup, 1) := by decide +kernel
theorem dX5_init_78 : decode cX5_init 78 = .ok (.invokespecial 43, 3) := by decide +kernel
theorem dX5_init_81 : decode cX5_init 81 = .ok (.putfield 44, 3) := by decide +kernel
theorem dX5_init_84 : decode cX5_init 84 = .ok (.return_, 1) := by decide +kernel
theorem dX5_make_0 : decode cX5_make 0 = .ok (.aload_n 0, 1) := by decide +kernel
theorem dX5_make_1 : decode cX5_make 1 = .ok (.iload_n 1, 1) := by decide +kernel
theorem dX5_make_2 : decode cX5_make 2 = .ok (.invokevirtual 48, 3) := by decide +kernel
theorem dX5_make_5 : decode cX5_make 5 = .ok (.ifCond .eq 20, 3) := by decide +kernel
theorem dX5_make_8 : decode cX5_make 8 = .ok (.iload_n 2, 1) := by decide +kernel
theorem dX5_make_9 : decode cX5_make 9 = .ok (.invokestatic 52, 3) := by decide +kernel
theorem dX5_make_12 : decode cX5_make 12 = .ok (.ifCond .eq 13, 3) := by decide +kernel
theorem dX5_make_15 : decode cX5_make 15 = .ok (.iload_n 3, 1) := by decide +kernel
theorem dX5_make_16 : decode cX5_make 16 = .ok (.ifCond .lt 9, 3) := by decide +kernel
theorem dX5_make_19 : decode cX5_make 19 = .ok (.iload_n 3, 1) := by decide +kernel
theorem dX5_make_20 : decode cX5_make 20 = .ok (.bipush 12, 2) := by decide +kernel
theorem dX5_make_22 : decode cX5_make 22 = .ok (.if_icmp .le 5, 3) := by decide +kernel
theorem dX5_make_25 : decode cX5_make 25 = .ok (.iconst (-1), 1) := by decide +kernel
theorem dX5_make_26 : decode cX5_make 26 = .ok (.ireturn, 1) := by decide +kernel
theorem dX5_make_27 : decode cX5_make 27 = .ok (.aload_n 0, 1) := by decide +kernel
theorem dX5_make_28 : decode cX5_make 28 = .ok (.getfield 20, 3) := by decide +kernel
theorem dX5_make_31 : decode cX5_make 31 = .ok (.iload_n 1, 1) := by decide +kernel
theorem dX5_make_32 : decode cX5_make 32 = .ok (.aaload, 1) := by decide +kernel
theorem dX5_make_33 : decode cX5_make 33 = .ok (.astore 4, 2) := by decide +kernel
theorem dX5_make_35 : decode cX5_make 35 = .ok (.aload 4, 2) := by decide +kernel
theorem dX5_make_37 : decode cX5_make 37 = .ok (.invokevirtual 55, 3) := by decide +kernel
theorem dX5_make_40 : decode cX5_make 40 = .ok (.istore 5, 2) := by decide +kernel
theorem dX5_make_42 : decode cX5_make 42 = .ok (.iload 5, 2) := by decide +kernel
theorem dX5_make_44 : decode cX5_make 44 = .ok (.iconst (-1), 1) := by decide +kernel
theorem dX5_make_45 : decode cX5_make 45 = .ok (.if_icmp .ne 5, 3) := by decide +kernel
theorem dX5_make_48 : decode cX5_make 48 = .ok (.iconst (-1), 1) := by decide +kernel
theorem dX5_make_49 : decode cX5_make 49 = .ok (.ireturn, 1) := by decide +kernel
theorem dX5_make_50 : decode cX5_make 50 = .ok (.aload 4, 2) := by decide +kernel
theorem dX5_make_52 : decode cX5_make 52 = .ok (.iload_n 3, 1) := by decide +kernel
theorem dX5_make_53 : decode cX5_make 53 = .ok (.invokevirtual 59, 3) := by decide +kernel
theorem dX5_make_56 : decode cX5_make 56 = .ok (.ifCond .ne 6, 3) := by decide +kernel
theorem dX5_make_59 : decode cX5_make 59 = .ok (.bipush (-2), 2) := by decide +kernel
theorem dX5_make_61 : decode cX5_make 61 = .ok (.ireturn, 1) := by decide +kernel
theorem dX5_make_62 : decode cX5_make 62 = .ok (.aload 4, 2) := by decide +kernel
theorem dX5_make_64 : decode cX5_make 64 = .ok (.iload 5, 2) := by decide +kernel
theorem dX5_make_66 : decode cX5_make 66 = .ok (.iload_n 3, 1) := by decide +kernel
theorem dX5_make_67 : decode cX5_make 67 = .ok (.invokevirtual 62, 3) := by decide +kernel
theorem dX5_make_70 : decode cX5_make 70 = .ok (.aload 4, 2) := by decide +kernel
theorem dX5_make_72 : decode cX5_make 72 = .ok (.iload_n 2, 1) := by decide +kernel
theorem dX5_make_73 : decode cX5_make 73 = .ok (.iconst 2, 1) := by decide +kernel
theorem dX5_make_74 : decode cX5_make 74 = .ok (.iload_n 1, 1) := by decide +kernel
theorem dX5_make_75 : decode cX5_make 75 = .ok (.iload 5, 2) := by decide +kernel
theorem dX5_make_77 : decode cX5_make 77 = .ok (.invokestatic 66, 3) := by decide +kernel
theorem dX5_make_80 : decode cX5_make 80 = .ok (.invokevirtual 69, 3) := by decide +kernel
theorem dX5_make_83 : decode cX5_make 83 = .ok (.iload 5, 2) := by decide +kernel
theorem dX5_make_85 : decode cX5_make 85 = .ok (.ireturn, 1) := by decide +kernel
theorem dX5_set_0 : decode cX5_set 0 = .ok (.aload_n 0, 1) := by decide +kernel
theorem dX5_set_1 : decode cX5_set 1 = .ok (.iload_n 1, 1) := by decide +kernel
theorem dX5_set_2 : decode cX5_set 2 = .ok (.iload_n 2, 1) := by decide +kernel
theorem dX5_set_3 : decode cX5_set 3 = .ok (.iload_n 3, 1) := by decide +kernel
theorem dX5_set_4 : decode cX5_set 4 = .ok (.invokevirtual 73, 3) := by decide +kernel
theorem dX5_set_7 : decode cX5_set 7 = .ok (.istore 5, 2) := by decide +kernel
theorem dX5_set_9 : decode cX5_set 9 = .ok (.iload 5, 2) := by decide +kernel
theorem dX5_set_11 : decode cX5_set 11 = .ok (.iconst (-1), 1) := by decide +kernel
theorem dX5_set_12 : decode cX5_set 12 = .ok (.if_icmp .eq 11, 3) := by decide +kernel
theorem dX5_set_15 : decode cX5_set 15 = .ok (.iload 4, 2) := by decide +kernel
theorem dX5_set_17 : decode cX5_set 17 = .ok (.invokestatic 52, 3) := by decide +kernel
theorem dX5_set_20 : decode cX5_set 20 = .ok (.ifCond .ne 5, 3) := by decide +kernel
theorem dX5_set_23 : decode cX5_set 23 = .ok (.iconst 0, 1) := by decide +kernel
theorem dX5_set_24 : decode cX5_set 24 = .ok (.ireturn, 1) := by decide +kernel
theorem dX5_set_25 : decode cX5_set 25 = .ok (.aload_n 0, 1) := by decide +kernel
theorem dX5_set_26 : decode cX5_set 26 = .ok (.getfield 20, 3) := by decide +kernel
theorem dX5_set_29 : decode cX5_set 29 = .ok (.iload_n 1, 1) := by decide +kernel
theorem dX5_set_30 : decode cX5_set 30 = .ok (.aaload, 1) := by decide +kernel
theorem dX5_set_31 : decode cX5_set 31 = .ok (.iload 4, 2) := by decide +kernel
theorem dX5_set_33 : decode cX5_set 33 = .ok (.iload 5, 2) := by decide +kernel
theorem dX5_set_35 : decode cX5_set 35 = .ok (.invokevirtual 77, 3) := by decide +kernel
theorem dX5_set_38 : decode cX5_set 38 = .ok (.iconst 1, 1) := by decide +kernel
theorem dX5_set_39 : decode cX5_set 39 = .ok (.ireturn, 1) := by decide +kernel
theorem dX5_get_0 : decode cX5_get 0 = .ok (.aload_n 0, 1) := by decide +kernel
theorem dX5_get_1 : decode cX5_get 1 = .ok (.iload_n 1, 1) := by decide +kernel
theorem dX5_get_2 : decode cX5_get 2 = .ok (.iload_n 2, 1) := by decide +kernel
theorem dX5_get_3 : decode cX5_get 3 = .ok (.iload_n 3, 1) := by decide +kernel
theorem dX5_get_4 : decode cX5_get 4 = .ok (.invokevirtual 73, 3) := by decide +kernel
theorem dX5_get_7 : decode cX5_get 7 = .ok (.istore 5, 2) := by decide +kernel
theorem dX5_get_9 : decode cX5_get 9 = .ok (.iload 5, 2) := by decide +kernel
theorem dX5_get_11 : decode cX5_get 11 = .ok (.iconst (-1), 1) := by decide +kernel
theorem dX5_get_12 : decode cX5_get 12 = .ok (.if_icmp .eq 11, 3) := by decide +kernel
theorem dX5_get_15 : decode cX5_get 15 = .ok (.iload 4, 2) := by decide +kernel
theorem dX5_get_17 : decode cX5_get 17 = .ok (.invokestatic 52, 3) := by decide +kernel
theorem dX5_get_20 : decode cX5_get 20 = .ok (.ifCond .ne 5, 3) := by decide +kernel
theorem dX5_get_23 : decode cX5_get 23 = .ok (.iconst 0, 1) := by decide +kernel
theorem dX5_get_24 : decode cX5_get 24 = .ok (.ireturn, 1) := by decide +kernel
theorem dX5_get_25 : decode cX5_get 25 = .ok (.aload_n 0, 1) := by decide +kernel
theorem dX5_get_26 : decode cX5_get 26 = .ok (.getfield 20, 3) := by decide +kernel
theorem dX5_get_29 : decode cX5_get 29 = .ok (.iload_n 1, 1) := by decide +kernel
theorem dX5_get_30 : decode cX5_get 30 = .ok (.aaload, 1) := by decide +kernel
theorem dX5_get_31 : decode cX5_get 31 = .ok (.iload 5, 2) := by decide +kernel
theorem dX5_get_33 : decode cX5_get 33 = .ok (.iload 4, 2) := by decide +kernel
theorem dX5_get_35 : decode cX5_get 35 = .ok (.invokevirtual 77, 3) := by decide +kernel
theorem dX5_get_38 : decode cX5_get 38 = .ok (.iconst 1, 1) := by decide +kernel
theorem dX5_get_39 : decode cX5_get 39 = .ok (.ireturn, 1) := by decide +kernel
theorem dX5_number_0 : decode cX5_number 0 = .ok (.aload_n 0, 1) := by decide +kernel
theorem dX5_number_1 : decode cX5_number 1 = .ok (.iload_n 1, 1) := by decide +kernel
theorem dX5_number_2 : decode cX5_number 2 = .ok (.invokevirtual 48, 3) := by decide +kernel
theorem dX5_number_5 : decode cX5_number 5 = .ok (.ifCond .eq 10, 3) := by decide +kernel
theorem dX5_number_8 : decode cX5_number 8 = .ok (.iload_n 2, 1) := by decide +kernel
theorem dX5_number_9 : decode cX5_number 9 = .ok (.invokestatic 52, 3) := by decide +kernel
theorem dX5_number_12 : decode cX5_number 12 = .ok (.ifCond .ne 5, 3) := by decide +kernel
theorem dX5_number_15 : decode cX5_number 15 = .ok (.iconst 0, 1) := by decide +kernel
theorem dX5_number_16 : decode cX5_number 16 = .ok (.ireturn, 1) := by decide +kernel
theorem dX5_number_17 : decode cX5_number 17 = .ok (.aload_n 0, 1) := by decide +kernel
theorem dX5_number_18 : decode cX5_number 18 = .ok (.getfield 20, 3) := by decide +kernel
theorem dX5_number_21 : decode cX5_number 21 = .ok (.iload_n 1, 1) := by decide +kernel
theorem dX5_number_22 : decode cX5_number 22 = .ok (.aaload, 1) := by decide +kernel
theorem dX5_number_23 : decode cX5_number 23 = .ok (.iload_n 2, 1) := by decide +kernel
theorem dX5_number_24 : decode cX5_number 24 = .ok (.iconst 1, 1) := by decide +kernel
theorem dX5_number_25 : decode cX5_number 25 = .ok (.iload_n 3, 1) := by decide +kernel
theorem dX5_number_26 : decode cX5_number 26 = .ok (.invokevirtual 69, 3) := by decide +kernel
theorem dX5_number_29 : decode cX5_number 29 = .ok (.iconst 1, 1) := by decide +kernel
theorem dX5_number_30 : decode cX5_number 30 = .ok (.ireturn, 1) := by decide +kernel
theorem dX5_drop_0 : decode cX5_drop 0 = .ok (.aload_n 0, 1) := by decide +kernel
theorem dX5_drop_1 : decode cX5_drop 1 = .ok (.iload_n 1, 1) := by decide +kernel
theorem dX5_drop_2 : decode cX5_drop 2 = .ok (.invokevirtual 48, 3) := by decide +kernel
theorem dX5_drop_5 : decode cX5_drop 5 = .ok (.ifCond .eq 10, 3) := by decide +kernel
theorem dX5_drop_8 : decode cX5_drop 8 = .ok (.iload_n 2, 1) := by decide +kernel
theorem dX5_drop_9 : decode cX5_drop 9 = .ok (.invokestatic 52, 3) := by decide +kernel
theorem dX5_drop_12 : decode cX5_drop 12 = .ok (.ifCond .ne 5, 3) := by decide +kernel
theorem dX5_drop_15 : decode cX5_drop 15 = .ok (.iconst 0, 1) := by decide +kernel
theorem dX5_drop_16 : decode cX5_drop 16 = .ok (.ireturn, 1) := by decide +kernel
theorem dX5_drop_17 : decode cX5_drop 17 = .ok (.aload_n 0, 1) := by decide +kernel
theorem dX5_drop_18 : decode cX5_drop 18 = .ok (.getfield 20, 3) := by decide +kernel
theorem dX5_drop_21 : decode cX5_drop 21 = .ok (.iload_n 1, 1) := by decide +kernel
theorem dX5_drop_22 : decode cX5_drop 22 = .ok (.aaload, 1) := by decide +kernel
theorem dX5_drop_23 : decode cX5_drop 23 = .ok (.iload_n 2, 1) := by decide +kernel
theorem dX5_drop_24 : decode cX5_drop 24 = .ok (.invokevirtual 80, 3) := by decide +kernel
theorem dX5_drop_27 : decode cX5_drop 27 = .ok (.iconst 1, 1) := by decide +kernel
theorem dX5_drop_28 : decode cX5_drop 28 = .ok (.ireturn, 1) := by decide +kernel
theorem dX5_send_0 : decode cX5_send 0 = .ok (.aload_n 0, 1) := by decide +kernel
theorem dX5_send_1 : decode cX5_send 1 = .ok (.iload_n 1, 1) := by decide +kernel
theorem dX5_send_2 : decode cX5_send 2 = .ok (.invokevirtual 48, 3) := by decide +kernel
theorem dX5_send_5 : decode cX5_send 5 = .ok (.ifCond .eq 31, 3) := by decide +kernel
theorem dX5_send_8 : decode cX5_send 8 = .ok (.iload_n 2, 1) := by decide +kernel
theorem dX5_send_9 : decode cX5_send 9 = .ok (.invokestatic 52, 3) := by decide +kernel
theorem dX5_send_12 : decode cX5_send 12 = .ok (.ifCond .eq 24, 3) := by decide +kernel
theorem dX5_send_15 : decode cX5_send 15 = .ok (.aload_n 0, 1) := by decide +kernel
theorem dX5_send_16 : decode cX5_send 16 = .ok (.iload_n 3, 1) := by decide +kernel
theorem dX5_send_17 : decode cX5_send 17 = .ok (.invokevirtual 48, 3) := by decide +kernel
theorem dX5_send_20 : decode cX5_send 20 = .ok (.ifCond .eq 16, 3) := by decide +kernel
theorem dX5_send_23 : decode cX5_send 23 = .ok (.iload 4, 2) := by decide +kernel
theorem dX5_send_25 : decode cX5_send 25 = .ok (.invokestatic 52, 3) := by decide +kernel
theorem dX5_send_28 : decode cX5_send 28 = .ok (.ifCond .eq 8, 3) := by decide +kernel
theorem dX5_send_31 : decode cX5_send 31 = .ok (.iload_n 3, 1) := by decide +kernel
theorem dX5_send_32 : decode cX5_send 32 = .ok (.iload_n 1, 1) := by decide +kernel
theorem dX5_send_33 : decode cX5_send 33 = .ok (.if_icmp .ne 5, 3) := by decide +kernel
theorem dX5_send_36 : decode cX5_send 36 = .ok (.iconst (-1), 1) := by decide +kernel
theorem dX5_send_37 : decode cX5_send 37 = .ok (.ireturn, 1) := by decide +kernel
theorem dX5_send_38 : decode cX5_send 38 = .ok (.aload_n 0, 1) := by decide +kernel
theorem dX5_send_39 : decode cX5_send 39 = .ok (.getfield 20, 3) := by decide +kernel
theorem dX5_send_42 : decode cX5_send 42 = .ok (.iload_n 1, 1) := by decide +kernel
theorem dX5_send_43 : decode cX5_send 43 = .ok (.aaload, 1) := by decide +kernel
theorem dX5_send_44 : decode cX5_send 44 = .ok (.astore 5, 2) := by decide +kernel
theorem dX5_send_46 : decode cX5_send 46 = .ok (.aload 5, 2) := by decide +kernel
theorem dX5_send_48 : decode cX5_send 48 = .ok (.iload_n 2, 1) := by decide +kernel
theorem dX5_send_49 : decode cX5_send 49 = .ok (.invokevirtual 83, 3) := by decide +kernel
theorem dX5_send_52 : decode cX5_send 52 = .ok (.ifCond .eq 13, 3) := by decide +kernel
theorem dX5_send_55 : decode cX5_send 55 = .ok (.aload_n 0, 1) := by decide +kernel
theorem dX5_send_56 : decode cX5_send 56 = .ok (.getfield 30, 3) := by decide +kernel
theorem dX5_send_59 : decode cX5_send 59 = .ok (.invokevirtual 86, 3) := by decide +kernel
theorem dX5_send_62 : decode cX5_send 62 = .ok (.ifCond .eq 5, 3) := by decide +kernel
theorem dX5_send_65 : decode cX5_send 65 = .ok (.iconst (-1), 1) := by decide +kernel
theorem dX5_send_66 : decode cX5_send 66 = .ok (.ireturn, 1) := by decide +kernel
theorem dX5_send_67 : decode cX5_send 67 = .ok (.aload 5, 2) := by decide +kernel
theorem dX5_send_69 : decode cX5_send 69 = .ok (.getfield 90, 3) := by decide +kernel
theorem dX5_send_72 : decode cX5_send 72 = .ok (.iload_n 2, 1) := by decide +kernel
theorem dX5_send_73 : decode cX5_send 73 = .ok (.iaload, 1) := by decide +kernel
theorem dX5_send_74 : decode cX5_send 74 = .ok (.istore 6, 2) := by decide +kernel
theorem dX5_send_76 : decode cX5_send 76 = .ok (.aload 5, 2) := by decide +kernel
theorem dX5_send_78 : decode cX5_send 78 = .ok (.iload 6, 2) := by decide +kernel
theorem dX5_send_80 : decode cX5_send 80 = .ok (.invokevirtual 94, 3) := by decide +kernel
theorem dX5_send_83 : decode cX5_send 83 = .ok (.istore 7, 2) := by decide +kernel
theorem dX5_send_85 : decode cX5_send 85 = .ok (.iload 7, 2) := by decide +kernel
theorem dX5_send_87 : decode cX5_send 87 = .ok (.ifCond .ne 6, 3) := by decide +kernel
theorem dX5_send_90 : decode cX5_send 90 = .ok (.bipush (-2), 2) := by decide +kernel
theorem dX5_send_92 : decode cX5_send 92 = .ok (.ireturn, 1) := by decide +kernel
theorem dX5_send_93 : decode cX5_send 93 = .ok (.aload_n 0, 1) := by decide +kernel
theorem dX5_send_94 : decode cX5_send 94 = .ok (.getfield 30, 3) := by decide +kernel
theorem dX5_send_97 : decode cX5_send 97 = .ok (.iconst 1, 1) := by decide +kernel
theorem dX5_send_98 : decode cX5_send 98 = .ok (.iload_n 1, 1) := by decide +kernel
theorem dX5_send_99 : decode cX5_send 99 = .ok (.iload_n 3, 1) := by decide +kernel
theorem dX5_send_100 : decode cX5_send 100 = .ok (.iload 6, 2) := by decide +kernel
theorem dX5_send_102 : decode cX5_send 102 = .ok (.iload 7, 2) := by decide +kernel
theorem dX5_send_104 : decode cX5_send 104 = .ok (.iload 4, 2) := by decide +kernel
theorem dX5_send_106 : decode cX5_send 106 = .ok (.invokevirtual 98, 3) := by decide +kernel
theorem dX5_send_109 : decode cX5_send 109 = .ok (.iload 7, 2) := by decide +kernel
theorem dX5_send_111 : decode cX5_send 111 = .ok (.ireturn, 1) := by decide +kernel
theorem dX5_ask_0 : decode cX5_ask 0 = .ok (.aload_n 0, 1) := by decide +kernel
theorem dX5_ask_1 : decode cX5_ask 1 = .ok (.iload_n 1, 1) := by decide +kernel
theorem dX5_ask_2 : decode cX5_ask 2 = .ok (.invokevirtual 48, 3) := by decide +kernel
theorem dX5_ask_5 : decode cX5_ask 5 = .ok (.ifCond .eq 35, 3) := by decide +kernel
theorem dX5_ask_8 : decode cX5_ask 8 = .ok (.iload_n 2, 1) := by decide +kernel
theorem dX5_ask_9 : decode cX5_ask 9 = .ok (.invokestatic 52, 3) := by decide +kernel
theorem dX5_ask_12 : decode cX5_ask 12 = .ok (.ifCond .eq 28, 3) := by decide +kernel
theorem dX5_ask_15 : decode cX5_ask 15 = .ok (.aload_n 0, 1) := by decide +kernel
theorem dX5_ask_16 : decode cX5_ask 16 = .ok (.getfield 20, 3) := by decide +kernel
theorem dX5_ask_19 : decode cX5_ask 19 = .ok (.iload_n 1, 1) := by decide +kernel
theorem dX5_ask_20 : decode cX5_ask 20 = .ok (.aaload, 1) := by decide +kernel
theorem dX5_ask_21 : decode cX5_ask 21 = .ok (.getfield 102, 3) := by decide +kernel
theorem dX5_ask_24 : decode cX5_ask 24 = .ok (.iload_n 2, 1) := by decide +kernel
theorem dX5_ask_25 : decode cX5_ask 25 = .ok (.iaload, 1) := by decide +kernel
theorem dX5_ask_26 : decode cX5_ask 26 = .ok (.iconst 3, 1) := by decide +kernel
theorem dX5_ask_27 : decode cX5_ask 27 = .ok (.if_icmp .ne 13, 3) := by decide +kernel
theorem dX5_ask_30 : decode cX5_ask 30 = .ok (.aload_n 0, 1) := by decide +kernel
theorem dX5_ask_31 : decode cX5_ask 31 = .ok (.getfield 30, 3) := by decide +kernel
theorem dX5_ask_34 : decode cX5_ask 34 = .ok (.invokevirtual 86, 3) := by decide +kernel
theorem dX5_ask_37 : decode cX5_ask 37 = .ok (.ifCond .eq 5, 3) := by decide +kernel
theorem dX5_ask_40 : decode cX5_ask 40 = .ok (.iconst 0, 1) := by decide +kernel
theorem dX5_ask_41 : decode cX5_ask 41 = .ok (.ireturn, 1) := by decide +kernel
theorem dX5_ask_42 : decode cX5_ask 42 = .ok (.aload_n 0, 1) := by decide +kernel
theorem dX5_ask_43 : decode cX5_ask 43 = .ok (.getfield 20, 3) := by decide +kernel
theorem dX5_ask_46 : decode cX5_ask 46 = .ok (.iload_n 1, 1) := by decide +kernel
theorem dX5_ask_47 : decode cX5_ask 47 = .ok (.aaload, 1) := by decide +kernel
theorem dX5_ask_48 : decode cX5_ask 48 = .ok (.getfield 90, 3) := by decide +kernel
theorem dX5_ask_51 : decode cX5_ask 51 = .ok (.iload_n 2, 1) := by decide +kernel
theorem dX5_ask_52 : decode cX5_ask 52 = .ok (.iaload, 1) := by decide +kernel
theorem dX5_ask_53 : decode cX5_ask 53 = .ok (.istore_n 3, 1) := by decide +kernel
theorem dX5_ask_54 : decode cX5_ask 54 = .ok (.aload_n 0, 1) := by decide +kernel
theorem dX5_ask_55 : decode cX5_ask 55 = .ok (.getfield 30, 3) := by decide +kernel
theorem dX5_ask_58 : decode cX5_ask 58 = .ok (.iconst 3, 1) := by decide +kernel
theorem dX5_ask_59 : decode cX5_ask 59 = .ok (.iload_n 1, 1) := by decide +kernel
theorem dX5_ask_60 : decode cX5_ask 60 = .ok (.iload_n 3, 1) := by decide +kernel
theorem dX5_ask_61 : decode cX5_ask 61 = .ok (.invokestatic 105, 3) := by decide +kernel
theorem dX5_ask_64 : decode cX5_ask 64 = .ok (.iload_n 3, 1) := by decide +kernel
theorem dX5_ask_65 : decode cX5_ask 65 = .ok (.iconst 0, 1) := by decide +kernel
theorem dX5_ask_66 : decode cX5_ask 66 = .ok (.iconst (-1), 1) := by decide +kernel
theorem dX5_ask_67 : decode cX5_ask 67 = .ok (.invokevirtual 98, 3) := by decide +kernel
theorem dX5_ask_70 : decode cX5_ask 70 = .ok (.iconst 1, 1) := by decide +kernel
theorem dX5_ask_71 : decode cX5_ask 71 = .ok (.ireturn, 1) := by decide +kernel
theorem dX5_come_0 : decode cX5_come 0 = .ok (.aload_n 0, 1) := by decide +kernel
theorem dX5_come_1 : decode cX5_come 1 = .ok (.iload_n 1, 1) := by decide +kernel
theorem dX5_come_2 : decode cX5_come 2 = .ok (.invokevirtual 48, 3) := by decide +kernel
theorem dX5_come_5 : decode cX5_come 5 = .ok (.ifCond .eq 16, 3) := by decide +kernel
theorem dX5_come_8 : decode cX5_come 8 = .ok (.aload_n 0, 1) := by decide +kernel
theorem dX5_come_9 : decode cX5_come 9 = .ok (.iload_n 2, 1) := by decide +kernel
theorem dX5_come_10 : decode cX5_come 10 = .ok (.invokevirtual 48, 3) := by decide +kernel
theorem dX5_come_13 : decode cX5_come 13 = .ok (.ifCond .eq 8, 3) := by decide +kernel
theorem dX5_come_16 : decode cX5_come 16 = .ok (.iload_n 1, 1) := by decide +kernel
theorem dX5_come_17 : decode cX5_come 17 = .ok (.iload_n 2, 1) := by decide +kernel
theorem dX5_come_18 : decode cX5_come 18 = .ok (.if_icmp .ne 5, 3) := by decide +kernel
theorem dX5_come_21 : decode cX5_come 21 = .ok (.iconst (-1), 1) := by decide +kernel
theorem dX5_come_22 : decode cX5_come 22 = .ok (.ireturn, 1) := by decide +kernel
theorem dX5_come_23 : decode cX5_come 23 = .ok (.aload_n 0, 1) := by decide +kernel
theorem dX5_come_24 : decode cX5_come 24 = .ok (.getfield 30, 3) := by decide +kernel
theorem dX5_come_27 : decode cX5_come 27 = .ok (.iload_n 1, 1) := by decide +kernel
theorem dX5_come_28 : decode cX5_come 28 = .ok (.iload_n 2, 1) := by decide +kernel
theorem dX5_come_29 : decode cX5_come 29 = .ok (.iconst 0, 1) := by decide +kernel
theorem dX5_come_30 : decode cX5_come 30 = .ok (.invokevirtual 108, 3) := by decide +kernel
theorem dX5_come_33 : decode cX5_come 33 = .ok (.astore_n 3, 1) := by decide +kernel
theorem dX5_come_34 : decode cX5_come 34 = .ok (.aload_n 3, 1) := by decide +kernel
theorem dX5_come_35 : decode cX5_come 35 = .ok (.ifnonnull 5, 3) := by decide +kernel
theorem dX5_come_38 : decode cX5_come 38 = .ok (.iconst 0, 1) := by decide +kernel
theorem dX5_come_39 : decode cX5_come 39 = .ok (.ireturn, 1) := by decide +kernel
theorem dX5_come_40 : decode cX5_come 40 = .ok (.aload_n 3, 1) := by decide +kernel
theorem dX5_come_41 : decode cX5_come 41 = .ok (.getfield 112, 3) := by decide +kernel
theorem dX5_come_44 : decode cX5_come 44 = .ok (.iconst 1, 1) := by decide +kernel
theorem dX5_come_45 : decode cX5_come 45 = .ok (.if_icmp .ne 22, 3) := by decide +kernel
theorem dX5_come_48 : decode cX5_come 48 = .ok (.aload_n 0, 1) := by decide +kernel
theorem dX5_come_49 : decode cX5_come 49 = .ok (.getfield 20, 3) := by decide +kernel
theorem dX5_come_52 : decode cX5_come 52 = .ok (.iload_n 2, 1) := by decide +kernel
theorem dX5_come_53 : decode cX5_come 53 = .ok (.aaload, 1) := by decide +kernel
theorem dX5_come_54 : decode cX5_come 54 = .ok (.aload_n 3, 1) := by decide +kernel
theorem dX5_come_55 : decode cX5_come 55 = .ok (.getfield 118, 3) := by decide +kernel
theorem dX5_come_58 : decode cX5_come 58 = .ok (.invokevirtual 121, 3) := by decide +kernel
theorem dX5_come_61 : decode cX5_come 61 = .ok (.ifCond .ne 6, 3) := by decide +kernel
theorem dX5_come_64 : decode cX5_come 64 = .ok (.bipush (-2), 2) := by decide +kernel
theorem dX5_come_66 : decode cX5_come 66 = .ok (.ireturn, 1) := by decide +kernel
theorem dX5_come_67 : decode cX5_come 67 = .ok (.aload_n 3, 1) := by decide +kernel
theorem dX5_come_68 : decode cX5_come 68 = .ok (.getfield 112, 3) := by decide +kernel
theorem dX5_come_71 : decode cX5_come 71 = .ok (.istore 4, 2) := by decide +kernel
theorem dX5_come_73 : decode cX5_come 73 = .ok (.aload_n 3, 1) := by decide +kernel
theorem dX5_come_74 : decode cX5_come 74 = .ok (.getfield 118, 3) := by decide +kernel
theorem dX5_come_77 : decode cX5_come 77 = .ok (.istore 5, 2) := by decide +kernel
theorem dX5_come_79 : decode cX5_come 79 = .ok (.aload_n 3, 1) := by decide +kernel
theorem dX5_come_80 : decode cX5_come 80 = .ok (.getfield 124, 3) := by decide +kernel
theorem dX5_come_83 : decode cX5_come 83 = .ok (.istore 6, 2) := by decide +kernel
theorem dX5_come_85 : decode cX5_come 85 = .ok (.aload_n 3, 1) := by decide +kernel
theorem dX5_come_86 : decode cX5_come 86 = .ok (.getfield 127, 3) := by decide +kernel
theorem dX5_come_89 : decode cX5_come 89 = .ok (.istore 7, 2) := by decide +kernel
theorem dX5_come_91 : decode cX5_come 91 = .ok (.aload_n 0, 1) := by decide +kernel
theorem dX5_come_92 : decode cX5_come 92 = .ok (.getfield 30, 3) := by decide +kernel
theorem dX5_come_95 : decode cX5_come 95 = .ok (.aload_n 3, 1) := by decide +kernel
theorem dX5_come_96 : decode cX5_come 96 = .ok (.invokevirtual 130, 3) := by decide +kernel
theorem dX5_come_99 : decode cX5_come 99 = .ok (.iload 4, 2) := by decide +kernel
theorem dX5_come_101 : decode cX5_come 101 = .ok (.iconst 1, 1) := by decide +kernel
theorem dX5_come_102 : decode cX5_come 102 = .ok (.if_icmp .ne 21, 3) := by decide +kernel
theorem dX5_come_105 : decode cX5_come 105 = .ok (.aload_n 0, 1) := by decide +kernel
theorem dX5_come_106 : decode cX5_come 106 = .ok (.getfield 20, 3) := by decide +kernel
theorem dX5_come_109 : decode cX5_come 109 = .ok (.iload_n 2, 1) := by decide +kernel
theorem dX5_come_110 : decode cX5_come 110 = .ok (.aaload, 1) := by decide +kernel
theorem dX5_come_111 : decode cX5_come 111 = .ok (.iload 5, 2) := by decide +kernel
theorem dX5_come_113 : decode cX5_come 113 = .ok (.iload 6, 2) := by decide +kernel
theorem dX5_come_115 : decode cX5_come 115 = .ok (.iload 7, 2) := by decide +kernel
theorem dX5_come_117 : decode cX5_come 117 = .ok (.invokevirtual 134, 3) := by decide +kernel
theorem dX5_come_120 : decode cX5_come 120 = .ok (.goto 72, 3) := by decide +kernel
theorem dX5_come_123 : decode cX5_come 123 = .ok (.iload 4, 2) := by decide +kernel
theorem dX5_come_125 : decode cX5_come 125 = .ok (.iconst 2, 1) := by decide +kernel
theorem dX5_come_126 : decode cX5_come 126 = .ok (.if_icmp .ne 20, 3) := by decide +kernel
theorem dX5_come_129 : decode cX5_come 129 = .ok (.aload_n 0, 1) := by decide +kernel
theorem dX5_come_130 : decode cX5_come 130 = .ok (.getfield 20, 3) := by decide +kernel
theorem dX5_come_133 : decode cX5_come 133 = .ok (.iload_n 2, 1) := by decide +kernel
theorem dX5_come_134 : decode cX5_come 134 = .ok (.aaload, 1) := by decide +kernel
theorem dX5_come_135 : decode cX5_come 135 = .ok (.iload 5, 2) := by decide +kernel
theorem dX5_come_137 : decode cX5_come 137 = .ok (.iload 6, 2) := by decide +kernel
theorem dX5_come_139 : decode cX5_come 139 = .ok (.ineg, 1) := by decide +kernel
theorem dX5_come_140 : decode cX5_come 140 = .ok (.invokevirtual 137, 3) := by decide +kernel
