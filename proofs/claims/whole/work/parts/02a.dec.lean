theorem dX0_init_0 : decode cX0_init 0 = .ok (.aload_n 0, 1) := by decide +kernel
theorem dX0_init_1 : decode cX0_init 1 = .ok (.invokespecial 1, 3) := by decide +kernel
theorem dX0_init_4 : decode cX0_init 4 = .ok (.return_, 1) := by decide +kernel
theorem dX1_init_0 : decode cX1_init 0 = .ok (.aload_n 0, 1) := by decide +kernel
theorem dX1_init_1 : decode cX1_init 1 = .ok (.invokespecial 3, 3) := by decide +kernel
theorem dX1_init_4 : decode cX1_init 4 = .ok (.aload_n 0, 1) := by decide +kernel
theorem dX1_init_5 : decode cX1_init 5 = .ok (.bipush 120, 2) := by decide +kernel
theorem dX1_init_7 : decode cX1_init 7 = .ok (.newarray .boolean, 2) := by decide +kernel
theorem dX1_init_9 : decode cX1_init 9 = .ok (.putfield 9, 3) := by decide +kernel
theorem dX1_init_12 : decode cX1_init 12 = .ok (.aload_n 0, 1) := by decide +kernel
theorem dX1_init_13 : decode cX1_init 13 = .ok (.bipush 120, 2) := by decide +kernel
theorem dX1_init_15 : decode cX1_init 15 = .ok (.newarray .int, 2) := by decide +kernel
theorem dX1_init_17 : decode cX1_init 17 = .ok (.putfield 15, 3) := by decide +kernel
theorem dX1_init_20 : decode cX1_init 20 = .ok (.return_, 1) := by decide +kernel
theorem dX1_clear_0 : decode cX1_clear 0 = .ok (.iconst 0, 1) := by decide +kernel
theorem dX1_clear_1 : decode cX1_clear 1 = .ok (.istore_n 1, 1) := by decide +kernel
theorem dX1_clear_2 : decode cX1_clear 2 = .ok (.iload_n 1, 1) := by decide +kernel
theorem dX1_clear_3 : decode cX1_clear 3 = .ok (.bipush 120, 2) := by decide +kernel
theorem dX1_clear_5 : decode cX1_clear 5 = .ok (.if_icmp .ge 16, 3) := by decide +kernel
theorem dX1_clear_8 : decode cX1_clear 8 = .ok (.aload_n 0, 1) := by decide +kernel
theorem dX1_clear_9 : decode cX1_clear 9 = .ok (.getfield 9, 3) := by decide +kernel
theorem dX1_clear_12 : decode cX1_clear 12 = .ok (.iload_n 1, 1) := by decide +kernel
theorem dX1_clear_13 : decode cX1_clear 13 = .ok (.iconst 0, 1) := by decide +kernel
theorem dX1_clear_14 : decode cX1_clear 14 = .ok (.bastore, 1) := by decide +kernel
theorem dX1_clear_15 : decode cX1_clear 15 = .ok (.iinc 1 1, 3) := by decide +kernel
theorem dX1_clear_18 : decode cX1_clear 18 = .ok (.goto (-16), 3) := by decide +kernel
theorem dX1_clear_21 : decode cX1_clear 21 = .ok (.aload_n 0, 1) := by decide +kernel
theorem dX1_clear_22 : decode cX1_clear 22 = .ok (.iconst 0, 1) := by decide +kernel
theorem dX1_clear_23 : decode cX1_clear 23 = .ok (.putfield 19, 3) := by decide +kernel
theorem dX1_clear_26 : decode cX1_clear 26 = .ok (.aload_n 0, 1) := by decide +kernel
theorem dX1_clear_27 : decode cX1_clear 27 = .ok (.iconst 0, 1) := by decide +kernel
theorem dX1_clear_28 : decode cX1_clear 28 = .ok (.putfield 23, 3) := by decide +kernel
theorem dX1_clear_31 : decode cX1_clear 31 = .ok (.return_, 1) := by decide +kernel
theorem dX1_has_0 : decode cX1_has 0 = .ok (.iload_n 1, 1) := by decide +kernel
theorem dX1_has_1 : decode cX1_has 1 = .ok (.ifCond .lt 22, 3) := by decide +kernel
theorem dX1_has_4 : decode cX1_has 4 = .ok (.iload_n 1, 1) := by decide +kernel
theorem dX1_has_5 : decode cX1_has 5 = .ok (.bipush 120, 2) := by decide +kernel
theorem dX1_has_7 : decode cX1_has 7 = .ok (.if_icmp .ge 16, 3) := by decide +kernel
theorem dX1_has_10 : decode cX1_has 10 = .ok (.aload_n 0, 1) := by decide +kernel
theorem dX1_has_11 : decode cX1_has 11 = .ok (.getfield 9, 3) := by decide +kernel
theorem dX1_has_14 : decode cX1_has 14 = .ok (.iload_n 1, 1) := by decide +kernel
theorem dX1_has_15 : decode cX1_has 15 = .ok (.baload, 1) := by decide +kernel
theorem dX1_has_16 : decode cX1_has 16 = .ok (.ifCond .eq 7, 3) := by decide +kernel
theorem dX1_has_19 : decode cX1_has 19 = .ok (.iconst 1, 1) := by decide +kernel
theorem dX1_has_20 : decode cX1_has 20 = .ok (.goto 4, 3) := by decide +kernel
theorem dX1_has_23 : decode cX1_has 23 = .ok (.iconst 0, 1) := by decide +kernel
theorem dX1_has_24 : decode cX1_has 24 = .ok (.ireturn, 1) := by decide +kernel
theorem dX1_add_0 : decode cX1_add 0 = .ok (.iload_n 1, 1) := by decide +kernel
theorem dX1_add_1 : decode cX1_add 1 = .ok (.ifCond .lt 54, 3) := by decide +kernel
theorem dX1_add_4 : decode cX1_add 4 = .ok (.iload_n 1, 1) := by decide +kernel
theorem dX1_add_5 : decode cX1_add 5 = .ok (.bipush 120, 2) := by decide +kernel
theorem dX1_add_7 : decode cX1_add 7 = .ok (.if_icmp .ge 48, 3) := by decide +kernel
theorem dX1_add_10 : decode cX1_add 10 = .ok (.aload_n 0, 1) := by decide +kernel
theorem dX1_add_11 : decode cX1_add 11 = .ok (.getfield 9, 3) := by decide +kernel
theorem dX1_add_14 : decode cX1_add 14 = .ok (.iload_n 1, 1) := by decide +kernel
theorem dX1_add_15 : decode cX1_add 15 = .ok (.baload, 1) := by decide +kernel
theorem dX1_add_16 : decode cX1_add 16 = .ok (.ifCond .ne 39, 3) := by decide +kernel
theorem dX1_add_19 : decode cX1_add 19 = .ok (.aload_n 0, 1) := by decide +kernel
theorem dX1_add_20 : decode cX1_add 20 = .ok (.getfield 19, 3) := by decide +kernel
theorem dX1_add_23 : decode cX1_add 23 = .ok (.bipush 120, 2) := by decide +kernel
theorem dX1_add_25 : decode cX1_add 25 = .ok (.if_icmp .ge 30, 3) := by decide +kernel
theorem dX1_add_28 : decode cX1_add 28 = .ok (.aload_n 0, 1) := by decide +kernel
theorem dX1_add_29 : decode cX1_add 29 = .ok (.getfield 9, 3) := by decide +kernel
theorem dX1_add_32 : decode cX1_add 32 = .ok (.iload_n 1, 1) := by decide +kernel
theorem dX1_add_33 : decode cX1_add 33 = .ok (.iconst 1, 1) := by decide +kernel
theorem dX1_add_34 : decode cX1_add 34 = .ok (.bastore, 1) := by decide +kernel
theorem dX1_add_35 : decode cX1_add 35 = .ok (.aload_n 0, 1) := by decide +kernel
theorem dX1_add_36 : decode cX1_add 36 = .ok (.getfield 15, 3) := by decide +kernel
theorem dX1_add_39 : decode cX1_add 39 = .ok (.aload_n 0, 1) := by decide +kernel
theorem dX1_add_40 : decode cX1_add 40 = .ok (.getfield 19, 3) := by decide +kernel
theorem dX1_add_43 : decode cX1_add 43 = .ok (.iload_n 1, 1) := by decide +kernel
theorem dX1_add_44 : decode cX1_add 44 = .ok (.iastore, 1) := by decide +kernel
theorem dX1_add_45 : decode cX1_add 45 = .ok (.aload_n 0, 1) := by decide +kernel
theorem dX1_add_46 : decode cX1_add 46 = .ok (.dup, 1) := by decide +kernel
theorem dX1_add_47 : decode cX1_add 47 = .ok (.getfield 19, 3) := by decide +kernel
theorem dX1_add_50 : decode cX1_add 50 = .ok (.iconst 1, 1) := by decide +kernel
theorem dX1_add_51 : decode cX1_add 51 = .ok (.iadd, 1) := by decide +kernel
theorem dX1_add_52 : decode cX1_add 52 = .ok (.putfield 19, 3) := by decide +kernel
theorem dX1_add_55 : decode cX1_add 55 = .ok (.return_, 1) := by decide +kernel
theorem dX1_spread_0 : decode cX1_spread 0 = .ok (.aload_n 0, 1) := by decide +kernel
theorem dX1_spread_1 : decode cX1_spread 1 = .ok (.getfield 23, 3) := by decide +kernel
theorem dX1_spread_4 : decode cX1_spread 4 = .ok (.istore_n 2, 1) := by decide +kernel
theorem dX1_spread_5 : decode cX1_spread 5 = .ok (.iload_n 2, 1) := by decide +kernel
theorem dX1_spread_6 : decode cX1_spread 6 = .ok (.aload_n 0, 1) := by decide +kernel
theorem dX1_spread_7 : decode cX1_spread 7 = .ok (.getfield 19, 3) := by decide +kernel
theorem dX1_spread_10 : decode cX1_spread 10 = .ok (.if_icmp .ge 51, 3) := by decide +kernel
theorem dX1_spread_13 : decode cX1_spread 13 = .ok (.iload_n 2, 1) := by decide +kernel
theorem dX1_spread_14 : decode cX1_spread 14 = .ok (.bipush 120, 2) := by decide +kernel
theorem dX1_spread_16 : decode cX1_spread 16 = .ok (.if_icmp .ge 45, 3) := by decide +kernel
theorem dX1_spread_19 : decode cX1_spread 19 = .ok (.aload_n 0, 1) := by decide +kernel
theorem dX1_spread_20 : decode cX1_spread 20 = .ok (.getfield 15, 3) := by decide +kernel
theorem dX1_spread_23 : decode cX1_spread 23 = .ok (.iload_n 2, 1) := by decide +kernel
theorem dX1_spread_24 : decode cX1_spread 24 = .ok (.iaload, 1) := by decide +kernel
theorem dX1_spread_25 : decode cX1_spread 25 = .ok (.invokestatic 26, 3) := by decide +kernel
theorem dX1_spread_28 : decode cX1_spread 28 = .ok (.istore_n 3, 1) := by decide +kernel
theorem dX1_spread_29 : decode cX1_spread 29 = .ok (.iload_n 3, 1) := by decide +kernel
theorem dX1_spread_30 : decode cX1_spread 30 = .ok (.ifCond .lt 25, 3) := by decide +kernel
theorem dX1_spread_33 : decode cX1_spread 33 = .ok (.iload_n 3, 1) := by decide +kernel
theorem dX1_spread_34 : decode cX1_spread 34 = .ok (.aload_n 1, 1) := by decide +kernel
theorem dX1_spread_35 : decode cX1_spread 35 = .ok (.arraylength, 1) := by decide +kernel
theorem dX1_spread_36 : decode cX1_spread 36 = .ok (.if_icmp .ge 19, 3) := by decide +kernel
theorem dX1_spread_39 : decode cX1_spread 39 = .ok (.aload_n 1, 1) := by decide +kernel
theorem dX1_spread_40 : decode cX1_spread 40 = .ok (.iload_n 3, 1) := by decide +kernel
theorem dX1_spread_41 : decode cX1_spread 41 = .ok (.aaload, 1) := by decide +kernel
theorem dX1_spread_42 : decode cX1_spread 42 = .ok (.aload_n 0, 1) := by decide +kernel
theorem dX1_spread_43 : decode cX1_spread 43 = .ok (.getfield 15, 3) := by decide +kernel
theorem dX1_spread_46 : decode cX1_spread 46 = .ok (.iload_n 2, 1) := by decide +kernel
theorem dX1_spread_47 : decode cX1_spread 47 = .ok (.iaload, 1) := by decide +kernel
theorem dX1_spread_48 : decode cX1_spread 48 = .ok (.invokestatic 30, 3) := by decide +kernel
theorem dX1_spread_51 : decode cX1_spread 51 = .ok (.aload_n 0, 1) := by decide +kernel
theorem dX1_spread_52 : decode cX1_spread 52 = .ok (.invokevirtual 33, 3) := by decide +kernel
theorem dX1_spread_55 : decode cX1_spread 55 = .ok (.iinc 2 1, 3) := by decide +kernel
theorem dX1_spread_58 : decode cX1_spread 58 = .ok (.goto (-53), 3) := by decide +kernel
theorem dX1_spread_61 : decode cX1_spread 61 = .ok (.aload_n 0, 1) := by decide +kernel
theorem dX1_spread_62 : decode cX1_spread 62 = .ok (.aload_n 0, 1) := by decide +kernel
theorem dX1_spread_63 : decode cX1_spread 63 = .ok (.getfield 19, 3) := by decide +kernel
theorem dX1_spread_66 : decode cX1_spread 66 = .ok (.putfield 23, 3) := by decide +kernel
theorem dX1_spread_69 : decode cX1_spread 69 = .ok (.return_, 1) := by decide +kernel
theorem dX2_init_0 : decode cX2_init 0 = .ok (.aload_n 0, 1) := by decide +kernel
theorem dX2_init_1 : decode cX2_init 1 = .ok (.invokespecial 3, 3) := by decide +kernel
theorem dX2_init_4 : decode cX2_init 4 = .ok (.aload_n 0, 1) := by decide +kernel
theorem dX2_init_5 : decode cX2_init 5 = .ok (.sipush 294, 3) := by decide +kernel
theorem dX2_init_8 : decode cX2_init 8 = .ok (.newarray .int, 2) := by decide +kernel
theorem dX2_init_10 : decode cX2_init 10 = .ok (.putfield 9, 3) := by decide +kernel
theorem dX2_init_13 : decode cX2_init 13 = .ok (.aload_n 0, 1) := by decide +kernel
theorem dX2_init_14 : decode cX2_init 14 = .ok (.sipush 294, 3) := by decide +kernel
theorem dX2_init_17 : decode cX2_init 17 = .ok (.newarray .int, 2) := by decide +kernel
theorem dX2_init_19 : decode cX2_init 19 = .ok (.putfield 15, 3) := by decide +kernel
theorem dX2_init_22 : decode cX2_init 22 = .ok (.aload_n 0, 1) := by decide +kernel
theorem dX2_init_23 : decode cX2_init 23 = .ok (.bipush 24, 2) := by decide +kernel
theorem dX2_init_25 : decode cX2_init 25 = .ok (.newarray .int, 2) := by decide +kernel
theorem dX2_init_27 : decode cX2_init 27 = .ok (.putfield 18, 3) := by decide +kernel
theorem dX2_init_30 : decode cX2_init 30 = .ok (.aload_n 0, 1) := by decide +kernel
theorem dX2_init_31 : decode cX2_init 31 = .ok (.bipush 24, 2) := by decide +kernel
theorem dX2_init_33 : decode cX2_init 33 = .ok (.newarray .int, 2) := by decide +kernel
theorem dX2_init_35 : decode cX2_init 35 = .ok (.putfield 21, 3) := by decide +kernel
theorem dX2_init_38 : decode cX2_init 38 = .ok (.aload_n 0, 1) := by decide +kernel
theorem dX2_init_39 : decode cX2_init 39 = .ok (.bipush 24, 2) := by decide +kernel
theorem dX2_init_41 : decode cX2_init 41 = .ok (.newarray .int, 2) := by decide +kernel
theorem dX2_init_43 : decode cX2_init 43 = .ok (.putfield 24, 3) := by decide +kernel
theorem dX2_init_46 : decode cX2_init 46 = .ok (.aload_n 0, 1) := by decide +kernel
theorem dX2_init_47 : decode cX2_init 47 = .ok (.bipush 120, 2) := by decide +kernel
theorem dX2_init_49 : decode cX2_init 49 = .ok (.newarray .int, 2) := by decide +kernel
theorem dX2_init_51 : decode cX2_init 51 = .ok (.putfield 27, 3) := by decide +kernel
theorem dX2_init_54 : decode cX2_init 54 = .ok (.aload_n 0, 1) := by decide +kernel
theorem dX2_init_55 : decode cX2_init 55 = .ok (.bipush 24, 2) := by decide +kernel
theorem dX2_init_57 : decode cX2_init 57 = .ok (.newarray .int, 2) := by decide +kernel
theorem dX2_init_59 : decode cX2_init 59 = .ok (.putfield 30, 3) := by decide +kernel
theorem dX2_init_62 : decode cX2_init 62 = .ok (.aload_n 0, 1) := by decide +kernel
theorem dX2_init_63 : decode cX2_init 63 = .ok (.iload_n 1, 1) := by decide +kernel
theorem dX2_init_64 : decode cX2_init 64 = .ok (.putfield 33, 3) := by decide +kernel
theorem dX2_init_67 : decode cX2_init 67 = .ok (.aload_n 0, 1) := by decide +kernel
theorem dX2_init_68 : decode cX2_init 68 = .ok (.getfield 18, 3) := by decide +kernel
theorem dX2_init_71 : decode cX2_init 71 = .ok (.iconst (-1), 1) := by decide +kernel
theorem dX2_init_72 : decode cX2_init 72 = .ok (.invokestatic 37, 3) := by decide +kernel
theorem dX2_init_75 : decode cX2_init 75 = .ok (.return_, 1) := by decide +kernel
theorem dX2_hasObject_0 : decode cX2_hasObject 0 = .ok (.iload_n 1, 1) := by decide +kernel
theorem dX2_hasObject_1 : decode cX2_hasObject 1 = .ok (.ifCond .lt 23, 3) := by decide +kernel
theorem dX2_hasObject_4 : decode cX2_hasObject 4 = .ok (.iload_n 1, 1) := by decide +kernel
theorem dX2_hasObject_5 : decode cX2_hasObject 5 = .ok (.bipush 24, 2) := by decide +kernel
theorem dX2_hasObject_7 : decode cX2_hasObject 7 = .ok (.if_icmp .ge 17, 3) := by decide +kernel
theorem dX2_hasObject_10 : decode cX2_hasObject 10 = .ok (.aload_n 0, 1) := by decide +kernel
theorem dX2_hasObject_11 : decode cX2_hasObject 11 = .ok (.getfield 18, 3) := by decide +kernel
theorem dX2_hasObject_14 : decode cX2_hasObject 14 = .ok (.iload_n 1, 1) := by decide +kernel
theorem dX2_hasObject_15 : decode cX2_hasObject 15 = .ok (.iaload, 1) := by decide +kernel
theorem dX2_hasObject_16 : decode cX2_hasObject 16 = .ok (.iconst (-1), 1) := by decide +kernel
theorem dX2_hasObject_17 : decode cX2_hasObject 17 = .ok (.if_icmp .eq 7, 3) := by decide +kernel
theorem dX2_hasObject_20 : decode cX2_hasObject 20 = .ok (.iconst 1, 1) := by decide +kernel
theorem dX2_hasObject_21 : decode cX2_hasObject 21 = .ok (.goto 4, 3) := by decide +kernel
theorem dX2_hasObject_24 : decode cX2_hasObject 24 = .ok (.iconst 0, 1) := by decide +kernel
theorem dX2_hasObject_25 : decode cX2_hasObject 25 = .ok (.ireturn, 1) := by decide +kernel
theorem dX2_hasField_0 : decode cX2_hasField 0 = .ok (.aload_n 0, 1) := by decide +kernel
theorem dX2_hasField_1 : decode cX2_hasField 1 = .ok (.iload_n 1, 1) := by decide +kernel
theorem dX2_hasField_2 : decode cX2_hasField 2 = .ok (.invokevirtual 43, 3) := by decide +kernel
theorem dX2_hasField_5 : decode cX2_hasField 5 = .ok (.ifCond .eq 21, 3) := by decide +kernel
theorem dX2_hasField_8 : decode cX2_hasField 8 = .ok (.iload_n 2, 1) := by decide +kernel
theorem dX2_hasField_9 : decode cX2_hasField 9 = .ok (.ifCond .lt 17, 3) := by decide +kernel
theorem dX2_hasField_12 : decode cX2_hasField 12 = .ok (.iload_n 2, 1) := by decide +kernel
theorem dX2_hasField_13 : decode cX2_hasField 13 = .ok (.aload_n 0, 1) := by decide +kernel
theorem dX2_hasField_14 : decode cX2_hasField 14 = .ok (.getfield 18, 3) := by decide +kernel
theorem dX2_hasField_17 : decode cX2_hasField 17 = .ok (.iload_n 1, 1) := by decide +kernel
theorem dX2_hasField_18 : decode cX2_hasField 18 = .ok (.iaload, 1) := by decide +kernel
theorem dX2_hasField_19 : decode cX2_hasField 19 = .ok (.if_icmp .ge 7, 3) := by decide +kernel
theorem dX2_hasField_22 : decode cX2_hasField 22 = .ok (.iconst 1, 1) := by decide +kernel
theorem dX2_hasField_23 : decode cX2_hasField 23 = .ok (.goto 4, 3) := by decide +kernel
theorem dX2_hasField_26 : decode cX2_hasField 26 = .ok (.iconst 0, 1) := by decide +kernel
theorem dX2_hasField_27 : decode cX2_hasField 27 = .ok (.ireturn, 1) := by decide +kernel
theorem dX2_freeNumber_0 : decode cX2_freeNumber 0 = .ok (.iconst 0, 1) := by decide +kernel
theorem dX2_freeNumber_1 : decode cX2_freeNumber 1 = .ok (.istore_n 1, 1) := by decide +kernel
theorem dX2_freeNumber_2 : decode cX2_freeNumber 2 = .ok (.iload_n 1, 1) := by decide +kernel
theorem dX2_freeNumber_3 : decode cX2_freeNumber 3 = .ok (.bipush 24, 2) := by decide +kernel
theorem dX2_freeNumber_5 : decode cX2_freeNumber 5 = .ok (.if_icmp .ge 30, 3) := by decide +kernel
theorem dX2_freeNumber_8 : decode cX2_freeNumber 8 = .ok (.aload_n 0, 1) := by decide +kernel
theorem dX2_freeNumber_9 : decode cX2_freeNumber 9 = .ok (.getfield 47, 3) := by decide +kernel
theorem dX2_freeNumber_12 : decode cX2_freeNumber 12 = .ok (.bipush 24, 2) := by decide +kernel
theorem dX2_freeNumber_14 : decode cX2_freeNumber 14 = .ok (.if_icmp .ge 21, 3) := by decide +kernel
theorem dX2_freeNumber_17 : decode cX2_freeNumber 17 = .ok (.aload_n 0, 1) := by decide +kernel
theorem dX2_freeNumber_18 : decode cX2_freeNumber 18 = .ok (.getfield 18, 3) := by decide +kernel
theorem dX2_freeNumber_21 : decode cX2_freeNumber 21 = .ok (.iload_n 1, 1) := by decide +kernel
theorem dX2_freeNumber_22 : decode cX2_freeNumber 22 = .ok (.iaload, 1) := by decide +kernel
theorem dX2_freeNumber_23 : decode cX2_freeNumber 23 = .ok (.iconst (-1), 1) := by decide +kernel
theorem dX2_freeNumber_24 : decode cX2_freeNumber 24 = .ok (.if_icmp .ne 5, 3) := by decide +kernel
theorem dX2_freeNumber_27 : decode cX2_freeNumber 27 = .ok (.iload_n 1, 1) := by decide +kernel
theorem dX2_freeNumber_28 : decode cX2_freeNumber 28 = .ok (.ireturn, 1) := by decide +kernel
theorem dX2_freeNumber_29 : decode cX2_freeNumber 29 = .ok (.iinc 1 1, 3) := by decide +kernel
theorem dX2_freeNumber_32 : decode cX2_freeNumber 32 = .ok (.goto (-30), 3) := by decide +kernel
theorem dX2_freeNumber_35 : decode cX2_freeNumber 35 = .ok (.iconst (-1), 1) := by decide +kernel
theorem dX2_freeNumber_36 : decode cX2_freeNumber 36 = .ok (.ireturn, 1) := by decide +kernel
theorem dX2_hasRoom_0 : decode cX2_hasRoom 0 = .ok (.aload_n 0, 1) := by decide +kernel
theorem dX2_hasRoom_1 : decode cX2_hasRoom 1 = .ok (.getfield 50, 3) := by decide +kernel
theorem dX2_hasRoom_4 : decode cX2_hasRoom 4 = .ok (.iload_n 1, 1) := by decide +kernel
theorem dX2_hasRoom_5 : decode cX2_hasRoom 5 = .ok (.iadd, 1) := by decide +kernel
theorem dX2_hasRoom_6 : decode cX2_hasRoom 6 = .ok (.iconst 1, 1) := by decide +kernel
theorem dX2_hasRoom_7 : decode cX2_hasRoom 7 = .ok (.iadd, 1) := by decide +kernel
theorem dX2_hasRoom_8 : decode cX2_hasRoom 8 = .ok (.sipush 160, 3) := by decide +kernel
theorem dX2_hasRoom_11 : decode cX2_hasRoom 11 = .ok (.if_icmp .gt 7, 3) := by decide +kernel
theorem dX2_hasRoom_14 : decode cX2_hasRoom 14 = .ok (.iconst 1, 1) := by decide +kernel
theorem dX2_hasRoom_15 : decode cX2_hasRoom 15 = .ok (.goto 4, 3) := by decide +kernel
theorem dX2_hasRoom_18 : decode cX2_hasRoom 18 = .ok (.iconst 0, 1) := by decide +kernel
theorem dX2_hasRoom_19 : decode cX2_hasRoom 19 = .ok (.ireturn, 1) := by decide +kernel
theorem dX2_lay_0 : decode cX2_lay 0 = .ok (.aload_n 0, 1) := by decide +kernel
theorem dX2_lay_1 : decode cX2_lay 1 = .ok (.getfield 18, 3) := by decide +kernel
theorem dX2_lay_4 : decode cX2_lay 4 = .ok (.iload_n 1, 1) := by decide +kernel
theorem dX2_lay_5 : decode cX2_lay 5 = .ok (.iload_n 2, 1) := by decide +kernel
theorem dX2_lay_6 : decode cX2_lay 6 = .ok (.iastore, 1) := by decide +kernel
theorem dX2_lay_7 : decode cX2_lay 7 = .ok (.aload_n 0, 1) := by decide +kernel
theorem dX2_lay_8 : decode cX2_lay 8 = .ok (.getfield 21, 3) := by decide +kernel
theorem dX2_lay_11 : decode cX2_lay 11 = .ok (.iload_n 1, 1) := by decide +kernel
theorem dX2_lay_12 : decode cX2_lay 12 = .ok (.aload_n 0, 1) := by decide +kernel
theorem dX2_lay_13 : decode cX2_lay 13 = .ok (.getfield 50, 3) := by decide +kernel
theorem dX2_lay_16 : decode cX2_lay 16 = .ok (.iastore, 1) := by decide +kernel
theorem dX2_lay_17 : decode cX2_lay 17 = .ok (.aload_n 0, 1) := by decide +kernel
theorem dX2_lay_18 : decode cX2_lay 18 = .ok (.getfield 30, 3) := by decide +kernel
theorem dX2_lay_21 : decode cX2_lay 21 = .ok (.aload_n 0, 1) := by decide +kernel
theorem dX2_lay_22 : decode cX2_lay 22 = .ok (.getfield 47, 3) := by decide +kernel
theorem dX2_lay_25 : decode cX2_lay 25 = .ok (.iload_n 1, 1) := by decide +kernel
theorem dX2_lay_26 : decode cX2_lay 26 = .ok (.iastore, 1) := by decide +kernel
theorem dX2_lay_27 : decode cX2_lay 27 = .ok (.aload_n 0, 1) := by decide +kernel
theorem dX2_lay_28 : decode cX2_lay 28 = .ok (.dup, 1) := by decide +kernel
theorem dX2_lay_29 : decode cX2_lay 29 = .ok (.getfield 47, 3) := by decide +kernel
theorem dX2_lay_32 : decode cX2_lay 32 = .ok (.iconst 1, 1) := by decide +kernel
theorem dX2_lay_33 : decode cX2_lay 33 = .ok (.iadd, 1) := by decide +kernel
theorem dX2_lay_34 : decode cX2_lay 34 = .ok (.putfield 47, 3) := by decide +kernel
theorem dX2_lay_37 : decode cX2_lay 37 = .ok (.aload_n 0, 1) := by decide +kernel
theorem dX2_lay_38 : decode cX2_lay 38 = .ok (.dup, 1) := by decide +kernel
theorem dX2_lay_39 : decode cX2_lay 39 = .ok (.getfield 50, 3) := by decide +kernel
theorem dX2_lay_42 : decode cX2_lay 42 = .ok (.iload_n 2, 1) := by decide +kernel
theorem dX2_lay_43 : decode cX2_lay 43 = .ok (.iconst 1, 1) := by decide +kernel
theorem dX2_lay_44 : decode cX2_lay 44 = .ok (.iadd, 1) := by decide +kernel
theorem dX2_lay_45 : decode cX2_lay 45 = .ok (.iadd, 1) := by decide +kernel
theorem dX2_lay_46 : decode cX2_lay 46 = .ok (.putfield 50, 3) := by decide +kernel
theorem dX2_lay_49 : decode cX2_lay 49 = .ok (.return_, 1) := by decide +kernel
theorem dX2_objectAt_0 : decode cX2_objectAt 0 = .ok (.iconst 0, 1) := by decide +kernel
theorem dX2_objectAt_1 : decode cX2_objectAt 1 = .ok (.istore_n 2, 1) := by decide +kernel
theorem dX2_objectAt_2 : decode cX2_objectAt 2 = .ok (.iload_n 2, 1) := by decide +kernel
theorem dX2_objectAt_3 : decode cX2_objectAt 3 = .ok (.bipush 24, 2) := by decide +kernel
theorem dX2_objectAt_5 : decode cX2_objectAt 5 = .ok (.if_icmp .ge 46, 3) := by decide +kernel
theorem dX2_objectAt_8 : decode cX2_objectAt 8 = .ok (.aload_n 0, 1) := by decide +kernel
theorem dX2_objectAt_9 : decode cX2_objectAt 9 = .ok (.iload_n 2, 1) := by decide +kernel
theorem dX2_objectAt_10 : decode cX2_objectAt 10 = .ok (.invokevirtual 43, 3) := by decide +kernel
theorem dX2_objectAt_13 : decode cX2_objectAt 13 = .ok (.ifCond .eq 32, 3) := by decide +kernel
theorem dX2_objectAt_16 : decode cX2_objectAt 16 = .ok (.iload_n 1, 1) := by decide +kernel
theorem dX2_objectAt_17 : decode cX2_objectAt 17 = .ok (.aload_n 0, 1) := by decide +kernel
theorem dX2_objectAt_18 : decode cX2_objectAt 18 = .ok (.getfield 21, 3) := by decide +kernel
theorem dX2_objectAt_21 : decode cX2_objectAt 21 = .ok (.iload_n 2, 1) := by decide +kernel
theorem dX2_objectAt_22 : decode cX2_objectAt 22 = .ok (.iaload, 1) := by decide +kernel
theorem dX2_objectAt_23 : decode cX2_objectAt 23 = .ok (.if_icmp .lt 22, 3) := by decide +kernel
theorem dX2_objectAt_26 : decode cX2_objectAt 26 = .ok (.iload_n 1, 1) := by decide +kernel
theorem dX2_objectAt_27 : decode cX2_objectAt 27 = .ok (.aload_n 0, 1) := by decide +kernel
theorem dX2_objectAt_28 : decode cX2_objectAt 28 = .ok (.getfield 21, 3) := by decide +kernel
theorem dX2_objectAt_31 : decode cX2_objectAt 31 = .ok (.iload_n 2, 1) := by decide +kernel
theorem dX2_objectAt_32 : decode cX2_objectAt 32 = .ok (.iaload, 1) := by decide +kernel
theorem dX2_objectAt_33 : decode cX2_objectAt 33 = .ok (.aload_n 0, 1) := by decide +kernel
theorem dX2_objectAt_34 : decode cX2_objectAt 34 = .ok (.getfield 18, 3) := by decide +kernel
theorem dX2_objectAt_37 : decode cX2_objectAt 37 = .ok (.iload_n 2, 1) := by decide +kernel
theorem dX2_objectAt_38 : decode cX2_objectAt 38 = .ok (.iaload, 1) := by decide +kernel
theorem dX2_objectAt_39 : decode cX2_objectAt 39 = .ok (.iadd, 1) := by decide +kernel
theorem dX2_objectAt_40 : decode cX2_objectAt 40 = .ok (.if_icmp .gt 5, 3) := by decide +kernel
theorem dX2_objectAt_43 : decode cX2_objectAt 43 = .ok (.iload_n 2, 1) := by decide +kernel
theorem dX2_objectAt_44 : decode cX2_objectAt 44 = .ok (.ireturn, 1) := by decide +kernel
theorem dX2_objectAt_45 : decode cX2_objectAt 45 = .ok (.iinc 2 1, 3) := by decide +kernel
theorem dX2_objectAt_48 : decode cX2_objectAt 48 = .ok (.goto (-46), 3) := by decide +kernel
theorem dX2_objectAt_51 : decode cX2_objectAt 51 = .ok (.iconst (-1), 1) := by decide +kernel
theorem dX2_objectAt_52 : decode cX2_objectAt 52 = .ok (.ireturn, 1) := by decide +kernel
theorem dX2_fill_0 : decode cX2_fill 0 = .ok (.iload_n 1, 1) := by decide +kernel
theorem dX2_fill_1 : decode cX2_fill 1 = .ok (.ifCond .lt 24, 3) := by decide +kernel
theorem dX2_fill_4 : decode cX2_fill 4 = .ok (.iload_n 1, 1) := by decide +kernel
theorem dX2_fill_5 : decode cX2_fill 5 = .ok (.sipush 294, 3) := by decide +kernel
theorem dX2_fill_8 : decode cX2_fill 8 = .ok (.if_icmp .ge 17, 3) := by decide +kernel
theorem dX2_fill_11 : decode cX2_fill 11 = .ok (.aload_n 0, 1) := by decide +kernel
theorem dX2_fill_12 : decode cX2_fill 12 = .ok (.getfield 9, 3) := by decide +kernel
theorem dX2_fill_15 : decode cX2_fill 15 = .ok (.iload_n 1, 1) := by decide +kernel
theorem dX2_fill_16 : decode cX2_fill 16 = .ok (.iload_n 2, 1) := by decide +kernel
theorem dX2_fill_17 : decode cX2_fill 17 = .ok (.iastore, 1) := by decide +kernel
theorem dX2_fill_18 : decode cX2_fill 18 = .ok (.aload_n 0, 1) := by decide +kernel
theorem dX2_fill_19 : decode cX2_fill 19 = .ok (.getfield 15, 3) := by decide +kernel
theorem dX2_fill_22 : decode cX2_fill 22 = .ok (.iload_n 1, 1) := by decide +kernel
theorem dX2_fill_23 : decode cX2_fill 23 = .ok (.iload_n 3, 1) := by decide +kernel
theorem dX2_fill_24 : decode cX2_fill 24 = .ok (.iastore, 1) := by decide +kernel
theorem dX2_fill_25 : decode cX2_fill 25 = .ok (.return_, 1) := by decide +kernel
theorem dX2_empty_0 : decode cX2_empty 0 = .ok (.aload_n 0, 1) := by decide +kernel
theorem dX2_empty_1 : decode cX2_empty 1 = .ok (.iload_n 1, 1) := by decide +kernel
theorem dX2_empty_2 : decode cX2_empty 2 = .ok (.iconst 0, 1) := by decide +kernel
theorem dX2_empty_3 : decode cX2_empty 3 = .ok (.iconst 0, 1) := by decide +kernel
theorem dX2_empty_4 : decode cX2_empty 4 = .ok (.invokevirtual 53, 3) := by decide +kernel
theorem dX2_empty_7 : decode cX2_empty 7 = .ok (.return_, 1) := by decide +kernel
theorem dX2_copy_0 : decode cX2_copy 0 = .ok (.aload_n 0, 1) := by decide +kernel
theorem dX2_copy_1 : decode cX2_copy 1 = .ok (.iload_n 2, 1) := by decide +kernel
theorem dX2_copy_2 : decode cX2_copy 2 = .ok (.aload_n 0, 1) := by decide +kernel
theorem dX2_copy_3 : decode cX2_copy 3 = .ok (.getfield 9, 3) := by decide +kernel
theorem dX2_copy_6 : decode cX2_copy 6 = .ok (.iload_n 1, 1) := by decide +kernel
theorem dX2_copy_7 : decode cX2_copy 7 = .ok (.iaload, 1) := by decide +kernel
theorem dX2_copy_8 : decode cX2_copy 8 = .ok (.aload_n 0, 1) := by decide +kernel
theorem dX2_copy_9 : decode cX2_copy 9 = .ok (.getfield 15, 3) := by decide +kernel
theorem dX2_copy_12 : decode cX2_copy 12 = .ok (.iload_n 1, 1) := by decide +kernel
theorem dX2_copy_13 : decode cX2_copy 13 = .ok (.iaload, 1) := by decide +kernel
theorem dX2_copy_14 : decode cX2_copy 14 = .ok (.invokevirtual 53, 3) := by decide +kernel
theorem dX2_copy_17 : decode cX2_copy 17 = .ok (.return_, 1) := by decide +kernel
theorem dX2_holdsObject_0 : decode cX2_holdsObject 0 = .ok (.aload_n 0, 1) := by decide +kernel
theorem dX2_holdsObject_1 : decode cX2_holdsObject 1 = .ok (.getfield 9, 3) := by decide +kernel
theorem dX2_holdsObject_4 : decode cX2_holdsObject 4 = .ok (.iload_n 1, 1) := by decide +kernel
theorem dX2_holdsObject_5 : decode cX2_holdsObject 5 = .ok (.iaload, 1) := by decide +kernel
theorem dX2_holdsObject_6 : decode cX2_holdsObject 6 = .ok (.iconst 2, 1) := by decide +kernel
theorem dX2_holdsObject_7 : decode cX2_holdsObject 7 = .ok (.if_icmp .eq 13, 3) := by decide +kernel
theorem dX2_holdsObject_10 : decode cX2_holdsObject 10 = .ok (.aload_n 0, 1) := by decide +kernel
theorem dX2_holdsObject_11 : decode cX2_holdsObject 11 = .ok (.getfield 9, 3) := by decide +kernel
theorem dX2_holdsObject_14 : decode cX2_holdsObject 14 = .ok (.iload_n 1, 1) := by decide +kernel
theorem dX2_holdsObject_15 : decode cX2_holdsObject 15 = .ok (.iaload, 1) := by decide +kernel
theorem dX2_holdsObject_16 : decode cX2_holdsObject 16 = .ok (.iconst 3, 1) := by decide +kernel
theorem dX2_holdsObject_17 : decode cX2_holdsObject 17 = .ok (.if_icmp .ne 7, 3) := by decide +kernel
theorem dX2_holdsObject_20 : decode cX2_holdsObject 20 = .ok (.iconst 1, 1) := by decide +kernel
theorem dX2_holdsObject_21 : decode cX2_holdsObject 21 = .ok (.goto 4, 3) := by decide +kernel
theorem dX2_holdsObject_24 : decode cX2_holdsObject 24 = .ok (.iconst 0, 1) := by decide +kernel
theorem dX2_holdsObject_25 : decode cX2_holdsObject 25 = .ok (.ireturn, 1) := by decide +kernel
theorem dX2_tell_0 : decode cX2_tell 0 = .ok (.iload_n 2, 1) := by decide +kernel
theorem dX2_tell_1 : decode cX2_tell 1 = .ok (.ifCond .ne 10, 3) := by decide +kernel
theorem dX2_tell_4 : decode cX2_tell 4 = .ok (.aload_n 0, 1) := by decide +kernel
theorem dX2_tell_5 : decode cX2_tell 5 = .ok (.getfield 9, 3) := by decide +kernel
theorem dX2_tell_8 : decode cX2_tell 8 = .ok (.iload_n 1, 1) := by decide +kernel
theorem dX2_tell_9 : decode cX2_tell 9 = .ok (.iaload, 1) := by decide +kernel
theorem dX2_tell_10 : decode cX2_tell 10 = .ok (.ireturn, 1) := by decide +kernel
theorem dX2_tell_11 : decode cX2_tell 11 = .ok (.iload_n 2, 1) := by decide +kernel
theorem dX2_tell_12 : decode cX2_tell 12 = .ok (.iconst 1, 1) := by decide +kernel
theorem dX2_tell_13 : decode cX2_tell 13 = .ok (.if_icmp .ne 30, 3) := by decide +kernel
theorem dX2_tell_16 : decode cX2_tell 16 = .ok (.aload_n 0, 1) := by decide +kernel
theorem dX2_tell_17 : decode cX2_tell 17 = .ok (.iload_n 1, 1) := by decide +kernel
theorem dX2_tell_18 : decode cX2_tell 18 = .ok (.invokevirtual 56, 3) := by decide +kernel
theorem dX2_tell_21 : decode cX2_tell 21 = .ok (.ifCond .eq 15, 3) := by decide +kernel
theorem dX2_tell_24 : decode cX2_tell 24 = .ok (.aload_n 0, 1) := by decide +kernel
theorem dX2_tell_25 : decode cX2_tell 25 = .ok (.getfield 15, 3) := by decide +kernel
theorem dX2_tell_28 : decode cX2_tell 28 = .ok (.iload_n 1, 1) := by decide +kernel
theorem dX2_tell_29 : decode cX2_tell 29 = .ok (.iaload, 1) := by decide +kernel
theorem dX2_tell_30 : decode cX2_tell 30 = .ok (.invokestatic 59, 3) := by decide +kernel
theorem dX2_tell_33 : decode cX2_tell 33 = .ok (.goto 9, 3) := by decide +kernel
theorem dX2_tell_36 : decode cX2_tell 36 = .ok (.aload_n 0, 1) := by decide +kernel
theorem dX2_tell_37 : decode cX2_tell 37 = .ok (.getfield 15, 3) := by decide +kernel
theorem dX2_tell_40 : decode cX2_tell 40 = .ok (.iload_n 1, 1) := by decide +kernel
theorem dX2_tell_41 : decode cX2_tell 41 = .ok (.iaload, 1) := by decide +kernel
theorem dX2_tell_42 : decode cX2_tell 42 = .ok (.ireturn, 1) := by decide +kernel
theorem dX2_tell_43 : decode cX2_tell 43 = .ok (.iconst (-1), 1) := by decide +kernel
theorem dX2_tell_44 : decode cX2_tell 44 = .ok (.ireturn, 1) := by decide +kernel
theorem dX2_emptyFields_0 : decode cX2_emptyFields 0 = .ok (.iconst 0, 1) := by decide +kernel
theorem dX2_emptyFields_1 : decode cX2_emptyFields 1 = .ok (.istore_n 2, 1) := by decide +kernel
theorem dX2_emptyFields_2 : decode cX2_emptyFields 2 = .ok (.iload_n 2, 1) := by decide +kernel
theorem dX2_emptyFields_3 : decode cX2_emptyFields 3 = .ok (.aload_n 0, 1) := by decide +kernel
theorem dX2_emptyFields_4 : decode cX2_emptyFields 4 = .ok (.getfield 18, 3) := by decide +kernel
theorem dX2_emptyFields_7 : decode cX2_emptyFields 7 = .ok (.iload_n 1, 1) := by decide +kernel
theorem dX2_emptyFields_8 : decode cX2_emptyFields 8 = .ok (.iaload, 1) := by decide +kernel
theorem dX2_emptyFields_9 : decode cX2_emptyFields 9 = .ok (.if_icmp .ge 18, 3) := by decide +kernel
theorem dX2_emptyFields_12 : decode cX2_emptyFields 12 = .ok (.aload_n 0, 1) := by decide +kernel
theorem dX2_emptyFields_13 : decode cX2_emptyFields 13 = .ok (.iload_n 1, 1) := by decide +kernel
theorem dX2_emptyFields_14 : decode cX2_emptyFields 14 = .ok (.iload_n 2, 1) := by decide +kernel
theorem dX2_emptyFields_15 : decode cX2_emptyFields 15 = .ok (.invokestatic 63, 3) := by decide +kernel
theorem dX2_emptyFields_18 : decode cX2_emptyFields 18 = .ok (.invokevirtual 67, 3) := by decide +kernel
theorem dX2_emptyFields_21 : decode cX2_emptyFields 21 = .ok (.iinc 2 1, 3) := by decide +kernel
theorem dX2_emptyFields_24 : decode cX2_emptyFields 24 = .ok (.goto (-22), 3) := by decide +kernel
theorem dX2_emptyFields_27 : decode cX2_emptyFields 27 = .ok (.return_, 1) := by decide +kernel
theorem dX2_changeTotal_0 : decode cX2_changeTotal 0 = .ok (.iload_n 1, 1) := by decide +kernel
theorem dX2_changeTotal_1 : decode cX2_changeTotal 1 = .ok (.invokestatic 71, 3) := by decide +kernel
theorem dX2_changeTotal_4 : decode cX2_changeTotal 4 = .ok (.ifCond .eq 16, 3) := by decide +kernel
theorem dX2_changeTotal_7 : decode cX2_changeTotal 7 = .ok (.aload_n 0, 1) := by decide +kernel
theorem dX2_changeTotal_8 : decode cX2_changeTotal 8 = .ok (.getfield 24, 3) := by decide +kernel
theorem dX2_changeTotal_11 : decode cX2_changeTotal 11 = .ok (.iload_n 1, 1) := by decide +kernel
theorem dX2_changeTotal_12 : decode cX2_changeTotal 12 = .ok (.invokestatic 74, 3) := by decide +kernel
theorem dX2_changeTotal_15 : decode cX2_changeTotal 15 = .ok (.dup2, 1) := by decide +kernel
theorem dX2_changeTotal_16 : decode cX2_changeTotal 16 = .ok (.iaload, 1) := by decide +kernel
theorem dX2_changeTotal_17 : decode cX2_changeTotal 17 = .ok (.iload_n 2, 1) := by decide +kernel
theorem dX2_changeTotal_18 : decode cX2_changeTotal 18 = .ok (.iadd, 1) := by decide +kernel
theorem dX2_changeTotal_19 : decode cX2_changeTotal 19 = .ok (.iastore, 1) := by decide +kernel
theorem dX2_changeTotal_20 : decode cX2_changeTotal 20 = .ok (.return_, 1) := by decide +kernel
theorem dX2_weightOfImport_0 : decode cX2_weightOfImport 0 = .ok (.iload_n 1, 1) := by decide +kernel
theorem dX2_weightOfImport_1 : decode cX2_weightOfImport 1 = .ok (.invokestatic 71, 3) := by decide +kernel
theorem dX2_weightOfImport_4 : decode cX2_weightOfImport 4 = .ok (.ifCond .eq 12, 3) := by decide +kernel
theorem dX2_weightOfImport_7 : decode cX2_weightOfImport 7 = .ok (.aload_n 0, 1) := by decide +kernel
theorem dX2_weightOfImport_8 : decode cX2_weightOfImport 8 = .ok (.getfield 27, 3) := by decide +kernel
theorem dX2_weightOfImport_11 : decode cX2_weightOfImport 11 = .ok (.iload_n 1, 1) := by decide +kernel
theorem dX2_weightOfImport_12 : decode cX2_weightOfImport 12 = .ok (.iaload, 1) := by decide +kernel
theorem dX2_weightOfImport_13 : decode cX2_weightOfImport 13 = .ok (.goto 4, 3) := by decide +kernel
theorem dX2_weightOfImport_16 : decode cX2_weightOfImport 16 = .ok (.iconst 0, 1) := by decide +kernel
theorem dX2_weightOfImport_17 : decode cX2_weightOfImport 17 = .ok (.ireturn, 1) := by decide +kernel
theorem dX2_changeWeight_0 : decode cX2_changeWeight 0 = .ok (.iload_n 1, 1) := by decide +kernel
theorem dX2_changeWeight_1 : decode cX2_changeWeight 1 = .ok (.invokestatic 71, 3) := by decide +kernel
theorem dX2_changeWeight_4 : decode cX2_changeWeight 4 = .ok (.ifCond .ne 4, 3) := by decide +kernel
theorem dX2_changeWeight_7 : decode cX2_changeWeight 7 = .ok (.return_, 1) := by decide +kernel
theorem dX2_changeWeight_8 : decode cX2_changeWeight 8 = .ok (.aload_n 0, 1) := by decide +kernel
theorem dX2_changeWeight_9 : decode cX2_changeWeight 9 = .ok (.getfield 27, 3) := by decide +kernel
theorem dX2_changeWeight_12 : decode cX2_changeWeight 12 = .ok (.iload_n 1, 1) := by decide +kernel
theorem dX2_changeWeight_13 : decode cX2_changeWeight 13 = .ok (.iaload, 1) := by decide +kernel
theorem dX2_changeWeight_14 : decode cX2_changeWeight 14 = .ok (.istore_n 3, 1) := by decide +kernel
theorem dX2_changeWeight_15 : decode cX2_changeWeight 15 = .ok (.aload_n 0, 1) := by decide +kernel
theorem dX2_changeWeight_16 : decode cX2_changeWeight 16 = .ok (.getfield 27, 3) := by decide +kernel
theorem dX2_changeWeight_19 : decode cX2_changeWeight 19 = .ok (.iload_n 1, 1) := by decide +kernel
theorem dX2_changeWeight_20 : decode cX2_changeWeight 20 = .ok (.iload_n 3, 1) := by decide +kernel
theorem dX2_changeWeight_21 : decode cX2_changeWeight 21 = .ok (.iload_n 2, 1) := by decide +kernel
theorem dX2_changeWeight_22 : decode cX2_changeWeight 22 = .ok (.iadd, 1) := by decide +kernel
theorem dX2_changeWeight_23 : decode cX2_changeWeight 23 = .ok (.iastore, 1) := by decide +kernel
theorem dX2_changeWeight_24 : decode cX2_changeWeight 24 = .ok (.iload_n 3, 1) := by decide +kernel
theorem dX2_changeWeight_25 : decode cX2_changeWeight 25 = .ok (.ifCond .ne 20, 3) := by decide +kernel
theorem dX2_changeWeight_28 : decode cX2_changeWeight 28 = .ok (.iload_n 2, 1) := by decide +kernel
theorem dX2_changeWeight_29 : decode cX2_changeWeight 29 = .ok (.ifCond .eq 16, 3) := by decide +kernel
theorem dX2_changeWeight_32 : decode cX2_changeWeight 32 = .ok (.aload_n 0, 1) := by decide +kernel
theorem dX2_changeWeight_33 : decode cX2_changeWeight 33 = .ok (.dup, 1) := by decide +kernel
theorem dX2_changeWeight_34 : decode cX2_changeWeight 34 = .ok (.getfield 77, 3) := by decide +kernel
theorem dX2_changeWeight_37 : decode cX2_changeWeight 37 = .ok (.iconst 1, 1) := by decide +kernel
theorem dX2_changeWeight_38 : decode cX2_changeWeight 38 = .ok (.iadd, 1) := by decide +kernel
theorem dX2_changeWeight_39 : decode cX2_changeWeight 39 = .ok (.putfield 77, 3) := by decide +kernel
theorem dX2_changeWeight_42 : decode cX2_changeWeight 42 = .ok (.goto 23, 3) := by decide +kernel
theorem dX2_changeWeight_45 : decode cX2_changeWeight 45 = .ok (.iload_n 3, 1) := by decide +kernel
theorem dX2_changeWeight_46 : decode cX2_changeWeight 46 = .ok (.ifCond .eq 19, 3) := by decide +kernel
theorem dX2_changeWeight_49 : decode cX2_changeWeight 49 = .ok (.iload_n 3, 1) := by decide +kernel
theorem dX2_changeWeight_50 : decode cX2_changeWeight 50 = .ok (.iload_n 2, 1) := by decide +kernel
theorem dX2_changeWeight_51 : decode cX2_changeWeight 51 = .ok (.iadd, 1) := by decide +kernel
theorem dX2_changeWeight_52 : decode cX2_changeWeight 52 = .ok (.ifCond .ne 13, 3) := by decide +kernel
theorem dX2_changeWeight_55 : decode cX2_changeWeight 55 = .ok (.aload_n 0, 1) := by decide +kernel
theorem dX2_changeWeight_56 : decode cX2_changeWeight 56 = .ok (.dup, 1) := by decide +kernel
theorem dX2_changeWeight_57 : decode cX2_changeWeight 57 = .ok (.getfield 77, 3) := by decide +kernel
theorem dX2_changeWeight_60 : decode cX2_changeWeight 60 = .ok (.iconst 1, 1) := by decide +kernel
theorem dX2_changeWeight_61 : decode cX2_changeWeight 61 = .ok (.isub, 1) := by decide +kernel
theorem dX2_changeWeight_62 : decode cX2_changeWeight 62 = .ok (.putfield 77, 3) := by decide +kernel
theorem dX2_changeWeight_65 : decode cX2_changeWeight 65 = .ok (.return_, 1) := by decide +kernel
theorem dX2_splitOff_0 : decode cX2_splitOff 0 = .ok (.iload_n 1, 1) := by decide +kernel
theorem dX2_splitOff_1 : decode cX2_splitOff 1 = .ok (.invokestatic 80, 3) := by decide +kernel
theorem dX2_splitOff_4 : decode cX2_splitOff 4 = .ok (.aload_n 0, 1) := by decide +kernel
theorem dX2_splitOff_5 : decode cX2_splitOff 5 = .ok (.getfield 33, 3) := by decide +kernel
theorem dX2_splitOff_8 : decode cX2_splitOff 8 = .ok (.if_icmp .ne 13, 3) := by decide +kernel
theorem dX2_splitOff_11 : decode cX2_splitOff 11 = .ok (.aload_n 0, 1) := by decide +kernel
theorem dX2_splitOff_12 : decode cX2_splitOff 12 = .ok (.iload_n 1, 1) := by decide +kernel
theorem dX2_splitOff_13 : decode cX2_splitOff 13 = .ok (.bipush 64, 2) := by decide +kernel
theorem dX2_splitOff_15 : decode cX2_splitOff 15 = .ok (.invokevirtual 83, 3) := by decide +kernel
theorem dX2_splitOff_18 : decode cX2_splitOff 18 = .ok (.bipush 64, 2) := by decide +kernel
theorem dX2_splitOff_20 : decode cX2_splitOff 20 = .ok (.ireturn, 1) := by decide +kernel
theorem dX2_splitOff_21 : decode cX2_splitOff 21 = .ok (.aload_n 0, 1) := by decide +kernel
theorem dX2_splitOff_22 : decode cX2_splitOff 22 = .ok (.iload_n 1, 1) := by decide +kernel
theorem dX2_splitOff_23 : decode cX2_splitOff 23 = .ok (.invokevirtual 87, 3) := by decide +kernel
theorem dX2_splitOff_26 : decode cX2_splitOff 26 = .ok (.iconst 2, 1) := by decide +kernel
theorem dX2_splitOff_27 : decode cX2_splitOff 27 = .ok (.idiv, 1) := by decide +kernel
theorem dX2_splitOff_28 : decode cX2_splitOff 28 = .ok (.istore_n 2, 1) := by decide +kernel
theorem dX2_splitOff_29 : decode cX2_splitOff 29 = .ok (.iload_n 2, 1) := by decide +kernel
theorem dX2_splitOff_30 : decode cX2_splitOff 30 = .ok (.ifCond .le 10, 3) := by decide +kernel
theorem dX2_splitOff_33 : decode cX2_splitOff 33 = .ok (.aload_n 0, 1) := by decide +kernel
theorem dX2_splitOff_34 : decode cX2_splitOff 34 = .ok (.iload_n 1, 1) := by decide +kernel
theorem dX2_splitOff_35 : decode cX2_splitOff 35 = .ok (.iload_n 2, 1) := by decide +kernel
theorem dX2_splitOff_36 : decode cX2_splitOff 36 = .ok (.ineg, 1) := by decide +kernel
theorem dX2_splitOff_37 : decode cX2_splitOff 37 = .ok (.invokevirtual 90, 3) := by decide +kernel
theorem dX2_splitOff_40 : decode cX2_splitOff 40 = .ok (.iload_n 2, 1) := by decide +kernel
theorem dX2_splitOff_41 : decode cX2_splitOff 41 = .ok (.ireturn, 1) := by decide +kernel
theorem dX2_canTake_0 : decode cX2_canTake 0 = .ok (.iload_n 1, 1) := by decide +kernel
theorem dX2_canTake_1 : decode cX2_canTake 1 = .ok (.invokestatic 80, 3) := by decide +kernel
theorem dX2_canTake_4 : decode cX2_canTake 4 = .ok (.aload_n 0, 1) := by decide +kernel
theorem dX2_canTake_5 : decode cX2_canTake 5 = .ok (.getfield 33, 3) := by decide +kernel
theorem dX2_canTake_8 : decode cX2_canTake 8 = .ok (.if_icmp .eq 20, 3) := by decide +kernel
theorem dX2_canTake_11 : decode cX2_canTake 11 = .ok (.aload_n 0, 1) := by decide +kernel
theorem dX2_canTake_12 : decode cX2_canTake 12 = .ok (.iload_n 1, 1) := by decide +kernel
theorem dX2_canTake_13 : decode cX2_canTake 13 = .ok (.invokevirtual 87, 3) := by decide +kernel
theorem dX2_canTake_16 : decode cX2_canTake 16 = .ok (.ifCond .gt 12, 3) := by decide +kernel
theorem dX2_canTake_19 : decode cX2_canTake 19 = .ok (.aload_n 0, 1) := by decide +kernel
theorem dX2_canTake_20 : decode cX2_canTake 20 = .ok (.getfield 77, 3) := by decide +kernel
theorem dX2_canTake_23 : decode cX2_canTake 23 = .ok (.bipush 30, 2) := by decide +kernel
theorem dX2_canTake_25 : decode cX2_canTake 25 = .ok (.if_icmp .ge 7, 3) := by decide +kernel
theorem dX2_canTake_28 : decode cX2_canTake 28 = .ok (.iconst 1, 1) := by decide +kernel
theorem dX2_canTake_29 : decode cX2_canTake 29 = .ok (.goto 4, 3) := by decide +kernel
theorem dX2_canTake_32 : decode cX2_canTake 32 = .ok (.iconst 0, 1) := by decide +kernel
theorem dX2_canTake_33 : decode cX2_canTake 33 = .ok (.ireturn, 1) := by decide +kernel
theorem dX2_takeRef_0 : decode cX2_takeRef 0 = .ok (.iload_n 1, 1) := by decide +kernel
theorem dX2_takeRef_1 : decode cX2_takeRef 1 = .ok (.invokestatic 80, 3) := by decide +kernel
theorem dX2_takeRef_4 : decode cX2_takeRef 4 = .ok (.aload_n 0, 1) := by decide +kernel
theorem dX2_takeRef_5 : decode cX2_takeRef 5 = .ok (.getfield 33, 3) := by decide +kernel
theorem dX2_takeRef_8 : decode cX2_takeRef 8 = .ok (.if_icmp .ne 20, 3) := by decide +kernel
theorem dX2_takeRef_11 : decode cX2_takeRef 11 = .ok (.aload_n 0, 1) := by decide +kernel
theorem dX2_takeRef_12 : decode cX2_takeRef 12 = .ok (.iload_n 3, 1) := by decide +kernel
theorem dX2_takeRef_13 : decode cX2_takeRef 13 = .ok (.iconst 2, 1) := by decide +kernel
theorem dX2_takeRef_14 : decode cX2_takeRef 14 = .ok (.iload_n 1, 1) := by decide +kernel
theorem dX2_takeRef_15 : decode cX2_takeRef 15 = .ok (.invokevirtual 53, 3) := by decide +kernel
theorem dX2_takeRef_18 : decode cX2_takeRef 18 = .ok (.aload_n 0, 1) := by decide +kernel
theorem dX2_takeRef_19 : decode cX2_takeRef 19 = .ok (.iload_n 1, 1) := by decide +kernel
theorem dX2_takeRef_20 : decode cX2_takeRef 20 = .ok (.iload_n 2, 1) := by decide +kernel
theorem dX2_takeRef_21 : decode cX2_takeRef 21 = .ok (.ineg, 1) := by decide +kernel
theorem dX2_takeRef_22 : decode cX2_takeRef 22 = .ok (.invokevirtual 83, 3) := by decide +kernel
theorem dX2_takeRef_25 : decode cX2_takeRef 25 = .ok (.goto 16, 3) := by decide +kernel
theorem dX2_takeRef_28 : decode cX2_takeRef 28 = .ok (.aload_n 0, 1) := by decide +kernel
theorem dX2_takeRef_29 : decode cX2_takeRef 29 = .ok (.iload_n 3, 1) := by decide +kernel
theorem dX2_takeRef_30 : decode cX2_takeRef 30 = .ok (.iconst 3, 1) := by decide +kernel
theorem dX2_takeRef_31 : decode cX2_takeRef 31 = .ok (.iload_n 1, 1) := by decide +kernel
theorem dX2_takeRef_32 : decode cX2_takeRef 32 = .ok (.invokevirtual 53, 3) := by decide +kernel
theorem dX2_takeRef_35 : decode cX2_takeRef 35 = .ok (.aload_n 0, 1) := by decide +kernel
theorem dX2_takeRef_36 : decode cX2_takeRef 36 = .ok (.iload_n 1, 1) := by decide +kernel
theorem dX2_takeRef_37 : decode cX2_takeRef 37 = .ok (.iload_n 2, 1) := by decide +kernel
theorem dX2_takeRef_38 : decode cX2_takeRef 38 = .ok (.invokevirtual 90, 3) := by decide +kernel
theorem dX2_takeRef_41 : decode cX2_takeRef 41 = .ok (.return_, 1) := by decide +kernel
theorem dX2_giveBack_0 : decode cX2_giveBack 0 = .ok (.aload_n 0, 1) := by decide +kernel
theorem dX2_giveBack_1 : decode cX2_giveBack 1 = .ok (.iload_n 1, 1) := by decide +kernel
theorem dX2_giveBack_2 : decode cX2_giveBack 2 = .ok (.invokevirtual 87, 3) := by decide +kernel
theorem dX2_giveBack_5 : decode cX2_giveBack 5 = .ok (.istore_n 3, 1) := by decide +kernel
theorem dX2_giveBack_6 : decode cX2_giveBack 6 = .ok (.aload_n 2, 1) := by decide +kernel
theorem dX2_giveBack_7 : decode cX2_giveBack 7 = .ok (.iconst 2, 1) := by decide +kernel
theorem dX2_giveBack_8 : decode cX2_giveBack 8 = .ok (.aload_n 0, 1) := by decide +kernel
theorem dX2_giveBack_9 : decode cX2_giveBack 9 = .ok (.getfield 33, 3) := by decide +kernel
theorem dX2_giveBack_12 : decode cX2_giveBack 12 = .ok (.iload_n 1, 1) := by decide +kernel
theorem dX2_giveBack_13 : decode cX2_giveBack 13 = .ok (.invokestatic 80, 3) := by decide +kernel
theorem dX2_giveBack_16 : decode cX2_giveBack 16 = .ok (.iload_n 1, 1) := by decide +kernel
theorem dX2_giveBack_17 : decode cX2_giveBack 17 = .ok (.iload_n 3, 1) := by decide +kernel
theorem dX2_giveBack_18 : decode cX2_giveBack 18 = .ok (.iconst (-1), 1) := by decide +kernel
theorem dX2_giveBack_19 : decode cX2_giveBack 19 = .ok (.invokevirtual 93, 3) := by decide +kernel
theorem dX2_giveBack_22 : decode cX2_giveBack 22 = .ok (.aload_n 0, 1) := by decide +kernel
theorem dX2_giveBack_23 : decode cX2_giveBack 23 = .ok (.iload_n 1, 1) := by decide +kernel
theorem dX2_giveBack_24 : decode cX2_giveBack 24 = .ok (.iload_n 3, 1) := by decide +kernel
theorem dX2_giveBack_25 : decode cX2_giveBack 25 = .ok (.ineg, 1) := by decide +kernel
theorem dX2_giveBack_26 : decode cX2_giveBack 26 = .ok (.invokevirtual 90, 3) := by decide +kernel
theorem dX2_giveBack_29 : decode cX2_giveBack 29 = .ok (.return_, 1) := by decide +kernel
theorem dX2_markRegisters_0 : decode cX2_markRegisters 0 = .ok (.iconst 0, 1) := by decide +kernel
theorem dX2_markRegisters_1 : decode cX2_markRegisters 1 = .ok (.istore_n 2, 1) := by decide +kernel
theorem dX2_markRegisters_2 : decode cX2_markRegisters 2 = .ok (.iload_n 2, 1) := by decide +kernel
theorem dX2_markRegisters_3 : decode cX2_markRegisters 3 = .ok (.bipush 6, 2) := by decide +kernel
theorem dX2_markRegisters_5 : decode cX2_markRegisters 5 = .ok (.if_icmp .ge 27, 3) := by decide +kernel
theorem dX2_markRegisters_8 : decode cX2_markRegisters 8 = .ok (.aload_n 0, 1) := by decide +kernel
theorem dX2_markRegisters_9 : decode cX2_markRegisters 9 = .ok (.iload_n 2, 1) := by decide +kernel
theorem dX2_markRegisters_10 : decode cX2_markRegisters 10 = .ok (.invokevirtual 56, 3) := by decide +kernel
theorem dX2_markRegisters_13 : decode cX2_markRegisters 13 = .ok (.ifCond .eq 13, 3) := by decide +kernel
theorem dX2_markRegisters_16 : decode cX2_markRegisters 16 = .ok (.aload_n 1, 1) := by decide +kernel
theorem dX2_markRegisters_17 : decode cX2_markRegisters 17 = .ok (.aload_n 0, 1) := by decide +kernel
theorem dX2_markRegisters_18 : decode cX2_markRegisters 18 = .ok (.getfield 15, 3) := by decide +kernel
theorem dX2_markRegisters_21 : decode cX2_markRegisters 21 = .ok (.iload_n 2, 1) := by decide +kernel
theorem dX2_markRegisters_22 : decode cX2_markRegisters 22 = .ok (.iaload, 1) := by decide +kernel
theorem dX2_markRegisters_23 : decode cX2_markRegisters 23 = .ok (.invokevirtual 99, 3) := by decide +kernel
theorem dX2_markRegisters_26 : decode cX2_markRegisters 26 = .ok (.iinc 2 1, 3) := by decide +kernel
theorem dX2_markRegisters_29 : decode cX2_markRegisters 29 = .ok (.goto (-27), 3) := by decide +kernel
theorem dX2_markRegisters_32 : decode cX2_markRegisters 32 = .ok (.return_, 1) := by decide +kernel
theorem dX2_markFields_0 : decode cX2_markFields 0 = .ok (.iconst 0, 1) := by decide +kernel
theorem dX2_markFields_1 : decode cX2_markFields 1 = .ok (.istore_n 3, 1) := by decide +kernel
theorem dX2_markFields_2 : decode cX2_markFields 2 = .ok (.iload_n 3, 1) := by decide +kernel
theorem dX2_markFields_3 : decode cX2_markFields 3 = .ok (.aload_n 0, 1) := by decide +kernel
theorem dX2_markFields_4 : decode cX2_markFields 4 = .ok (.getfield 18, 3) := by decide +kernel
theorem dX2_markFields_7 : decode cX2_markFields 7 = .ok (.iload_n 1, 1) := by decide +kernel
theorem dX2_markFields_8 : decode cX2_markFields 8 = .ok (.iaload, 1) := by decide +kernel
theorem dX2_markFields_9 : decode cX2_markFields 9 = .ok (.if_icmp .ge 36, 3) := by decide +kernel
theorem dX2_markFields_12 : decode cX2_markFields 12 = .ok (.iload_n 1, 1) := by decide +kernel
theorem dX2_markFields_13 : decode cX2_markFields 13 = .ok (.iload_n 3, 1) := by decide +kernel
theorem dX2_markFields_14 : decode cX2_markFields 14 = .ok (.invokestatic 63, 3) := by decide +kernel
theorem dX2_markFields_17 : decode cX2_markFields 17 = .ok (.istore 4, 2) := by decide +kernel
theorem dX2_markFields_19 : decode cX2_markFields 19 = .ok (.aload_n 0, 1) := by decide +kernel
theorem dX2_markFields_20 : decode cX2_markFields 20 = .ok (.iload 4, 2) := by decide +kernel
theorem dX2_markFields_22 : decode cX2_markFields 22 = .ok (.invokevirtual 56, 3) := by decide +kernel
theorem dX2_markFields_25 : decode cX2_markFields 25 = .ok (.ifCond .eq 14, 3) := by decide +kernel
theorem dX2_markFields_28 : decode cX2_markFields 28 = .ok (.aload_n 2, 1) := by decide +kernel
theorem dX2_markFields_29 : decode cX2_markFields 29 = .ok (.aload_n 0, 1) := by decide +kernel
theorem dX2_markFields_30 : decode cX2_markFields 30 = .ok (.getfield 15, 3) := by decide +kernel
theorem dX2_markFields_33 : decode cX2_markFields 33 = .ok (.iload 4, 2) := by decide +kernel
theorem dX2_markFields_35 : decode cX2_markFields 35 = .ok (.iaload, 1) := by decide +kernel
theorem dX2_markFields_36 : decode cX2_markFields 36 = .ok (.invokevirtual 99, 3) := by decide +kernel
theorem dX2_markFields_39 : decode cX2_markFields 39 = .ok (.iinc 3 1, 3) := by decide +kernel
theorem dX2_markFields_42 : decode cX2_markFields 42 = .ok (.goto (-40), 3) := by decide +kernel
theorem dX2_markFields_45 : decode cX2_markFields 45 = .ok (.return_, 1) := by decide +kernel
theorem dX2_markLive_0 : decode cX2_markLive 0 = .ok (.aload_n 1, 1) := by decide +kernel
theorem dX2_markLive_1 : decode cX2_markLive 1 = .ok (.invokevirtual 104, 3) := by decide +kernel
theorem dX2_markLive_4 : decode cX2_markLive 4 = .ok (.aload_n 0, 1) := by decide +kernel
theorem dX2_markLive_5 : decode cX2_markLive 5 = .ok (.aload_n 1, 1) := by decide +kernel
theorem dX2_markLive_6 : decode cX2_markLive 6 = .ok (.invokevirtual 107, 3) := by decide +kernel
theorem dX2_markLive_9 : decode cX2_markLive 9 = .ok (.iconst 0, 1) := by decide +kernel
theorem dX2_markLive_10 : decode cX2_markLive 10 = .ok (.istore_n 2, 1) := by decide +kernel
theorem dX2_markLive_11 : decode cX2_markLive 11 = .ok (.iload_n 2, 1) := by decide +kernel
theorem dX2_markLive_12 : decode cX2_markLive 12 = .ok (.bipush 24, 2) := by decide +kernel
theorem dX2_markLive_14 : decode cX2_markLive 14 = .ok (.if_icmp .ge 30, 3) := by decide +kernel
theorem dX2_markLive_17 : decode cX2_markLive 17 = .ok (.aload_n 0, 1) := by decide +kernel
theorem dX2_markLive_18 : decode cX2_markLive 18 = .ok (.getfield 24, 3) := by decide +kernel
theorem dX2_markLive_21 : decode cX2_markLive 21 = .ok (.iload_n 2, 1) := by decide +kernel
theorem dX2_markLive_22 : decode cX2_markLive 22 = .ok (.iaload, 1) := by decide +kernel
theorem dX2_markLive_23 : decode cX2_markLive 23 = .ok (.ifCond .le 15, 3) := by decide +kernel
theorem dX2_markLive_26 : decode cX2_markLive 26 = .ok (.aload_n 1, 1) := by decide +kernel
theorem dX2_markLive_27 : decode cX2_markLive 27 = .ok (.aload_n 0, 1) := by decide +kernel
theorem dX2_markLive_28 : decode cX2_markLive 28 = .ok (.getfield 33, 3) := by decide +kernel
theorem dX2_markLive_31 : decode cX2_markLive 31 = .ok (.iload_n 2, 1) := by decide +kernel
theorem dX2_markLive_32 : decode cX2_markLive 32 = .ok (.invokestatic 111, 3) := by decide +kernel
theorem dX2_markLive_35 : decode cX2_markLive 35 = .ok (.invokevirtual 99, 3) := by decide +kernel
theorem dX2_markLive_38 : decode cX2_markLive 38 = .ok (.iinc 2 1, 3) := by decide +kernel
theorem dX2_markLive_41 : decode cX2_markLive 41 = .ok (.goto (-30), 3) := by decide +kernel
theorem dX2_markLive_44 : decode cX2_markLive 44 = .ok (.iconst 0, 1) := by decide +kernel
theorem dX2_markLive_45 : decode cX2_markLive 45 = .ok (.istore_n 2, 1) := by decide +kernel
theorem dX2_markLive_46 : decode cX2_markLive 46 = .ok (.iload_n 2, 1) := by decide +kernel
theorem dX2_markLive_47 : decode cX2_markLive 47 = .ok (.aload_n 1, 1) := by decide +kernel
theorem dX2_markLive_48 : decode cX2_markLive 48 = .ok (.getfield 114, 3) := by decide +kernel
theorem dX2_markLive_51 : decode cX2_markLive 51 = .ok (.if_icmp .ge 45, 3) := by decide +kernel
theorem dX2_markLive_54 : decode cX2_markLive 54 = .ok (.iload_n 2, 1) := by decide +kernel
theorem dX2_markLive_55 : decode cX2_markLive 55 = .ok (.bipush 120, 2) := by decide +kernel
theorem dX2_markLive_57 : decode cX2_markLive 57 = .ok (.if_icmp .ge 39, 3) := by decide +kernel
theorem dX2_markLive_60 : decode cX2_markLive 60 = .ok (.aload_n 1, 1) := by decide +kernel
theorem dX2_markLive_61 : decode cX2_markLive 61 = .ok (.getfield 117, 3) := by decide +kernel
theorem dX2_markLive_64 : decode cX2_markLive 64 = .ok (.iload_n 2, 1) := by decide +kernel
theorem dX2_markLive_65 : decode cX2_markLive 65 = .ok (.iaload, 1) := by decide +kernel
theorem dX2_markLive_66 : decode cX2_markLive 66 = .ok (.invokestatic 80, 3) := by decide +kernel
theorem dX2_markLive_69 : decode cX2_markLive 69 = .ok (.aload_n 0, 1) := by decide +kernel
theorem dX2_markLive_70 : decode cX2_markLive 70 = .ok (.getfield 33, 3) := by decide +kernel
theorem dX2_markLive_73 : decode cX2_markLive 73 = .ok (.if_icmp .ne 17, 3) := by decide +kernel
theorem dX2_markLive_76 : decode cX2_markLive 76 = .ok (.aload_n 0, 1) := by decide +kernel
theorem dX2_markLive_77 : decode cX2_markLive 77 = .ok (.aload_n 1, 1) := by decide +kernel
theorem dX2_markLive_78 : decode cX2_markLive 78 = .ok (.getfield 117, 3) := by decide +kernel
theorem dX2_markLive_81 : decode cX2_markLive 81 = .ok (.iload_n 2, 1) := by decide +kernel
theorem dX2_markLive_82 : decode cX2_markLive 82 = .ok (.iaload, 1) := by decide +kernel
theorem dX2_markLive_83 : decode cX2_markLive 83 = .ok (.invokestatic 74, 3) := by decide +kernel
theorem dX2_markLive_86 : decode cX2_markLive 86 = .ok (.aload_n 1, 1) := by decide +kernel
theorem dX2_markLive_87 : decode cX2_markLive 87 = .ok (.invokevirtual 120, 3) := by decide +kernel
theorem dX2_markLive_90 : decode cX2_markLive 90 = .ok (.iinc 2 1, 3) := by decide +kernel
theorem dX2_markLive_93 : decode cX2_markLive 93 = .ok (.goto (-47), 3) := by decide +kernel
theorem dX2_markLive_96 : decode cX2_markLive 96 = .ok (.return_, 1) := by decide +kernel
theorem dX2_countUnmarkedImports_0 : decode cX2_countUnmarkedImports 0 = .ok (.iconst 0, 1) := by decide +kernel
theorem dX2_countUnmarkedImports_1 : decode cX2_countUnmarkedImports 1 = .ok (.istore_n 2, 1) := by decide +kernel
theorem dX2_countUnmarkedImports_2 : decode cX2_countUnmarkedImports 2 = .ok (.iconst 0, 1) := by decide +kernel
theorem dX2_countUnmarkedImports_3 : decode cX2_countUnmarkedImports 3 = .ok (.istore_n 3, 1) := by decide +kernel
theorem dX2_countUnmarkedImports_4 : decode cX2_countUnmarkedImports 4 = .ok (.iload_n 3, 1) := by decide +kernel
theorem dX2_countUnmarkedImports_5 : decode cX2_countUnmarkedImports 5 = .ok (.bipush 120, 2) := by decide +kernel
theorem dX2_countUnmarkedImports_7 : decode cX2_countUnmarkedImports 7 = .ok (.if_icmp .ge 29, 3) := by decide +kernel
theorem dX2_countUnmarkedImports_10 : decode cX2_countUnmarkedImports 10 = .ok (.aload_n 0, 1) := by decide +kernel
theorem dX2_countUnmarkedImports_11 : decode cX2_countUnmarkedImports 11 = .ok (.getfield 27, 3) := by decide +kernel
theorem dX2_countUnmarkedImports_14 : decode cX2_countUnmarkedImports 14 = .ok (.iload_n 3, 1) := by decide +kernel
theorem dX2_countUnmarkedImports_15 : decode cX2_countUnmarkedImports 15 = .ok (.iaload, 1) := by decide +kernel
theorem dX2_countUnmarkedImports_16 : decode cX2_countUnmarkedImports 16 = .ok (.ifCond .le 14, 3) := by decide +kernel
theorem dX2_countUnmarkedImports_19 : decode cX2_countUnmarkedImports 19 = .ok (.aload_n 1, 1) := by decide +kernel
theorem dX2_countUnmarkedImports_20 : decode cX2_countUnmarkedImports 20 = .ok (.iload_n 3, 1) := by decide +kernel
theorem dX2_countUnmarkedImports_21 : decode cX2_countUnmarkedImports 21 = .ok (.invokevirtual 124, 3) := by decide +kernel
theorem dX2_countUnmarkedImports_24 : decode cX2_countUnmarkedImports 24 = .ok (.ifCond .ne 6, 3) := by decide +kernel
theorem dX2_countUnmarkedImports_27 : decode cX2_countUnmarkedImports 27 = .ok (.iinc 2 1, 3) := by decide +kernel
theorem dX2_countUnmarkedImports_30 : decode cX2_countUnmarkedImports 30 = .ok (.iinc 3 1, 3) := by decide +kernel
theorem dX2_countUnmarkedImports_33 : decode cX2_countUnmarkedImports 33 = .ok (.goto (-29), 3) := by decide +kernel
theorem dX2_countUnmarkedImports_36 : decode cX2_countUnmarkedImports 36 = .ok (.iload_n 2, 1) := by decide +kernel
theorem dX2_countUnmarkedImports_37 : decode cX2_countUnmarkedImports 37 = .ok (.ireturn, 1) := by decide +kernel
theorem dX2_giveBackUnmarked_0 : decode cX2_giveBackUnmarked 0 = .ok (.iconst 0, 1) := by decide +kernel
theorem dX2_giveBackUnmarked_1 : decode cX2_giveBackUnmarked 1 = .ok (.istore_n 3, 1) := by decide +kernel
theorem dX2_giveBackUnmarked_2 : decode cX2_giveBackUnmarked 2 = .ok (.iload_n 3, 1) := by decide +kernel
theorem dX2_giveBackUnmarked_3 : decode cX2_giveBackUnmarked 3 = .ok (.bipush 120, 2) := by decide +kernel
theorem dX2_giveBackUnmarked_5 : decode cX2_giveBackUnmarked 5 = .ok (.if_icmp .ge 32, 3) := by decide +kernel
theorem dX2_giveBackUnmarked_8 : decode cX2_giveBackUnmarked 8 = .ok (.aload_n 0, 1) := by decide +kernel
theorem dX2_giveBackUnmarked_9 : decode cX2_giveBackUnmarked 9 = .ok (.getfield 27, 3) := by decide +kernel
theorem dX2_giveBackUnmarked_12 : decode cX2_giveBackUnmarked 12 = .ok (.iload_n 3, 1) := by decide +kernel
theorem dX2_giveBackUnmarked_13 : decode cX2_giveBackUnmarked 13 = .ok (.iaload, 1) := by decide +kernel
theorem dX2_giveBackUnmarked_14 : decode cX2_giveBackUnmarked 14 = .ok (.ifCond .le 17, 3) := by decide +kernel
theorem dX2_giveBackUnmarked_17 : decode cX2_giveBackUnmarked 17 = .ok (.aload_n 1, 1) := by decide +kernel
theorem dX2_giveBackUnmarked_18 : decode cX2_giveBackUnmarked 18 = .ok (.iload_n 3, 1) := by decide +kernel
theorem dX2_giveBackUnmarked_19 : decode cX2_giveBackUnmarked 19 = .ok (.invokevirtual 124, 3) := by decide +kernel
theorem dX2_giveBackUnmarked_22 : decode cX2_giveBackUnmarked 22 = .ok (.ifCond .ne 9, 3) := by decide +kernel
theorem dX2_giveBackUnmarked_25 : decode cX2_giveBackUnmarked 25 = .ok (.aload_n 0, 1) := by decide +kernel
theorem dX2_giveBackUnmarked_26 : decode cX2_giveBackUnmarked 26 = .ok (.iload_n 3, 1) := by decide +kernel
theorem dX2_giveBackUnmarked_27 : decode cX2_giveBackUnmarked 27 = .ok (.aload_n 2, 1) := by decide +kernel
theorem dX2_giveBackUnmarked_28 : decode cX2_giveBackUnmarked 28 = .ok (.invokevirtual 127, 3) := by decide +kernel
theorem dX2_giveBackUnmarked_31 : decode cX2_giveBackUnmarked 31 = .ok (.iinc 3 1, 3) := by decide +kernel
theorem dX2_giveBackUnmarked_34 : decode cX2_giveBackUnmarked 34 = .ok (.goto (-32), 3) := by decide +kernel
theorem dX2_giveBackUnmarked_37 : decode cX2_giveBackUnmarked 37 = .ok (.return_, 1) := by decide +kernel
theorem dX2_sweep_0 : decode cX2_sweep 0 = .ok (.aload_n 0, 1) := by decide +kernel
theorem dX2_sweep_1 : decode cX2_sweep 1 = .ok (.getfield 47, 3) := by decide +kernel
theorem dX2_sweep_4 : decode cX2_sweep 4 = .ok (.istore_n 2, 1) := by decide +kernel
theorem dX2_sweep_5 : decode cX2_sweep 5 = .ok (.iconst 0, 1) := by decide +kernel
theorem dX2_sweep_6 : decode cX2_sweep 6 = .ok (.istore_n 3, 1) := by decide +kernel
theorem dX2_sweep_7 : decode cX2_sweep 7 = .ok (.iconst 0, 1) := by decide +kernel
theorem dX2_sweep_8 : decode cX2_sweep 8 = .ok (.istore 4, 2) := by decide +kernel
theorem dX2_sweep_10 : decode cX2_sweep 10 = .ok (.iconst 0, 1) := by decide +kernel
theorem dX2_sweep_11 : decode cX2_sweep 11 = .ok (.istore 5, 2) := by decide +kernel
theorem dX2_sweep_13 : decode cX2_sweep 13 = .ok (.iload 5, 2) := by decide +kernel
theorem dX2_sweep_15 : decode cX2_sweep 15 = .ok (.iload_n 2, 1) := by decide +kernel
theorem dX2_sweep_16 : decode cX2_sweep 16 = .ok (.if_icmp .ge 84, 3) := by decide +kernel
theorem dX2_sweep_19 : decode cX2_sweep 19 = .ok (.aload_n 0, 1) := by decide +kernel
theorem dX2_sweep_20 : decode cX2_sweep 20 = .ok (.getfield 30, 3) := by decide +kernel
theorem dX2_sweep_23 : decode cX2_sweep 23 = .ok (.iload 5, 2) := by decide +kernel
theorem dX2_sweep_25 : decode cX2_sweep 25 = .ok (.iaload, 1) := by decide +kernel
theorem dX2_sweep_26 : decode cX2_sweep 26 = .ok (.istore 6, 2) := by decide +kernel
theorem dX2_sweep_28 : decode cX2_sweep 28 = .ok (.aload_n 1, 1) := by decide +kernel
theorem dX2_sweep_29 : decode cX2_sweep 29 = .ok (.aload_n 0, 1) := by decide +kernel
theorem dX2_sweep_30 : decode cX2_sweep 30 = .ok (.getfield 33, 3) := by decide +kernel
theorem dX2_sweep_33 : decode cX2_sweep 33 = .ok (.iload 6, 2) := by decide +kernel
theorem dX2_sweep_35 : decode cX2_sweep 35 = .ok (.invokestatic 111, 3) := by decide +kernel
theorem dX2_sweep_38 : decode cX2_sweep 38 = .ok (.invokevirtual 124, 3) := by decide +kernel
theorem dX2_sweep_41 : decode cX2_sweep 41 = .ok (.ifCond .eq 39, 3) := by decide +kernel
theorem dX2_sweep_44 : decode cX2_sweep 44 = .ok (.aload_n 0, 1) := by decide +kernel
theorem dX2_sweep_45 : decode cX2_sweep 45 = .ok (.iload 6, 2) := by decide +kernel
theorem dX2_sweep_47 : decode cX2_sweep 47 = .ok (.iload 4, 2) := by decide +kernel
theorem dX2_sweep_49 : decode cX2_sweep 49 = .ok (.invokevirtual 131, 3) := by decide +kernel
theorem dX2_sweep_52 : decode cX2_sweep 52 = .ok (.iload 4, 2) := by decide +kernel
theorem dX2_sweep_54 : decode cX2_sweep 54 = .ok (.aload_n 0, 1) := by decide +kernel
theorem dX2_sweep_55 : decode cX2_sweep 55 = .ok (.getfield 18, 3) := by decide +kernel
theorem dX2_sweep_58 : decode cX2_sweep 58 = .ok (.iload 6, 2) := by decide +kernel
theorem dX2_sweep_60 : decode cX2_sweep 60 = .ok (.iaload, 1) := by decide +kernel
theorem dX2_sweep_61 : decode cX2_sweep 61 = .ok (.iconst 1, 1) := by decide +kernel
theorem dX2_sweep_62 : decode cX2_sweep 62 = .ok (.iadd, 1) := by decide +kernel
theorem dX2_sweep_63 : decode cX2_sweep 63 = .ok (.iadd, 1) := by decide +kernel
theorem dX2_sweep_64 : decode cX2_sweep 64 = .ok (.istore 4, 2) := by decide +kernel
theorem dX2_sweep_66 : decode cX2_sweep 66 = .ok (.aload_n 0, 1) := by decide +kernel
theorem dX2_sweep_67 : decode cX2_sweep 67 = .ok (.getfield 30, 3) := by decide +kernel
theorem dX2_sweep_70 : decode cX2_sweep 70 = .ok (.iload_n 3, 1) := by decide +kernel
theorem dX2_sweep_71 : decode cX2_sweep 71 = .ok (.iload 6, 2) := by decide +kernel
theorem dX2_sweep_73 : decode cX2_sweep 73 = .ok (.iastore, 1) := by decide +kernel
theorem dX2_sweep_74 : decode cX2_sweep 74 = .ok (.iinc 3 1, 3) := by decide +kernel
theorem dX2_sweep_77 : decode cX2_sweep 77 = .ok (.goto 17, 3) := by decide +kernel
theorem dX2_sweep_80 : decode cX2_sweep 80 = .ok (.aload_n 0, 1) := by decide +kernel
theorem dX2_sweep_81 : decode cX2_sweep 81 = .ok (.iload 6, 2) := by decide +kernel
theorem dX2_sweep_83 : decode cX2_sweep 83 = .ok (.invokevirtual 134, 3) := by decide +kernel
theorem dX2_sweep_86 : decode cX2_sweep 86 = .ok (.aload_n 0, 1) := by decide +kernel
theorem dX2_sweep_87 : decode cX2_sweep 87 = .ok (.getfield 18, 3) := by decide +kernel
theorem dX2_sweep_90 : decode cX2_sweep 90 = .ok (.iload 6, 2) := by decide +kernel
theorem dX2_sweep_92 : decode cX2_sweep 92 = .ok (.iconst (-1), 1) := by decide +kernel
theorem dX2_sweep_93 : decode cX2_sweep 93 = .ok (.iastore, 1) := by decide +kernel
theorem dX2_sweep_94 : decode cX2_sweep 94 = .ok (.iinc 5 1, 3) := by decide +kernel
theorem dX2_sweep_97 : decode cX2_sweep 97 = .ok (.goto (-84), 3) := by decide +kernel
theorem dX2_sweep_100 : decode cX2_sweep 100 = .ok (.aload_n 0, 1) := by decide +kernel
theorem dX2_sweep_101 : decode cX2_sweep 101 = .ok (.iload_n 3, 1) := by decide +kernel
theorem dX2_sweep_102 : decode cX2_sweep 102 = .ok (.putfield 47, 3) := by decide +kernel
theorem dX2_sweep_105 : decode cX2_sweep 105 = .ok (.aload_n 0, 1) := by decide +kernel
theorem dX2_sweep_106 : decode cX2_sweep 106 = .ok (.iload 4, 2) := by decide +kernel
theorem dX2_sweep_108 : decode cX2_sweep 108 = .ok (.putfield 50, 3) := by decide +kernel
theorem dX2_sweep_111 : decode cX2_sweep 111 = .ok (.iload_n 2, 1) := by decide +kernel
theorem dX2_sweep_112 : decode cX2_sweep 112 = .ok (.iload_n 3, 1) := by decide +kernel
theorem dX2_sweep_113 : decode cX2_sweep 113 = .ok (.isub, 1) := by decide +kernel
theorem dX2_sweep_114 : decode cX2_sweep 114 = .ok (.ireturn, 1) := by decide +kernel
theorem dX2_moveTo_0 : decode cX2_moveTo 0 = .ok (.aload_n 0, 1) := by decide +kernel
theorem dX2_moveTo_1 : decode cX2_moveTo 1 = .ok (.getfield 21, 3) := by decide +kernel
theorem dX2_moveTo_4 : decode cX2_moveTo 4 = .ok (.iload_n 1, 1) := by decide +kernel
theorem dX2_moveTo_5 : decode cX2_moveTo 5 = .ok (.iaload, 1) := by decide +kernel
theorem dX2_moveTo_6 : decode cX2_moveTo 6 = .ok (.iload_n 2, 1) := by decide +kernel
theorem dX2_moveTo_7 : decode cX2_moveTo 7 = .ok (.if_icmp .eq 27, 3) := by decide +kernel
theorem dX2_moveTo_10 : decode cX2_moveTo 10 = .ok (.aload_n 0, 1) := by decide +kernel
theorem dX2_moveTo_11 : decode cX2_moveTo 11 = .ok (.getfield 21, 3) := by decide +kernel
theorem dX2_moveTo_14 : decode cX2_moveTo 14 = .ok (.iload_n 1, 1) := by decide +kernel
theorem dX2_moveTo_15 : decode cX2_moveTo 15 = .ok (.iload_n 2, 1) := by decide +kernel
theorem dX2_moveTo_16 : decode cX2_moveTo 16 = .ok (.iastore, 1) := by decide +kernel
theorem dX2_moveTo_17 : decode cX2_moveTo 17 = .ok (.aload_n 0, 1) := by decide +kernel
theorem dX2_moveTo_18 : decode cX2_moveTo 18 = .ok (.dup, 1) := by decide +kernel
theorem dX2_moveTo_19 : decode cX2_moveTo 19 = .ok (.getfield 137, 3) := by decide +kernel
theorem dX2_moveTo_22 : decode cX2_moveTo 22 = .ok (.aload_n 0, 1) := by decide +kernel
theorem dX2_moveTo_23 : decode cX2_moveTo 23 = .ok (.getfield 18, 3) := by decide +kernel
theorem dX2_moveTo_26 : decode cX2_moveTo 26 = .ok (.iload_n 1, 1) := by decide +kernel
theorem dX2_moveTo_27 : decode cX2_moveTo 27 = .ok (.iaload, 1) := by decide +kernel
theorem dX2_moveTo_28 : decode cX2_moveTo 28 = .ok (.iconst 1, 1) := by decide +kernel
theorem dX2_moveTo_29 : decode cX2_moveTo 29 = .ok (.iadd, 1) := by decide +kernel
theorem dX2_moveTo_30 : decode cX2_moveTo 30 = .ok (.iadd, 1) := by decide +kernel
theorem dX2_moveTo_31 : decode cX2_moveTo 31 = .ok (.putfield 137, 3) := by decide +kernel
theorem dX2_moveTo_34 : decode cX2_moveTo 34 = .ok (.return_, 1) := by decide +kernel
theorem dX2_countExports_0 : decode cX2_countExports 0 = .ok (.iconst 0, 1) := by decide +kernel
theorem dX2_countExports_1 : decode cX2_countExports 1 = .ok (.istore_n 1, 1) := by decide +kernel
theorem dX2_countExports_2 : decode cX2_countExports 2 = .ok (.iconst 0, 1) := by decide +kernel
theorem dX2_countExports_3 : decode cX2_countExports 3 = .ok (.istore_n 2, 1) := by decide +kernel
theorem dX2_countExports_4 : decode cX2_countExports 4 = .ok (.iload_n 2, 1) := by decide +kernel
theorem dX2_countExports_5 : decode cX2_countExports 5 = .ok (.bipush 24, 2) := by decide +kernel
theorem dX2_countExports_7 : decode cX2_countExports 7 = .ok (.if_icmp .ge 21, 3) := by decide +kernel
theorem dX2_countExports_10 : decode cX2_countExports 10 = .ok (.aload_n 0, 1) := by decide +kernel
theorem dX2_countExports_11 : decode cX2_countExports 11 = .ok (.getfield 24, 3) := by decide +kernel
theorem dX2_countExports_14 : decode cX2_countExports 14 = .ok (.iload_n 2, 1) := by decide +kernel
theorem dX2_countExports_15 : decode cX2_countExports 15 = .ok (.iaload, 1) := by decide +kernel
theorem dX2_countExports_16 : decode cX2_countExports 16 = .ok (.ifCond .le 6, 3) := by decide +kernel
theorem dX2_countExports_19 : decode cX2_countExports 19 = .ok (.iinc 1 1, 3) := by decide +kernel
theorem dX2_countExports_22 : decode cX2_countExports 22 = .ok (.iinc 2 1, 3) := by decide +kernel
theorem dX2_countExports_25 : decode cX2_countExports 25 = .ok (.goto (-21), 3) := by decide +kernel
theorem dX2_countExports_28 : decode cX2_countExports 28 = .ok (.iload_n 1, 1) := by decide +kernel
theorem dX2_countExports_29 : decode cX2_countExports 29 = .ok (.ireturn, 1) := by decide +kernel
theorem dX2_countUnmarkedObjects_0 : decode cX2_countUnmarkedObjects 0 = .ok (.iconst 0, 1) := by decide +kernel
theorem dX2_countUnmarkedObjects_1 : decode cX2_countUnmarkedObjects 1 = .ok (.istore_n 2, 1) := by decide +kernel
theorem dX2_countUnmarkedObjects_2 : decode cX2_countUnmarkedObjects 2 = .ok (.iconst 0, 1) := by decide +kernel
theorem dX2_countUnmarkedObjects_3 : decode cX2_countUnmarkedObjects 3 = .ok (.istore_n 3, 1) := by decide +kernel
theorem dX2_countUnmarkedObjects_4 : decode cX2_countUnmarkedObjects 4 = .ok (.iload_n 3, 1) := by decide +kernel
theorem dX2_countUnmarkedObjects_5 : decode cX2_countUnmarkedObjects 5 = .ok (.bipush 24, 2) := by decide +kernel
theorem dX2_countUnmarkedObjects_7 : decode cX2_countUnmarkedObjects 7 = .ok (.if_icmp .ge 35, 3) := by decide +kernel
theorem dX2_countUnmarkedObjects_10 : decode cX2_countUnmarkedObjects 10 = .ok (.aload_n 0, 1) := by decide +kernel
theorem dX2_countUnmarkedObjects_11 : decode cX2_countUnmarkedObjects 11 = .ok (.iload_n 3, 1) := by decide +kernel
theorem dX2_countUnmarkedObjects_12 : decode cX2_countUnmarkedObjects 12 = .ok (.invokevirtual 43, 3) := by decide +kernel
theorem dX2_countUnmarkedObjects_15 : decode cX2_countUnmarkedObjects 15 = .ok (.ifCond .eq 21, 3) := by decide +kernel
theorem dX2_countUnmarkedObjects_18 : decode cX2_countUnmarkedObjects 18 = .ok (.aload_n 1, 1) := by decide +kernel
theorem dX2_countUnmarkedObjects_19 : decode cX2_countUnmarkedObjects 19 = .ok (.aload_n 0, 1) := by decide +kernel
theorem dX2_countUnmarkedObjects_20 : decode cX2_countUnmarkedObjects 20 = .ok (.getfield 33, 3) := by decide +kernel
theorem dX2_countUnmarkedObjects_23 : decode cX2_countUnmarkedObjects 23 = .ok (.iload_n 3, 1) := by decide +kernel
theorem dX2_countUnmarkedObjects_24 : decode cX2_countUnmarkedObjects 24 = .ok (.invokestatic 111, 3) := by decide +kernel
theorem dX2_countUnmarkedObjects_27 : decode cX2_countUnmarkedObjects 27 = .ok (.invokevirtual 124, 3) := by decide +kernel
theorem dX2_countUnmarkedObjects_30 : decode cX2_countUnmarkedObjects 30 = .ok (.ifCond .ne 6, 3) := by decide +kernel
theorem dX2_countUnmarkedObjects_33 : decode cX2_countUnmarkedObjects 33 = .ok (.iinc 2 1, 3) := by decide +kernel
theorem dX2_countUnmarkedObjects_36 : decode cX2_countUnmarkedObjects 36 = .ok (.iinc 3 1, 3) := by decide +kernel
theorem dX2_countUnmarkedObjects_39 : decode cX2_countUnmarkedObjects 39 = .ok (.goto (-35), 3) := by decide +kernel
theorem dX2_countUnmarkedObjects_42 : decode cX2_countUnmarkedObjects 42 = .ok (.iload_n 2, 1) := by decide +kernel
theorem dX2_countUnmarkedObjects_43 : decode cX2_countUnmarkedObjects 43 = .ok (.ireturn, 1) := by decide +kernel
theorem dX3_init_0 : decode cX3_init 0 = .ok (.aload_n 0, 1) := by decide +kernel
theorem dX3_init_1 : decode cX3_init 1 = .ok (.invokespecial 3, 3) := by decide +kernel
theorem dX3_init_4 : decode cX3_init 4 = .ok (.aload_n 0, 1) := by decide +kernel
theorem dX3_init_5 : decode cX3_init 5 = .ok (.bipush 60, 2) := by decide +kernel
theorem dX3_init_7 : decode cX3_init 7 = .ok (.anewarray 9, 3) := by decide +kernel
theorem dX3_init_10 : decode cX3_init 10 = .ok (.putfield 11, 3) := by decide +kernel
theorem dX3_init_13 : decode cX3_init 13 = .ok (.iconst 0, 1) := by decide +kernel
theorem dX3_init_14 : decode cX3_init 14 = .ok (.istore_n 1, 1) := by decide +kernel
theorem dX3_init_15 : decode cX3_init 15 = .ok (.iload_n 1, 1) := by decide +kernel
theorem dX3_init_16 : decode cX3_init 16 = .ok (.bipush 60, 2) := by decide +kernel
theorem dX3_init_18 : decode cX3_init 18 = .ok (.if_icmp .ge 22, 3) := by decide +kernel
theorem dX3_init_21 : decode cX3_init 21 = .ok (.aload_n 0, 1) := by decide +kernel
theorem dX3_init_22 : decode cX3_init 22 = .ok (.getfield 11, 3) := by decide +kernel
theorem dX3_init_25 : decode cX3_init 25 = .ok (.iload_n 1, 1) := by decide +kernel
theorem dX3_init_26 : decode cX3_init 26 = .ok (.new 9, 3) := by decide +kernel
theorem dX3_init_29 : decode cX3_init 29 = .ok (.dup, 1) := by decide +kernel
theorem dX3_init_30 : decode cX3_init 30 = .ok (.invokespecial 17, 3) := by decide +kernel
theorem dX3_init_33 : decode cX3_init 33 = .ok (.aastore, 1) := by decide +kernel
theorem dX3_init_34 : decode cX3_init 34 = .ok (.iinc 1 1, 3) := by decide +kernel
theorem dX3_init_37 : decode cX3_init 37 = .ok (.goto (-22), 3) := by decide +kernel
theorem dX3_init_40 : decode cX3_init 40 = .ok (.return_, 1) := by decide +kernel
theorem dX3_isFull_0 : decode cX3_isFull 0 = .ok (.aload_n 0, 1) := by decide +kernel
theorem dX3_isFull_1 : decode cX3_isFull 1 = .ok (.getfield 18, 3) := by decide +kernel
theorem dX3_isFull_4 : decode cX3_isFull 4 = .ok (.bipush 60, 2) := by decide +kernel
theorem dX3_isFull_6 : decode cX3_isFull 6 = .ok (.if_icmp .lt 7, 3) := by decide +kernel
theorem dX3_isFull_9 : decode cX3_isFull 9 = .ok (.iconst 1, 1) := by decide +kernel
theorem dX3_isFull_10 : decode cX3_isFull 10 = .ok (.goto 4, 3) := by decide +kernel
theorem dX3_isFull_13 : decode cX3_isFull 13 = .ok (.iconst 0, 1) := by decide +kernel
theorem dX3_isFull_14 : decode cX3_isFull 14 = .ok (.ireturn, 1) := by decide +kernel
theorem dX3_put_0 : decode cX3_put 0 = .ok (.aload_n 0, 1) := by decide +kernel
theorem dX3_put_1 : decode cX3_put 1 = .ok (.invokevirtual 22, 3) := by decide +kernel
theorem dX3_put_4 : decode cX3_put 4 = .ok (.ifCond .eq 4, 3) := by decide +kernel
theorem dX3_put_7 : decode cX3_put 7 = .ok (.return_, 1) := by decide +kernel
theorem dX3_put_8 : decode cX3_put 8 = .ok (.aload_n 0, 1) := by decide +kernel
theorem dX3_put_9 : decode cX3_put 9 = .ok (.getfield 11, 3) := by decide +kernel
theorem dX3_put_12 : decode cX3_put 12 = .ok (.aload_n 0, 1) := by decide +kernel
theorem dX3_put_13 : decode cX3_put 13 = .ok (.getfield 18, 3) := by decide +kernel
theorem dX3_put_16 : decode cX3_put 16 = .ok (.aaload, 1) := by decide +kernel
theorem dX3_put_17 : decode cX3_put 17 = .ok (.astore 7, 2) := by decide +kernel
theorem dX3_put_19 : decode cX3_put 19 = .ok (.aload 7, 2) := by decide +kernel
theorem dX3_put_21 : decode cX3_put 21 = .ok (.iload_n 1, 1) := by decide +kernel
theorem dX3_put_22 : decode cX3_put 22 = .ok (.putfield 26, 3) := by decide +kernel
theorem dX3_put_25 : decode cX3_put 25 = .ok (.aload 7, 2) := by decide +kernel
theorem dX3_put_27 : decode cX3_put 27 = .ok (.iload_n 2, 1) := by decide +kernel
theorem dX3_put_28 : decode cX3_put 28 = .ok (.putfield 29, 3) := by decide +kernel
theorem dX3_put_31 : decode cX3_put 31 = .ok (.aload 7, 2) := by decide +kernel
theorem dX3_put_33 : decode cX3_put 33 = .ok (.iload_n 3, 1) := by decide +kernel
theorem dX3_put_34 : decode cX3_put 34 = .ok (.putfield 32, 3) := by decide +kernel
theorem dX3_put_37 : decode cX3_put 37 = .ok (.aload 7, 2) := by decide +kernel
theorem dX3_put_39 : decode cX3_put 39 = .ok (.iload 4, 2) := by decide +kernel
theorem dX3_put_41 : decode cX3_put 41 = .ok (.putfield 35, 3) := by decide +kernel
theorem dX3_put_44 : decode cX3_put 44 = .ok (.aload 7, 2) := by decide +kernel
theorem dX3_put_46 : decode cX3_put 46 = .ok (.iload 5, 2) := by decide +kernel
theorem dX3_put_48 : decode cX3_put 48 = .ok (.putfield 38, 3) := by decide +kernel
theorem dX3_put_51 : decode cX3_put 51 = .ok (.aload 7, 2) := by decide +kernel
theorem dX3_put_53 : decode cX3_put 53 = .ok (.iload 6, 2) := by decide +kernel
theorem dX3_put_55 : decode cX3_put 55 = .ok (.putfield 41, 3) := by decide +kernel
theorem dX3_put_58 : decode cX3_put 58 = .ok (.aload_n 0, 1) := by decide +kernel
theorem dX3_put_59 : decode cX3_put 59 = .ok (.dup, 1) := by decide +kernel
theorem dX3_put_60 : decode cX3_put 60 = .ok (.getfield 18, 3) := by decide +kernel
theorem dX3_put_63 : decode cX3_put 63 = .ok (.iconst 1, 1) := by decide +kernel
theorem dX3_put_64 : decode cX3_put 64 = .ok (.iadd, 1) := by decide +kernel
theorem dX3_put_65 : decode cX3_put 65 = .ok (.putfield 18, 3) := by decide +kernel
theorem dX3_put_68 : decode cX3_put 68 = .ok (.return_, 1) := by decide +kernel
theorem dX3_find_0 : decode cX3_find 0 = .ok (.iconst 0, 1) := by decide +kernel
theorem dX3_find_1 : decode cX3_find 1 = .ok (.istore 4, 2) := by decide +kernel
theorem dX3_find_3 : decode cX3_find 3 = .ok (.iconst 0, 1) := by decide +kernel
theorem dX3_find_4 : decode cX3_find 4 = .ok (.istore 5, 2) := by decide +kernel
theorem dX3_find_6 : decode cX3_find 6 = .ok (.iload 5, 2) := by decide +kernel
theorem dX3_find_8 : decode cX3_find 8 = .ok (.aload_n 0, 1) := by decide +kernel
theorem dX3_find_9 : decode cX3_find 9 = .ok (.getfield 18, 3) := by decide +kernel
theorem dX3_find_12 : decode cX3_find 12 = .ok (.if_icmp .ge 48, 3) := by decide +kernel
theorem dX3_find_15 : decode cX3_find 15 = .ok (.aload_n 0, 1) := by decide +kernel
theorem dX3_find_16 : decode cX3_find 16 = .ok (.getfield 11, 3) := by decide +kernel
theorem dX3_find_19 : decode cX3_find 19 = .ok (.iload 5, 2) := by decide +kernel
theorem dX3_find_21 : decode cX3_find 21 = .ok (.aaload, 1) := by decide +kernel
theorem dX3_find_22 : decode cX3_find 22 = .ok (.astore 6, 2) := by decide +kernel
theorem dX3_find_24 : decode cX3_find 24 = .ok (.aload 6, 2) := by decide +kernel
theorem dX3_find_26 : decode cX3_find 26 = .ok (.getfield 29, 3) := by decide +kernel
theorem dX3_find_29 : decode cX3_find 29 = .ok (.iload_n 1, 1) := by decide +kernel
theorem dX3_find_30 : decode cX3_find 30 = .ok (.if_icmp .ne 24, 3) := by decide +kernel
theorem dX3_find_33 : decode cX3_find 33 = .ok (.aload 6, 2) := by decide +kernel
theorem dX3_find_35 : decode cX3_find 35 = .ok (.getfield 32, 3) := by decide +kernel
theorem dX3_find_38 : decode cX3_find 38 = .ok (.iload_n 2, 1) := by decide +kernel
theorem dX3_find_39 : decode cX3_find 39 = .ok (.if_icmp .ne 15, 3) := by decide +kernel
theorem dX3_find_42 : decode cX3_find 42 = .ok (.iload 4, 2) := by decide +kernel
theorem dX3_find_44 : decode cX3_find 44 = .ok (.iload_n 3, 1) := by decide +kernel
theorem dX3_find_45 : decode cX3_find 45 = .ok (.if_icmp .ne 6, 3) := by decide +kernel
theorem dX3_find_48 : decode cX3_find 48 = .ok (.aload 6, 2) := by decide +kernel
theorem dX3_find_50 : decode cX3_find 50 = .ok (.areturn, 1) := by decide +kernel
theorem dX3_find_51 : decode cX3_find 51 = .ok (.iinc 4 1, 3) := by decide +kernel
theorem dX3_find_54 : decode cX3_find 54 = .ok (.iinc 5 1, 3) := by decide +kernel
theorem dX3_find_57 : decode cX3_find 57 = .ok (.goto (-51), 3) := by decide +kernel
theorem dX3_find_60 : decode cX3_find 60 = .ok (.aconst_null, 1) := by decide +kernel
theorem dX3_find_61 : decode cX3_find 61 = .ok (.areturn, 1) := by decide +kernel
theorem dX3_remove_0 : decode cX3_remove 0 = .ok (.iconst 0, 1) := by decide +kernel
theorem dX3_remove_1 : decode cX3_remove 1 = .ok (.istore_n 2, 1) := by decide +kernel
theorem dX3_remove_2 : decode cX3_remove 2 = .ok (.iconst 0, 1) := by decide +kernel
theorem dX3_remove_3 : decode cX3_remove 3 = .ok (.istore_n 3, 1) := by decide +kernel
theorem dX3_remove_4 : decode cX3_remove 4 = .ok (.iload_n 3, 1) := by decide +kernel
theorem dX3_remove_5 : decode cX3_remove 5 = .ok (.aload_n 0, 1) := by decide +kernel
theorem dX3_remove_6 : decode cX3_remove 6 = .ok (.getfield 18, 3) := by decide +kernel
theorem dX3_remove_9 : decode cX3_remove 9 = .ok (.if_icmp .ge 57, 3) := by decide +kernel
theorem dX3_remove_12 : decode cX3_remove 12 = .ok (.iload_n 2, 1) := by decide +kernel
theorem dX3_remove_13 : decode cX3_remove 13 = .ok (.ifCond .ne 13, 3) := by decide +kernel
theorem dX3_remove_16 : decode cX3_remove 16 = .ok (.aload_n 0, 1) := by decide +kernel
theorem dX3_remove_17 : decode cX3_remove 17 = .ok (.getfield 11, 3) := by decide +kernel
theorem dX3_remove_20 : decode cX3_remove 20 = .ok (.iload_n 3, 1) := by decide +kernel
