theorem dX0_init_0 : decode cX0_init 0 = .ok (.aload_n 0, 1) := by decide +kernel
theorem dX0_init_1 : decode cX0_init 1 = .ok (.invokespecial 1, 3) := by decide +kernel
theorem dX0_init_4 : decode cX0_init 4 = .ok (.return_, 1) := by decide +kernel
theorem dX0_below_0 : decode cX0_below 0 = .ok (.aload_n 0, 1) := by decide +kernel
theorem dX0_below_1 : decode cX0_below 1 = .ok (.ldc2_w 7, 3) := by decide +kernel
theorem dX0_below_4 : decode cX0_below 4 = .ok (.aload_n 0, 1) := by decide +kernel
theorem dX0_below_5 : decode cX0_below 5 = .ok (.getfield 9, 3) := by decide +kernel
theorem dX0_below_8 : decode cX0_below 8 = .ok (.i2l, 1) := by decide +kernel
theorem dX0_below_9 : decode cX0_below 9 = .ok (.lmul, 1) := by decide +kernel
theorem dX0_below_10 : decode cX0_below 10 = .ok (.ldc2_w 15, 3) := by decide +kernel
theorem dX0_below_13 : decode cX0_below 13 = .ok (.ladd, 1) := by decide +kernel
theorem dX0_below_14 : decode cX0_below 14 = .ok (.ldc2_w 17, 3) := by decide +kernel
theorem dX0_below_17 : decode cX0_below 17 = .ok (.lrem, 1) := by decide +kernel
theorem dX0_below_18 : decode cX0_below 18 = .ok (.l2i, 1) := by decide +kernel
theorem dX0_below_19 : decode cX0_below 19 = .ok (.putfield 9, 3) := by decide +kernel
theorem dX0_below_22 : decode cX0_below 22 = .ok (.iload_n 1, 1) := by decide +kernel
theorem dX0_below_23 : decode cX0_below 23 = .ok (.ifCond .le 15, 3) := by decide +kernel
theorem dX0_below_26 : decode cX0_below 26 = .ok (.aload_n 0, 1) := by decide +kernel
theorem dX0_below_27 : decode cX0_below 27 = .ok (.getfield 9, 3) := by decide +kernel
theorem dX0_below_30 : decode cX0_below 30 = .ok (.ldc 19, 2) := by decide +kernel
theorem dX0_below_32 : decode cX0_below 32 = .ok (.idiv, 1) := by decide +kernel
theorem dX0_below_33 : decode cX0_below 33 = .ok (.iload_n 1, 1) := by decide +kernel
theorem dX0_below_34 : decode cX0_below 34 = .ok (.irem, 1) := by decide +kernel
theorem dX0_below_35 : decode cX0_below 35 = .ok (.goto 4, 3) := by decide +kernel
theorem dX0_below_38 : decode cX0_below 38 = .ok (.iconst 0, 1) := by decide +kernel
theorem dX0_below_39 : decode cX0_below 39 = .ok (.ireturn, 1) := by decide +kernel
theorem dX1_init_0 : decode cX1_init 0 = .ok (.aload_n 0, 1) := by decide +kernel
theorem dX1_init_1 : decode cX1_init 1 = .ok (.invokespecial 3, 3) := by decide +kernel
theorem dX1_init_4 : decode cX1_init 4 = .ok (.aload_n 0, 1) := by decide +kernel
theorem dX1_init_5 : decode cX1_init 5 = .ok (.bipush 8, 2) := by decide +kernel
theorem dX1_init_7 : decode cX1_init 7 = .ok (.newarray .int, 2) := by decide +kernel
theorem dX1_init_9 : decode cX1_init 9 = .ok (.putfield 9, 3) := by decide +kernel
theorem dX1_init_12 : decode cX1_init 12 = .ok (.aload_n 0, 1) := by decide +kernel
theorem dX1_init_13 : decode cX1_init 13 = .ok (.bipush 8, 2) := by decide +kernel
theorem dX1_init_15 : decode cX1_init 15 = .ok (.newarray .int, 2) := by decide +kernel
theorem dX1_init_17 : decode cX1_init 17 = .ok (.putfield 15, 3) := by decide +kernel
theorem dX1_init_20 : decode cX1_init 20 = .ok (.aload_n 0, 1) := by decide +kernel
theorem dX1_init_21 : decode cX1_init 21 = .ok (.bipush 8, 2) := by decide +kernel
theorem dX1_init_23 : decode cX1_init 23 = .ok (.newarray .int, 2) := by decide +kernel
theorem dX1_init_25 : decode cX1_init 25 = .ok (.putfield 18, 3) := by decide +kernel
theorem dX1_init_28 : decode cX1_init 28 = .ok (.return_, 1) := by decide +kernel
theorem dX1_hear_0 : decode cX1_hear 0 = .ok (.aload_n 0, 1) := by decide +kernel
theorem dX1_hear_1 : decode cX1_hear 1 = .ok (.getfield 21, 3) := by decide +kernel
theorem dX1_hear_4 : decode cX1_hear 4 = .ok (.ifCond .lt 12, 3) := by decide +kernel
theorem dX1_hear_7 : decode cX1_hear 7 = .ok (.aload_n 0, 1) := by decide +kernel
theorem dX1_hear_8 : decode cX1_hear 8 = .ok (.getfield 21, 3) := by decide +kernel
theorem dX1_hear_11 : decode cX1_hear 11 = .ok (.bipush 8, 2) := by decide +kernel
theorem dX1_hear_13 : decode cX1_hear 13 = .ok (.if_icmp .lt 5, 3) := by decide +kernel
theorem dX1_hear_16 : decode cX1_hear 16 = .ok (.iconst 0, 1) := by decide +kernel
theorem dX1_hear_17 : decode cX1_hear 17 = .ok (.ireturn, 1) := by decide +kernel
theorem dX1_hear_18 : decode cX1_hear 18 = .ok (.aload_n 0, 1) := by decide +kernel
theorem dX1_hear_19 : decode cX1_hear 19 = .ok (.getfield 9, 3) := by decide +kernel
theorem dX1_hear_22 : decode cX1_hear 22 = .ok (.aload_n 0, 1) := by decide +kernel
theorem dX1_hear_23 : decode cX1_hear 23 = .ok (.getfield 21, 3) := by decide +kernel
theorem dX1_hear_26 : decode cX1_hear 26 = .ok (.iload_n 1, 1) := by decide +kernel
theorem dX1_hear_27 : decode cX1_hear 27 = .ok (.iastore, 1) := by decide +kernel
theorem dX1_hear_28 : decode cX1_hear 28 = .ok (.aload_n 0, 1) := by decide +kernel
theorem dX1_hear_29 : decode cX1_hear 29 = .ok (.getfield 15, 3) := by decide +kernel
theorem dX1_hear_32 : decode cX1_hear 32 = .ok (.aload_n 0, 1) := by decide +kernel
theorem dX1_hear_33 : decode cX1_hear 33 = .ok (.getfield 21, 3) := by decide +kernel
theorem dX1_hear_36 : decode cX1_hear 36 = .ok (.iload_n 2, 1) := by decide +kernel
theorem dX1_hear_37 : decode cX1_hear 37 = .ok (.iastore, 1) := by decide +kernel
theorem dX1_hear_38 : decode cX1_hear 38 = .ok (.aload_n 0, 1) := by decide +kernel
theorem dX1_hear_39 : decode cX1_hear 39 = .ok (.getfield 18, 3) := by decide +kernel
theorem dX1_hear_42 : decode cX1_hear 42 = .ok (.aload_n 0, 1) := by decide +kernel
theorem dX1_hear_43 : decode cX1_hear 43 = .ok (.getfield 21, 3) := by decide +kernel
theorem dX1_hear_46 : decode cX1_hear 46 = .ok (.iload_n 3, 1) := by decide +kernel
theorem dX1_hear_47 : decode cX1_hear 47 = .ok (.ifCond .eq 7, 3) := by decide +kernel
theorem dX1_hear_50 : decode cX1_hear 50 = .ok (.iconst 1, 1) := by decide +kernel
theorem dX1_hear_51 : decode cX1_hear 51 = .ok (.goto 4, 3) := by decide +kernel
theorem dX1_hear_54 : decode cX1_hear 54 = .ok (.iconst 0, 1) := by decide +kernel
theorem dX1_hear_55 : decode cX1_hear 55 = .ok (.iastore, 1) := by decide +kernel
theorem dX1_hear_56 : decode cX1_hear 56 = .ok (.aload_n 0, 1) := by decide +kernel
theorem dX1_hear_57 : decode cX1_hear 57 = .ok (.dup, 1) := by decide +kernel
theorem dX1_hear_58 : decode cX1_hear 58 = .ok (.getfield 21, 3) := by decide +kernel
theorem dX1_hear_61 : decode cX1_hear 61 = .ok (.iconst 1, 1) := by decide +kernel
theorem dX1_hear_62 : decode cX1_hear 62 = .ok (.iadd, 1) := by decide +kernel
theorem dX1_hear_63 : decode cX1_hear 63 = .ok (.putfield 21, 3) := by decide +kernel
theorem dX1_hear_66 : decode cX1_hear 66 = .ok (.iconst 1, 1) := by decide +kernel
theorem dX1_hear_67 : decode cX1_hear 67 = .ok (.ireturn, 1) := by decide +kernel
theorem dX1_copyFrom_0 : decode cX1_copyFrom 0 = .ok (.aload_n 1, 1) := by decide +kernel
theorem dX1_copyFrom_1 : decode cX1_copyFrom 1 = .ok (.getfield 9, 3) := by decide +kernel
theorem dX1_copyFrom_4 : decode cX1_copyFrom 4 = .ok (.iconst 0, 1) := by decide +kernel
theorem dX1_copyFrom_5 : decode cX1_copyFrom 5 = .ok (.aload_n 0, 1) := by decide +kernel
theorem dX1_copyFrom_6 : decode cX1_copyFrom 6 = .ok (.getfield 9, 3) := by decide +kernel
theorem dX1_copyFrom_9 : decode cX1_copyFrom 9 = .ok (.iconst 0, 1) := by decide +kernel
theorem dX1_copyFrom_10 : decode cX1_copyFrom 10 = .ok (.bipush 8, 2) := by decide +kernel
theorem dX1_copyFrom_12 : decode cX1_copyFrom 12 = .ok (.invokestatic 25, 3) := by decide +kernel
theorem dX1_copyFrom_15 : decode cX1_copyFrom 15 = .ok (.aload_n 1, 1) := by decide +kernel
theorem dX1_copyFrom_16 : decode cX1_copyFrom 16 = .ok (.getfield 15, 3) := by decide +kernel
theorem dX1_copyFrom_19 : decode cX1_copyFrom 19 = .ok (.iconst 0, 1) := by decide +kernel
theorem dX1_copyFrom_20 : decode cX1_copyFrom 20 = .ok (.aload_n 0, 1) := by decide +kernel
theorem dX1_copyFrom_21 : decode cX1_copyFrom 21 = .ok (.getfield 15, 3) := by decide +kernel
theorem dX1_copyFrom_24 : decode cX1_copyFrom 24 = .ok (.iconst 0, 1) := by decide +kernel
theorem dX1_copyFrom_25 : decode cX1_copyFrom 25 = .ok (.bipush 8, 2) := by decide +kernel
theorem dX1_copyFrom_27 : decode cX1_copyFrom 27 = .ok (.invokestatic 25, 3) := by decide +kernel
theorem dX1_copyFrom_30 : decode cX1_copyFrom 30 = .ok (.aload_n 1, 1) := by decide +kernel
theorem dX1_copyFrom_31 : decode cX1_copyFrom 31 = .ok (.getfield 18, 3) := by decide +kernel
theorem dX1_copyFrom_34 : decode cX1_copyFrom 34 = .ok (.iconst 0, 1) := by decide +kernel
theorem dX1_copyFrom_35 : decode cX1_copyFrom 35 = .ok (.aload_n 0, 1) := by decide +kernel
theorem dX1_copyFrom_36 : decode cX1_copyFrom 36 = .ok (.getfield 18, 3) := by decide +kernel
theorem dX1_copyFrom_39 : decode cX1_copyFrom 39 = .ok (.iconst 0, 1) := by decide +kernel
theorem dX1_copyFrom_40 : decode cX1_copyFrom 40 = .ok (.bipush 8, 2) := by decide +kernel
theorem dX1_copyFrom_42 : decode cX1_copyFrom 42 = .ok (.invokestatic 25, 3) := by decide +kernel
theorem dX1_copyFrom_45 : decode cX1_copyFrom 45 = .ok (.aload_n 0, 1) := by decide +kernel
theorem dX1_copyFrom_46 : decode cX1_copyFrom 46 = .ok (.aload_n 1, 1) := by decide +kernel
theorem dX1_copyFrom_47 : decode cX1_copyFrom 47 = .ok (.getfield 21, 3) := by decide +kernel
theorem dX1_copyFrom_50 : decode cX1_copyFrom 50 = .ok (.putfield 21, 3) := by decide +kernel
theorem dX1_copyFrom_53 : decode cX1_copyFrom 53 = .ok (.return_, 1) := by decide +kernel
theorem dX1_lastDay_0 : decode cX1_lastDay 0 = .ok (.iconst 0, 1) := by decide +kernel
theorem dX1_lastDay_1 : decode cX1_lastDay 1 = .ok (.istore_n 1, 1) := by decide +kernel
theorem dX1_lastDay_2 : decode cX1_lastDay 2 = .ok (.iconst 0, 1) := by decide +kernel
theorem dX1_lastDay_3 : decode cX1_lastDay 3 = .ok (.istore_n 2, 1) := by decide +kernel
theorem dX1_lastDay_4 : decode cX1_lastDay 4 = .ok (.iload_n 2, 1) := by decide +kernel
theorem dX1_lastDay_5 : decode cX1_lastDay 5 = .ok (.aload_n 0, 1) := by decide +kernel
theorem dX1_lastDay_6 : decode cX1_lastDay 6 = .ok (.getfield 21, 3) := by decide +kernel
theorem dX1_lastDay_9 : decode cX1_lastDay 9 = .ok (.if_icmp .ge 26, 3) := by decide +kernel
theorem dX1_lastDay_12 : decode cX1_lastDay 12 = .ok (.iload_n 2, 1) := by decide +kernel
theorem dX1_lastDay_13 : decode cX1_lastDay 13 = .ok (.bipush 8, 2) := by decide +kernel
theorem dX1_lastDay_15 : decode cX1_lastDay 15 = .ok (.if_icmp .ge 20, 3) := by decide +kernel
theorem dX1_lastDay_18 : decode cX1_lastDay 18 = .ok (.iload_n 1, 1) := by decide +kernel
theorem dX1_lastDay_19 : decode cX1_lastDay 19 = .ok (.aload_n 0, 1) := by decide +kernel
theorem dX1_lastDay_20 : decode cX1_lastDay 20 = .ok (.getfield 15, 3) := by decide +kernel
theorem dX1_lastDay_23 : decode cX1_lastDay 23 = .ok (.iload_n 2, 1) := by decide +kernel
theorem dX1_lastDay_24 : decode cX1_lastDay 24 = .ok (.iaload, 1) := by decide +kernel
theorem dX1_lastDay_25 : decode cX1_lastDay 25 = .ok (.invokestatic 31, 3) := by decide +kernel
theorem dX1_lastDay_28 : decode cX1_lastDay 28 = .ok (.istore_n 1, 1) := by decide +kernel
theorem dX1_lastDay_29 : decode cX1_lastDay 29 = .ok (.iinc 2 1, 3) := by decide +kernel
theorem dX1_lastDay_32 : decode cX1_lastDay 32 = .ok (.goto (-28), 3) := by decide +kernel
theorem dX1_lastDay_35 : decode cX1_lastDay 35 = .ok (.iload_n 1, 1) := by decide +kernel
theorem dX1_lastDay_36 : decode cX1_lastDay 36 = .ok (.ireturn, 1) := by decide +kernel
theorem dX1_agreeWith_0 : decode cX1_agreeWith 0 = .ok (.iconst 0, 1) := by decide +kernel
theorem dX1_agreeWith_1 : decode cX1_agreeWith 1 = .ok (.istore_n 2, 1) := by decide +kernel
theorem dX1_agreeWith_2 : decode cX1_agreeWith 2 = .ok (.iload_n 2, 1) := by decide +kernel
theorem dX1_agreeWith_3 : decode cX1_agreeWith 3 = .ok (.aload_n 0, 1) := by decide +kernel
theorem dX1_agreeWith_4 : decode cX1_agreeWith 4 = .ok (.getfield 21, 3) := by decide +kernel
theorem dX1_agreeWith_7 : decode cX1_agreeWith 7 = .ok (.if_icmp .ge 66, 3) := by decide +kernel
theorem dX1_agreeWith_10 : decode cX1_agreeWith 10 = .ok (.iload_n 2, 1) := by decide +kernel
theorem dX1_agreeWith_11 : decode cX1_agreeWith 11 = .ok (.bipush 8, 2) := by decide +kernel
theorem dX1_agreeWith_13 : decode cX1_agreeWith 13 = .ok (.if_icmp .ge 60, 3) := by decide +kernel
theorem dX1_agreeWith_16 : decode cX1_agreeWith 16 = .ok (.aload_n 0, 1) := by decide +kernel
theorem dX1_agreeWith_17 : decode cX1_agreeWith 17 = .ok (.getfield 9, 3) := by decide +kernel
theorem dX1_agreeWith_20 : decode cX1_agreeWith 20 = .ok (.iload_n 2, 1) := by decide +kernel
theorem dX1_agreeWith_21 : decode cX1_agreeWith 21 = .ok (.iaload, 1) := by decide +kernel
theorem dX1_agreeWith_22 : decode cX1_agreeWith 22 = .ok (.istore_n 3, 1) := by decide +kernel
theorem dX1_agreeWith_23 : decode cX1_agreeWith 23 = .ok (.iload_n 3, 1) := by decide +kernel
theorem dX1_agreeWith_24 : decode cX1_agreeWith 24 = .ok (.ifCond .lt 9, 3) := by decide +kernel
theorem dX1_agreeWith_27 : decode cX1_agreeWith 27 = .ok (.iload_n 3, 1) := by decide +kernel
theorem dX1_agreeWith_28 : decode cX1_agreeWith 28 = .ok (.aload_n 1, 1) := by decide +kernel
theorem dX1_agreeWith_29 : decode cX1_agreeWith 29 = .ok (.arraylength, 1) := by decide +kernel
theorem dX1_agreeWith_30 : decode cX1_agreeWith 30 = .ok (.if_icmp .lt 5, 3) := by decide +kernel
theorem dX1_agreeWith_33 : decode cX1_agreeWith 33 = .ok (.iconst 0, 1) := by decide +kernel
theorem dX1_agreeWith_34 : decode cX1_agreeWith 34 = .ok (.ireturn, 1) := by decide +kernel
theorem dX1_agreeWith_35 : decode cX1_agreeWith 35 = .ok (.aload_n 0, 1) := by decide +kernel
theorem dX1_agreeWith_36 : decode cX1_agreeWith 36 = .ok (.getfield 15, 3) := by decide +kernel
theorem dX1_agreeWith_39 : decode cX1_agreeWith 39 = .ok (.iload_n 2, 1) := by decide +kernel
theorem dX1_agreeWith_40 : decode cX1_agreeWith 40 = .ok (.iaload, 1) := by decide +kernel
theorem dX1_agreeWith_41 : decode cX1_agreeWith 41 = .ok (.aload_n 1, 1) := by decide +kernel
theorem dX1_agreeWith_42 : decode cX1_agreeWith 42 = .ok (.iload_n 3, 1) := by decide +kernel
theorem dX1_agreeWith_43 : decode cX1_agreeWith 43 = .ok (.iaload, 1) := by decide +kernel
theorem dX1_agreeWith_44 : decode cX1_agreeWith 44 = .ok (.if_icmp .ge 7, 3) := by decide +kernel
theorem dX1_agreeWith_47 : decode cX1_agreeWith 47 = .ok (.iconst 1, 1) := by decide +kernel
theorem dX1_agreeWith_48 : decode cX1_agreeWith 48 = .ok (.goto 4, 3) := by decide +kernel
theorem dX1_agreeWith_51 : decode cX1_agreeWith 51 = .ok (.iconst 0, 1) := by decide +kernel
theorem dX1_agreeWith_52 : decode cX1_agreeWith 52 = .ok (.istore 4, 2) := by decide +kernel
theorem dX1_agreeWith_54 : decode cX1_agreeWith 54 = .ok (.iload 4, 2) := by decide +kernel
theorem dX1_agreeWith_56 : decode cX1_agreeWith 56 = .ok (.aload_n 0, 1) := by decide +kernel
theorem dX1_agreeWith_57 : decode cX1_agreeWith 57 = .ok (.getfield 18, 3) := by decide +kernel
theorem dX1_agreeWith_60 : decode cX1_agreeWith 60 = .ok (.iload_n 2, 1) := by decide +kernel
theorem dX1_agreeWith_61 : decode cX1_agreeWith 61 = .ok (.iaload, 1) := by decide +kernel
theorem dX1_agreeWith_62 : decode cX1_agreeWith 62 = .ok (.if_icmp .eq 5, 3) := by decide +kernel
theorem dX1_agreeWith_65 : decode cX1_agreeWith 65 = .ok (.iconst 0, 1) := by decide +kernel
theorem dX1_agreeWith_66 : decode cX1_agreeWith 66 = .ok (.ireturn, 1) := by decide +kernel
theorem dX1_agreeWith_67 : decode cX1_agreeWith 67 = .ok (.iinc 2 1, 3) := by decide +kernel
theorem dX1_agreeWith_70 : decode cX1_agreeWith 70 = .ok (.goto (-68), 3) := by decide +kernel
theorem dX1_agreeWith_73 : decode cX1_agreeWith 73 = .ok (.iconst 1, 1) := by decide +kernel
theorem dX1_agreeWith_74 : decode cX1_agreeWith 74 = .ok (.ireturn, 1) := by decide +kernel
theorem dX2_init_0 : decode cX2_init 0 = .ok (.aload_n 0, 1) := by decide +kernel
theorem dX2_init_1 : decode cX2_init 1 = .ok (.invokespecial 3, 3) := by decide +kernel
theorem dX2_init_4 : decode cX2_init 4 = .ok (.aload_n 0, 1) := by decide +kernel
theorem dX2_init_5 : decode cX2_init 5 = .ok (.bipush 12, 2) := by decide +kernel
theorem dX2_init_7 : decode cX2_init 7 = .ok (.newarray .int, 2) := by decide +kernel
theorem dX2_init_9 : decode cX2_init 9 = .ok (.putfield 9, 3) := by decide +kernel
theorem dX2_init_12 : decode cX2_init 12 = .ok (.return_, 1) := by decide +kernel
theorem dX2_write_0 : decode cX2_write 0 = .ok (.aload_n 0, 1) := by decide +kernel
theorem dX2_write_1 : decode cX2_write 1 = .ok (.getfield 15, 3) := by decide +kernel
theorem dX2_write_4 : decode cX2_write 4 = .ok (.ifCond .lt 12, 3) := by decide +kernel
theorem dX2_write_7 : decode cX2_write 7 = .ok (.aload_n 0, 1) := by decide +kernel
theorem dX2_write_8 : decode cX2_write 8 = .ok (.getfield 15, 3) := by decide +kernel
theorem dX2_write_11 : decode cX2_write 11 = .ok (.bipush 12, 2) := by decide +kernel
theorem dX2_write_13 : decode cX2_write 13 = .ok (.if_icmp .lt 5, 3) := by decide +kernel
theorem dX2_write_16 : decode cX2_write 16 = .ok (.iconst 0, 1) := by decide +kernel
theorem dX2_write_17 : decode cX2_write 17 = .ok (.ireturn, 1) := by decide +kernel
theorem dX2_write_18 : decode cX2_write 18 = .ok (.aload_n 0, 1) := by decide +kernel
theorem dX2_write_19 : decode cX2_write 19 = .ok (.getfield 9, 3) := by decide +kernel
theorem dX2_write_22 : decode cX2_write 22 = .ok (.aload_n 0, 1) := by decide +kernel
theorem dX2_write_23 : decode cX2_write 23 = .ok (.getfield 15, 3) := by decide +kernel
theorem dX2_write_26 : decode cX2_write 26 = .ok (.iload_n 1, 1) := by decide +kernel
theorem dX2_write_27 : decode cX2_write 27 = .ok (.iastore, 1) := by decide +kernel
theorem dX2_write_28 : decode cX2_write 28 = .ok (.aload_n 0, 1) := by decide +kernel
theorem dX2_write_29 : decode cX2_write 29 = .ok (.dup, 1) := by decide +kernel
theorem dX2_write_30 : decode cX2_write 30 = .ok (.getfield 15, 3) := by decide +kernel
theorem dX2_write_33 : decode cX2_write 33 = .ok (.iconst 1, 1) := by decide +kernel
theorem dX2_write_34 : decode cX2_write 34 = .ok (.iadd, 1) := by decide +kernel
theorem dX2_write_35 : decode cX2_write 35 = .ok (.putfield 15, 3) := by decide +kernel
theorem dX2_write_38 : decode cX2_write 38 = .ok (.iconst 1, 1) := by decide +kernel
theorem dX2_write_39 : decode cX2_write 39 = .ok (.ireturn, 1) := by decide +kernel
theorem dX2_goodLetters_0 : decode cX2_goodLetters 0 = .ok (.iconst 0, 1) := by decide +kernel
theorem dX2_goodLetters_1 : decode cX2_goodLetters 1 = .ok (.istore_n 1, 1) := by decide +kernel
theorem dX2_goodLetters_2 : decode cX2_goodLetters 2 = .ok (.iload_n 1, 1) := by decide +kernel
theorem dX2_goodLetters_3 : decode cX2_goodLetters 3 = .ok (.aload_n 0, 1) := by decide +kernel
theorem dX2_goodLetters_4 : decode cX2_goodLetters 4 = .ok (.getfield 15, 3) := by decide +kernel
theorem dX2_goodLetters_7 : decode cX2_goodLetters 7 = .ok (.if_icmp .ge 28, 3) := by decide +kernel
theorem dX2_goodLetters_10 : decode cX2_goodLetters 10 = .ok (.iload_n 1, 1) := by decide +kernel
theorem dX2_goodLetters_11 : decode cX2_goodLetters 11 = .ok (.bipush 9, 2) := by decide +kernel
theorem dX2_goodLetters_13 : decode cX2_goodLetters 13 = .ok (.if_icmp .ge 22, 3) := by decide +kernel
theorem dX2_goodLetters_16 : decode cX2_goodLetters 16 = .ok (.iload_n 1, 1) := by decide +kernel
theorem dX2_goodLetters_17 : decode cX2_goodLetters 17 = .ok (.aload_n 0, 1) := by decide +kernel
theorem dX2_goodLetters_18 : decode cX2_goodLetters 18 = .ok (.getfield 9, 3) := by decide +kernel
theorem dX2_goodLetters_21 : decode cX2_goodLetters 21 = .ok (.iload_n 1, 1) := by decide +kernel
theorem dX2_goodLetters_22 : decode cX2_goodLetters 22 = .ok (.iaload, 1) := by decide +kernel
theorem dX2_goodLetters_23 : decode cX2_goodLetters 23 = .ok (.invokestatic 19, 3) := by decide +kernel
theorem dX2_goodLetters_26 : decode cX2_goodLetters 26 = .ok (.ifCond .eq 9, 3) := by decide +kernel
theorem dX2_goodLetters_29 : decode cX2_goodLetters 29 = .ok (.iinc 1 1, 3) := by decide +kernel
theorem dX2_goodLetters_32 : decode cX2_goodLetters 32 = .ok (.goto (-30), 3) := by decide +kernel
theorem dX2_goodLetters_35 : decode cX2_goodLetters 35 = .ok (.iload_n 1, 1) := by decide +kernel
theorem dX2_goodLetters_36 : decode cX2_goodLetters 36 = .ok (.ireturn, 1) := by decide +kernel
theorem dX2_digit_0 : decode cX2_digit 0 = .ok (.iload_n 1, 1) := by decide +kernel
theorem dX2_digit_1 : decode cX2_digit 1 = .ok (.ifCond .lt 21, 3) := by decide +kernel
theorem dX2_digit_4 : decode cX2_digit 4 = .ok (.iload_n 1, 1) := by decide +kernel
theorem dX2_digit_5 : decode cX2_digit 5 = .ok (.bipush 12, 2) := by decide +kernel
theorem dX2_digit_7 : decode cX2_digit 7 = .ok (.if_icmp .ge 15, 3) := by decide +kernel
theorem dX2_digit_10 : decode cX2_digit 10 = .ok (.aload_n 0, 1) := by decide +kernel
theorem dX2_digit_11 : decode cX2_digit 11 = .ok (.getfield 9, 3) := by decide +kernel
theorem dX2_digit_14 : decode cX2_digit 14 = .ok (.iload_n 1, 1) := by decide +kernel
theorem dX2_digit_15 : decode cX2_digit 15 = .ok (.iaload, 1) := by decide +kernel
theorem dX2_digit_16 : decode cX2_digit 16 = .ok (.bipush 48, 2) := by decide +kernel
theorem dX2_digit_18 : decode cX2_digit 18 = .ok (.isub, 1) := by decide +kernel
theorem dX2_digit_19 : decode cX2_digit 19 = .ok (.goto 4, 3) := by decide +kernel
theorem dX2_digit_22 : decode cX2_digit 22 = .ok (.iconst 0, 1) := by decide +kernel
theorem dX2_digit_23 : decode cX2_digit 23 = .ok (.ireturn, 1) := by decide +kernel
theorem dX2_fits_0 : decode cX2_fits 0 = .ok (.iload_n 0, 1) := by decide +kernel
theorem dX2_fits_1 : decode cX2_fits 1 = .ok (.bipush 6, 2) := by decide +kernel
theorem dX2_fits_3 : decode cX2_fits 3 = .ok (.if_icmp .ne 15, 3) := by decide +kernel
theorem dX2_fits_6 : decode cX2_fits 6 = .ok (.iload_n 1, 1) := by decide +kernel
theorem dX2_fits_7 : decode cX2_fits 7 = .ok (.bipush 59, 2) := by decide +kernel
theorem dX2_fits_9 : decode cX2_fits 9 = .ok (.if_icmp .ne 7, 3) := by decide +kernel
theorem dX2_fits_12 : decode cX2_fits 12 = .ok (.iconst 1, 1) := by decide +kernel
theorem dX2_fits_13 : decode cX2_fits 13 = .ok (.goto 4, 3) := by decide +kernel
theorem dX2_fits_16 : decode cX2_fits 16 = .ok (.iconst 0, 1) := by decide +kernel
theorem dX2_fits_17 : decode cX2_fits 17 = .ok (.ireturn, 1) := by decide +kernel
theorem dX2_fits_18 : decode cX2_fits 18 = .ok (.iload_n 0, 1) := by decide +kernel
theorem dX2_fits_19 : decode cX2_fits 19 = .ok (.bipush 8, 2) := by decide +kernel
theorem dX2_fits_21 : decode cX2_fits 21 = .ok (.if_icmp .ne 8, 3) := by decide +kernel
theorem dX2_fits_24 : decode cX2_fits 24 = .ok (.bipush 49, 2) := by decide +kernel
theorem dX2_fits_26 : decode cX2_fits 26 = .ok (.goto 5, 3) := by decide +kernel
theorem dX2_fits_29 : decode cX2_fits 29 = .ok (.bipush 48, 2) := by decide +kernel
theorem dX2_fits_31 : decode cX2_fits 31 = .ok (.istore_n 2, 1) := by decide +kernel
theorem dX2_fits_32 : decode cX2_fits 32 = .ok (.iload_n 1, 1) := by decide +kernel
theorem dX2_fits_33 : decode cX2_fits 33 = .ok (.iload_n 2, 1) := by decide +kernel
theorem dX2_fits_34 : decode cX2_fits 34 = .ok (.if_icmp .lt 13, 3) := by decide +kernel
theorem dX2_fits_37 : decode cX2_fits 37 = .ok (.iload_n 1, 1) := by decide +kernel
theorem dX2_fits_38 : decode cX2_fits 38 = .ok (.bipush 57, 2) := by decide +kernel
theorem dX2_fits_40 : decode cX2_fits 40 = .ok (.if_icmp .gt 7, 3) := by decide +kernel
theorem dX2_fits_43 : decode cX2_fits 43 = .ok (.iconst 1, 1) := by decide +kernel
theorem dX2_fits_44 : decode cX2_fits 44 = .ok (.goto 4, 3) := by decide +kernel
theorem dX2_fits_47 : decode cX2_fits 47 = .ok (.iconst 0, 1) := by decide +kernel
theorem dX2_fits_48 : decode cX2_fits 48 = .ok (.ireturn, 1) := by decide +kernel
theorem dX3_init_0 : decode cX3_init 0 = .ok (.aload_n 0, 1) := by decide +kernel
theorem dX3_init_1 : decode cX3_init 1 = .ok (.invokespecial 3, 3) := by decide +kernel
theorem dX3_init_4 : decode cX3_init 4 = .ok (.aload_n 0, 1) := by decide +kernel
theorem dX3_init_5 : decode cX3_init 5 = .ok (.bipush 6, 2) := by decide +kernel
theorem dX3_init_7 : decode cX3_init 7 = .ok (.newarray .int, 2) := by decide +kernel
theorem dX3_init_9 : decode cX3_init 9 = .ok (.putfield 9, 3) := by decide +kernel
theorem dX3_init_12 : decode cX3_init 12 = .ok (.aload_n 0, 1) := by decide +kernel
theorem dX3_init_13 : decode cX3_init 13 = .ok (.bipush 6, 2) := by decide +kernel
theorem dX3_init_15 : decode cX3_init 15 = .ok (.newarray .int, 2) := by decide +kernel
theorem dX3_init_17 : decode cX3_init 17 = .ok (.putfield 15, 3) := by decide +kernel
theorem dX3_init_20 : decode cX3_init 20 = .ok (.aload_n 0, 1) := by decide +kernel
theorem dX3_init_21 : decode cX3_init 21 = .ok (.bipush 6, 2) := by decide +kernel
theorem dX3_init_23 : decode cX3_init 23 = .ok (.newarray .int, 2) := by decide +kernel
theorem dX3_init_25 : decode cX3_init 25 = .ok (.putfield 18, 3) := by decide +kernel
theorem dX3_init_28 : decode cX3_init 28 = .ok (.return_, 1) := by decide +kernel
theorem dX3_copyFrom_0 : decode cX3_copyFrom 0 = .ok (.aload_n 1, 1) := by decide +kernel
theorem dX3_copyFrom_1 : decode cX3_copyFrom 1 = .ok (.getfield 9, 3) := by decide +kernel
theorem dX3_copyFrom_4 : decode cX3_copyFrom 4 = .ok (.iconst 0, 1) := by decide +kernel
theorem dX3_copyFrom_5 : decode cX3_copyFrom 5 = .ok (.aload_n 0, 1) := by decide +kernel
theorem dX3_copyFrom_6 : decode cX3_copyFrom 6 = .ok (.getfield 9, 3) := by decide +kernel
theorem dX3_copyFrom_9 : decode cX3_copyFrom 9 = .ok (.iconst 0, 1) := by decide +kernel
theorem dX3_copyFrom_10 : decode cX3_copyFrom 10 = .ok (.bipush 6, 2) := by decide +kernel
theorem dX3_copyFrom_12 : decode cX3_copyFrom 12 = .ok (.invokestatic 21, 3) := by decide +kernel
theorem dX3_copyFrom_15 : decode cX3_copyFrom 15 = .ok (.aload_n 1, 1) := by decide +kernel
theorem dX3_copyFrom_16 : decode cX3_copyFrom 16 = .ok (.getfield 15, 3) := by decide +kernel
theorem dX3_copyFrom_19 : decode cX3_copyFrom 19 = .ok (.iconst 0, 1) := by decide +kernel
theorem dX3_copyFrom_20 : decode cX3_copyFrom 20 = .ok (.aload_n 0, 1) := by decide +kernel
theorem dX3_copyFrom_21 : decode cX3_copyFrom 21 = .ok (.getfield 15, 3) := by decide +kernel
theorem dX3_copyFrom_24 : decode cX3_copyFrom 24 = .ok (.iconst 0, 1) := by decide +kernel
theorem dX3_copyFrom_25 : decode cX3_copyFrom 25 = .ok (.bipush 6, 2) := by decide +kernel
theorem dX3_copyFrom_27 : decode cX3_copyFrom 27 = .ok (.invokestatic 21, 3) := by decide +kernel
theorem dX3_copyFrom_30 : decode cX3_copyFrom 30 = .ok (.return_, 1) := by decide +kernel
theorem dX3_stands_0 : decode cX3_stands 0 = .ok (.iload_n 1, 1) := by decide +kernel
theorem dX3_stands_1 : decode cX3_stands 1 = .ok (.ifCond .lt 22, 3) := by decide +kernel
theorem dX3_stands_4 : decode cX3_stands 4 = .ok (.iload_n 1, 1) := by decide +kernel
theorem dX3_stands_5 : decode cX3_stands 5 = .ok (.bipush 6, 2) := by decide +kernel
theorem dX3_stands_7 : decode cX3_stands 7 = .ok (.if_icmp .ge 16, 3) := by decide +kernel
theorem dX3_stands_10 : decode cX3_stands 10 = .ok (.aload_n 0, 1) := by decide +kernel
theorem dX3_stands_11 : decode cX3_stands 11 = .ok (.getfield 9, 3) := by decide +kernel
theorem dX3_stands_14 : decode cX3_stands 14 = .ok (.iload_n 1, 1) := by decide +kernel
theorem dX3_stands_15 : decode cX3_stands 15 = .ok (.iaload, 1) := by decide +kernel
theorem dX3_stands_16 : decode cX3_stands 16 = .ok (.ifCond .le 7, 3) := by decide +kernel
theorem dX3_stands_19 : decode cX3_stands 19 = .ok (.iconst 1, 1) := by decide +kernel
theorem dX3_stands_20 : decode cX3_stands 20 = .ok (.goto 4, 3) := by decide +kernel
theorem dX3_stands_23 : decode cX3_stands 23 = .ok (.iconst 0, 1) := by decide +kernel
theorem dX3_stands_24 : decode cX3_stands 24 = .ok (.ireturn, 1) := by decide +kernel
theorem dX3_standing_0 : decode cX3_standing 0 = .ok (.iconst 0, 1) := by decide +kernel
theorem dX3_standing_1 : decode cX3_standing 1 = .ok (.istore_n 1, 1) := by decide +kernel
theorem dX3_standing_2 : decode cX3_standing 2 = .ok (.iconst 0, 1) := by decide +kernel
theorem dX3_standing_3 : decode cX3_standing 3 = .ok (.istore_n 2, 1) := by decide +kernel
theorem dX3_standing_4 : decode cX3_standing 4 = .ok (.iload_n 2, 1) := by decide +kernel
theorem dX3_standing_5 : decode cX3_standing 5 = .ok (.bipush 6, 2) := by decide +kernel
theorem dX3_standing_7 : decode cX3_standing 7 = .ok (.if_icmp .ge 26, 3) := by decide +kernel
theorem dX3_standing_10 : decode cX3_standing 10 = .ok (.iload_n 1, 1) := by decide +kernel
theorem dX3_standing_11 : decode cX3_standing 11 = .ok (.aload_n 0, 1) := by decide +kernel
theorem dX3_standing_12 : decode cX3_standing 12 = .ok (.getfield 9, 3) := by decide +kernel
theorem dX3_standing_15 : decode cX3_standing 15 = .ok (.iload_n 2, 1) := by decide +kernel
theorem dX3_standing_16 : decode cX3_standing 16 = .ok (.iaload, 1) := by decide +kernel
theorem dX3_standing_17 : decode cX3_standing 17 = .ok (.ifCond .le 7, 3) := by decide +kernel
theorem dX3_standing_20 : decode cX3_standing 20 = .ok (.iconst 1, 1) := by decide +kernel
theorem dX3_standing_21 : decode cX3_standing 21 = .ok (.goto 4, 3) := by decide +kernel
theorem dX3_standing_24 : decode cX3_standing 24 = .ok (.iconst 0, 1) := by decide +kernel
theorem dX3_standing_25 : decode cX3_standing 25 = .ok (.iadd, 1) := by decide +kernel
theorem dX3_standing_26 : decode cX3_standing 26 = .ok (.istore_n 1, 1) := by decide +kernel
theorem dX3_standing_27 : decode cX3_standing 27 = .ok (.iinc 2 1, 3) := by decide +kernel
theorem dX3_standing_30 : decode cX3_standing 30 = .ok (.goto (-26), 3) := by decide +kernel
theorem dX3_standing_33 : decode cX3_standing 33 = .ok (.iload_n 1, 1) := by decide +kernel
theorem dX3_standing_34 : decode cX3_standing 34 = .ok (.ireturn, 1) := by decide +kernel
theorem dX3_firstFallen_0 : decode cX3_firstFallen 0 = .ok (.iconst 0, 1) := by decide +kernel
theorem dX3_firstFallen_1 : decode cX3_firstFallen 1 = .ok (.istore_n 1, 1) := by decide +kernel
theorem dX3_firstFallen_2 : decode cX3_firstFallen 2 = .ok (.iload_n 1, 1) := by decide +kernel
theorem dX3_firstFallen_3 : decode cX3_firstFallen 3 = .ok (.bipush 6, 2) := by decide +kernel
theorem dX3_firstFallen_5 : decode cX3_firstFallen 5 = .ok (.if_icmp .ge 18, 3) := by decide +kernel
theorem dX3_firstFallen_8 : decode cX3_firstFallen 8 = .ok (.aload_n 0, 1) := by decide +kernel
theorem dX3_firstFallen_9 : decode cX3_firstFallen 9 = .ok (.getfield 9, 3) := by decide +kernel
theorem dX3_firstFallen_12 : decode cX3_firstFallen 12 = .ok (.iload_n 1, 1) := by decide +kernel
theorem dX3_firstFallen_13 : decode cX3_firstFallen 13 = .ok (.iaload, 1) := by decide +kernel
theorem dX3_firstFallen_14 : decode cX3_firstFallen 14 = .ok (.ifCond .le 9, 3) := by decide +kernel
theorem dX3_firstFallen_17 : decode cX3_firstFallen 17 = .ok (.iinc 1 1, 3) := by decide +kernel
theorem dX3_firstFallen_20 : decode cX3_firstFallen 20 = .ok (.goto (-18), 3) := by decide +kernel
theorem dX3_firstFallen_23 : decode cX3_firstFallen 23 = .ok (.iload_n 1, 1) := by decide +kernel
theorem dX3_firstFallen_24 : decode cX3_firstFallen 24 = .ok (.ireturn, 1) := by decide +kernel
theorem dX3_lossAt_0 : decode cX3_lossAt 0 = .ok (.iload_n 1, 1) := by decide +kernel
theorem dX3_lossAt_1 : decode cX3_lossAt 1 = .ok (.ifCond .lt 18, 3) := by decide +kernel
theorem dX3_lossAt_4 : decode cX3_lossAt 4 = .ok (.iload_n 1, 1) := by decide +kernel
theorem dX3_lossAt_5 : decode cX3_lossAt 5 = .ok (.bipush 6, 2) := by decide +kernel
theorem dX3_lossAt_7 : decode cX3_lossAt 7 = .ok (.if_icmp .ge 12, 3) := by decide +kernel
theorem dX3_lossAt_10 : decode cX3_lossAt 10 = .ok (.aload_n 0, 1) := by decide +kernel
theorem dX3_lossAt_11 : decode cX3_lossAt 11 = .ok (.getfield 9, 3) := by decide +kernel
theorem dX3_lossAt_14 : decode cX3_lossAt 14 = .ok (.iload_n 1, 1) := by decide +kernel
theorem dX3_lossAt_15 : decode cX3_lossAt 15 = .ok (.iaload, 1) := by decide +kernel
theorem dX3_lossAt_16 : decode cX3_lossAt 16 = .ok (.ifCond .gt 5, 3) := by decide +kernel
theorem dX3_lossAt_19 : decode cX3_lossAt 19 = .ok (.iconst 0, 1) := by decide +kernel
theorem dX3_lossAt_20 : decode cX3_lossAt 20 = .ok (.ireturn, 1) := by decide +kernel
theorem dX3_lossAt_21 : decode cX3_lossAt 21 = .ok (.iload_n 1, 1) := by decide +kernel
theorem dX3_lossAt_22 : decode cX3_lossAt 22 = .ok (.ifCond .le 14, 3) := by decide +kernel
theorem dX3_lossAt_25 : decode cX3_lossAt 25 = .ok (.aload_n 0, 1) := by decide +kernel
theorem dX3_lossAt_26 : decode cX3_lossAt 26 = .ok (.getfield 9, 3) := by decide +kernel
theorem dX3_lossAt_29 : decode cX3_lossAt 29 = .ok (.iload_n 1, 1) := by decide +kernel
theorem dX3_lossAt_30 : decode cX3_lossAt 30 = .ok (.iconst 1, 1) := by decide +kernel
theorem dX3_lossAt_31 : decode cX3_lossAt 31 = .ok (.isub, 1) := by decide +kernel
theorem dX3_lossAt_32 : decode cX3_lossAt 32 = .ok (.iaload, 1) := by decide +kernel
theorem dX3_lossAt_33 : decode cX3_lossAt 33 = .ok (.ifCond .le 19, 3) := by decide +kernel
theorem dX3_lossAt_36 : decode cX3_lossAt 36 = .ok (.iload_n 1, 1) := by decide +kernel
theorem dX3_lossAt_37 : decode cX3_lossAt 37 = .ok (.iconst 5, 1) := by decide +kernel
theorem dX3_lossAt_38 : decode cX3_lossAt 38 = .ok (.if_icmp .ge 18, 3) := by decide +kernel
theorem dX3_lossAt_41 : decode cX3_lossAt 41 = .ok (.aload_n 0, 1) := by decide +kernel
theorem dX3_lossAt_42 : decode cX3_lossAt 42 = .ok (.getfield 9, 3) := by decide +kernel
theorem dX3_lossAt_45 : decode cX3_lossAt 45 = .ok (.iload_n 1, 1) := by decide +kernel
theorem dX3_lossAt_46 : decode cX3_lossAt 46 = .ok (.iconst 1, 1) := by decide +kernel
theorem dX3_lossAt_47 : decode cX3_lossAt 47 = .ok (.iadd, 1) := by decide +kernel
theorem dX3_lossAt_48 : decode cX3_lossAt 48 = .ok (.iaload, 1) := by decide +kernel
theorem dX3_lossAt_49 : decode cX3_lossAt 49 = .ok (.ifCond .gt 7, 3) := by decide +kernel
theorem dX3_lossAt_52 : decode cX3_lossAt 52 = .ok (.iconst 1, 1) := by decide +kernel
theorem dX3_lossAt_53 : decode cX3_lossAt 53 = .ok (.goto 4, 3) := by decide +kernel
theorem dX3_lossAt_56 : decode cX3_lossAt 56 = .ok (.iconst 0, 1) := by decide +kernel
theorem dX3_lossAt_57 : decode cX3_lossAt 57 = .ok (.istore_n 2, 1) := by decide +kernel
theorem dX3_lossAt_58 : decode cX3_lossAt 58 = .ok (.aload_n 0, 1) := by decide +kernel
theorem dX3_lossAt_59 : decode cX3_lossAt 59 = .ok (.getfield 15, 3) := by decide +kernel
theorem dX3_lossAt_62 : decode cX3_lossAt 62 = .ok (.iload_n 1, 1) := by decide +kernel
theorem dX3_lossAt_63 : decode cX3_lossAt 63 = .ok (.iaload, 1) := by decide +kernel
theorem dX3_lossAt_64 : decode cX3_lossAt 64 = .ok (.iload_n 2, 1) := by decide +kernel
theorem dX3_lossAt_65 : decode cX3_lossAt 65 = .ok (.ifCond .eq 7, 3) := by decide +kernel
theorem dX3_lossAt_68 : decode cX3_lossAt 68 = .ok (.iconst 1, 1) := by decide +kernel
theorem dX3_lossAt_69 : decode cX3_lossAt 69 = .ok (.goto 4, 3) := by decide +kernel
theorem dX3_lossAt_72 : decode cX3_lossAt 72 = .ok (.iconst 0, 1) := by decide +kernel
theorem dX3_lossAt_73 : decode cX3_lossAt 73 = .ok (.iadd, 1) := by decide +kernel
theorem dX3_lossAt_74 : decode cX3_lossAt 74 = .ok (.ireturn, 1) := by decide +kernel
theorem dX3_passDay_0 : decode cX3_passDay 0 = .ok (.iconst 0, 1) := by decide +kernel
theorem dX3_passDay_1 : decode cX3_passDay 1 = .ok (.istore_n 1, 1) := by decide +kernel
theorem dX3_passDay_2 : decode cX3_passDay 2 = .ok (.iload_n 1, 1) := by decide +kernel
theorem dX3_passDay_3 : decode cX3_passDay 3 = .ok (.bipush 6, 2) := by decide +kernel
theorem dX3_passDay_5 : decode cX3_passDay 5 = .ok (.if_icmp .ge 20, 3) := by decide +kernel
theorem dX3_passDay_8 : decode cX3_passDay 8 = .ok (.aload_n 0, 1) := by decide +kernel
theorem dX3_passDay_9 : decode cX3_passDay 9 = .ok (.getfield 18, 3) := by decide +kernel
theorem dX3_passDay_12 : decode cX3_passDay 12 = .ok (.iload_n 1, 1) := by decide +kernel
theorem dX3_passDay_13 : decode cX3_passDay 13 = .ok (.aload_n 0, 1) := by decide +kernel
theorem dX3_passDay_14 : decode cX3_passDay 14 = .ok (.iload_n 1, 1) := by decide +kernel
theorem dX3_passDay_15 : decode cX3_passDay 15 = .ok (.invokevirtual 27, 3) := by decide +kernel
theorem dX3_passDay_18 : decode cX3_passDay 18 = .ok (.iastore, 1) := by decide +kernel
theorem dX3_passDay_19 : decode cX3_passDay 19 = .ok (.iinc 1 1, 3) := by decide +kernel
theorem dX3_passDay_22 : decode cX3_passDay 22 = .ok (.goto (-20), 3) := by decide +kernel
theorem dX3_passDay_25 : decode cX3_passDay 25 = .ok (.iconst 0, 1) := by decide +kernel
theorem dX3_passDay_26 : decode cX3_passDay 26 = .ok (.istore_n 1, 1) := by decide +kernel
theorem dX3_passDay_27 : decode cX3_passDay 27 = .ok (.iconst 0, 1) := by decide +kernel
theorem dX3_passDay_28 : decode cX3_passDay 28 = .ok (.istore_n 2, 1) := by decide +kernel
theorem dX3_passDay_29 : decode cX3_passDay 29 = .ok (.iload_n 2, 1) := by decide +kernel
theorem dX3_passDay_30 : decode cX3_passDay 30 = .ok (.bipush 6, 2) := by decide +kernel
theorem dX3_passDay_32 : decode cX3_passDay 32 = .ok (.if_icmp .ge 58, 3) := by decide +kernel
theorem dX3_passDay_35 : decode cX3_passDay 35 = .ok (.aload_n 0, 1) := by decide +kernel
theorem dX3_passDay_36 : decode cX3_passDay 36 = .ok (.getfield 9, 3) := by decide +kernel
theorem dX3_passDay_39 : decode cX3_passDay 39 = .ok (.iload_n 2, 1) := by decide +kernel
theorem dX3_passDay_40 : decode cX3_passDay 40 = .ok (.iaload, 1) := by decide +kernel
theorem dX3_passDay_41 : decode cX3_passDay 41 = .ok (.ifCond .le 43, 3) := by decide +kernel
theorem dX3_passDay_44 : decode cX3_passDay 44 = .ok (.aload_n 0, 1) := by decide +kernel
theorem dX3_passDay_45 : decode cX3_passDay 45 = .ok (.getfield 9, 3) := by decide +kernel
theorem dX3_passDay_48 : decode cX3_passDay 48 = .ok (.iload_n 2, 1) := by decide +kernel
theorem dX3_passDay_49 : decode cX3_passDay 49 = .ok (.iconst 0, 1) := by decide +kernel
theorem dX3_passDay_50 : decode cX3_passDay 50 = .ok (.aload_n 0, 1) := by decide +kernel
theorem dX3_passDay_51 : decode cX3_passDay 51 = .ok (.getfield 9, 3) := by decide +kernel
theorem dX3_passDay_54 : decode cX3_passDay 54 = .ok (.iload_n 2, 1) := by decide +kernel
theorem dX3_passDay_55 : decode cX3_passDay 55 = .ok (.iaload, 1) := by decide +kernel
theorem dX3_passDay_56 : decode cX3_passDay 56 = .ok (.aload_n 0, 1) := by decide +kernel
theorem dX3_passDay_57 : decode cX3_passDay 57 = .ok (.getfield 18, 3) := by decide +kernel
theorem dX3_passDay_60 : decode cX3_passDay 60 = .ok (.iload_n 2, 1) := by decide +kernel
theorem dX3_passDay_61 : decode cX3_passDay 61 = .ok (.iaload, 1) := by decide +kernel
theorem dX3_passDay_62 : decode cX3_passDay 62 = .ok (.isub, 1) := by decide +kernel
theorem dX3_passDay_63 : decode cX3_passDay 63 = .ok (.invokestatic 31, 3) := by decide +kernel
theorem dX3_passDay_66 : decode cX3_passDay 66 = .ok (.iastore, 1) := by decide +kernel
theorem dX3_passDay_67 : decode cX3_passDay 67 = .ok (.iload_n 1, 1) := by decide +kernel
theorem dX3_passDay_68 : decode cX3_passDay 68 = .ok (.aload_n 0, 1) := by decide +kernel
theorem dX3_passDay_69 : decode cX3_passDay 69 = .ok (.getfield 9, 3) := by decide +kernel
theorem dX3_passDay_72 : decode cX3_passDay 72 = .ok (.iload_n 2, 1) := by decide +kernel
theorem dX3_passDay_73 : decode cX3_passDay 73 = .ok (.iaload, 1) := by decide +kernel
theorem dX3_passDay_74 : decode cX3_passDay 74 = .ok (.ifCond .ne 7, 3) := by decide +kernel
theorem dX3_passDay_77 : decode cX3_passDay 77 = .ok (.iconst 1, 1) := by decide +kernel
theorem dX3_passDay_78 : decode cX3_passDay 78 = .ok (.goto 4, 3) := by decide +kernel
theorem dX3_passDay_81 : decode cX3_passDay 81 = .ok (.iconst 0, 1) := by decide +kernel
theorem dX3_passDay_82 : decode cX3_passDay 82 = .ok (.iadd, 1) := by decide +kernel
theorem dX3_passDay_83 : decode cX3_passDay 83 = .ok (.istore_n 1, 1) := by decide +kernel
theorem dX3_passDay_84 : decode cX3_passDay 84 = .ok (.iinc 2 1, 3) := by decide +kernel
theorem dX3_passDay_87 : decode cX3_passDay 87 = .ok (.goto (-58), 3) := by decide +kernel
theorem dX3_passDay_90 : decode cX3_passDay 90 = .ok (.iload_n 1, 1) := by decide +kernel
theorem dX3_passDay_91 : decode cX3_passDay 91 = .ok (.ireturn, 1) := by decide +kernel
theorem dX3_firstFall_0 : decode cX3_firstFall 0 = .ok (.bipush 41, 2) := by decide +kernel
theorem dX3_firstFall_2 : decode cX3_firstFall 2 = .ok (.istore_n 1, 1) := by decide +kernel
theorem dX3_firstFall_3 : decode cX3_firstFall 3 = .ok (.iconst 0, 1) := by decide +kernel
theorem dX3_firstFall_4 : decode cX3_firstFall 4 = .ok (.istore_n 2, 1) := by decide +kernel
theorem dX3_firstFall_5 : decode cX3_firstFall 5 = .ok (.iload_n 2, 1) := by decide +kernel
theorem dX3_firstFall_6 : decode cX3_firstFall 6 = .ok (.bipush 6, 2) := by decide +kernel
theorem dX3_firstFall_8 : decode cX3_firstFall 8 = .ok (.if_icmp .ge 36, 3) := by decide +kernel
theorem dX3_firstFall_11 : decode cX3_firstFall 11 = .ok (.aload_n 0, 1) := by decide +kernel
theorem dX3_firstFall_12 : decode cX3_firstFall 12 = .ok (.iload_n 2, 1) := by decide +kernel
theorem dX3_firstFall_13 : decode cX3_firstFall 13 = .ok (.invokevirtual 27, 3) := by decide +kernel
theorem dX3_firstFall_16 : decode cX3_firstFall 16 = .ok (.istore_n 3, 1) := by decide +kernel
theorem dX3_firstFall_17 : decode cX3_firstFall 17 = .ok (.iload_n 3, 1) := by decide +kernel
theorem dX3_firstFall_18 : decode cX3_firstFall 18 = .ok (.ifCond .le 20, 3) := by decide +kernel
theorem dX3_firstFall_21 : decode cX3_firstFall 21 = .ok (.iload_n 1, 1) := by decide +kernel
theorem dX3_firstFall_22 : decode cX3_firstFall 22 = .ok (.aload_n 0, 1) := by decide +kernel
theorem dX3_firstFall_23 : decode cX3_firstFall 23 = .ok (.getfield 9, 3) := by decide +kernel
theorem dX3_firstFall_26 : decode cX3_firstFall 26 = .ok (.iload_n 2, 1) := by decide +kernel
theorem dX3_firstFall_27 : decode cX3_firstFall 27 = .ok (.iaload, 1) := by decide +kernel
theorem dX3_firstFall_28 : decode cX3_firstFall 28 = .ok (.iload_n 3, 1) := by decide +kernel
theorem dX3_firstFall_29 : decode cX3_firstFall 29 = .ok (.iadd, 1) := by decide +kernel
theorem dX3_firstFall_30 : decode cX3_firstFall 30 = .ok (.iconst 1, 1) := by decide +kernel
theorem dX3_firstFall_31 : decode cX3_firstFall 31 = .ok (.isub, 1) := by decide +kernel
theorem dX3_firstFall_32 : decode cX3_firstFall 32 = .ok (.iload_n 3, 1) := by decide +kernel
theorem dX3_firstFall_33 : decode cX3_firstFall 33 = .ok (.idiv, 1) := by decide +kernel
theorem dX3_firstFall_34 : decode cX3_firstFall 34 = .ok (.invokestatic 37, 3) := by decide +kernel
theorem dX3_firstFall_37 : decode cX3_firstFall 37 = .ok (.istore_n 1, 1) := by decide +kernel
theorem dX3_firstFall_38 : decode cX3_firstFall 38 = .ok (.iinc 2 1, 3) := by decide +kernel
theorem dX3_firstFall_41 : decode cX3_firstFall 41 = .ok (.goto (-36), 3) := by decide +kernel
theorem dX3_firstFall_44 : decode cX3_firstFall 44 = .ok (.iload_n 1, 1) := by decide +kernel
theorem dX3_firstFall_45 : decode cX3_firstFall 45 = .ok (.ireturn, 1) := by decide +kernel
theorem dX3_propsNeeded_0 : decode cX3_propsNeeded 0 = .ok (.iconst 0, 1) := by decide +kernel
theorem dX3_propsNeeded_1 : decode cX3_propsNeeded 1 = .ok (.istore_n 2, 1) := by decide +kernel
theorem dX3_propsNeeded_2 : decode cX3_propsNeeded 2 = .ok (.iconst 0, 1) := by decide +kernel
theorem dX3_propsNeeded_3 : decode cX3_propsNeeded 3 = .ok (.istore_n 3, 1) := by decide +kernel
theorem dX3_propsNeeded_4 : decode cX3_propsNeeded 4 = .ok (.iload_n 3, 1) := by decide +kernel
theorem dX3_propsNeeded_5 : decode cX3_propsNeeded 5 = .ok (.bipush 6, 2) := by decide +kernel
theorem dX3_propsNeeded_7 : decode cX3_propsNeeded 7 = .ok (.if_icmp .ge 30, 3) := by decide +kernel
theorem dX3_propsNeeded_10 : decode cX3_propsNeeded 10 = .ok (.aload_n 0, 1) := by decide +kernel
theorem dX3_propsNeeded_11 : decode cX3_propsNeeded 11 = .ok (.iload_n 3, 1) := by decide +kernel
theorem dX3_propsNeeded_12 : decode cX3_propsNeeded 12 = .ok (.iload_n 1, 1) := by decide +kernel
theorem dX3_propsNeeded_13 : decode cX3_propsNeeded 13 = .ok (.invokevirtual 40, 3) := by decide +kernel
theorem dX3_propsNeeded_16 : decode cX3_propsNeeded 16 = .ok (.istore 4, 2) := by decide +kernel
theorem dX3_propsNeeded_18 : decode cX3_propsNeeded 18 = .ok (.iload 4, 2) := by decide +kernel
theorem dX3_propsNeeded_20 : decode cX3_propsNeeded 20 = .ok (.iconst (-1), 1) := by decide +kernel
theorem dX3_propsNeeded_21 : decode cX3_propsNeeded 21 = .ok (.if_icmp .ne 5, 3) := by decide +kernel
theorem dX3_propsNeeded_24 : decode cX3_propsNeeded 24 = .ok (.iconst (-1), 1) := by decide +kernel
theorem dX3_propsNeeded_25 : decode cX3_propsNeeded 25 = .ok (.ireturn, 1) := by decide +kernel
theorem dX3_propsNeeded_26 : decode cX3_propsNeeded 26 = .ok (.iload_n 2, 1) := by decide +kernel
theorem dX3_propsNeeded_27 : decode cX3_propsNeeded 27 = .ok (.iload 4, 2) := by decide +kernel
theorem dX3_propsNeeded_29 : decode cX3_propsNeeded 29 = .ok (.iadd, 1) := by decide +kernel
theorem dX3_propsNeeded_30 : decode cX3_propsNeeded 30 = .ok (.istore_n 2, 1) := by decide +kernel
theorem dX3_propsNeeded_31 : decode cX3_propsNeeded 31 = .ok (.iinc 3 1, 3) := by decide +kernel
theorem dX3_propsNeeded_34 : decode cX3_propsNeeded 34 = .ok (.goto (-30), 3) := by decide +kernel
theorem dX3_propsNeeded_37 : decode cX3_propsNeeded 37 = .ok (.iload_n 2, 1) := by decide +kernel
theorem dX3_propsNeeded_38 : decode cX3_propsNeeded 38 = .ok (.ireturn, 1) := by decide +kernel
theorem dX3_propsNeededAt_0 : decode cX3_propsNeededAt 0 = .ok (.aload_n 0, 1) := by decide +kernel
theorem dX3_propsNeededAt_1 : decode cX3_propsNeededAt 1 = .ok (.iload_n 1, 1) := by decide +kernel
theorem dX3_propsNeededAt_2 : decode cX3_propsNeededAt 2 = .ok (.invokevirtual 43, 3) := by decide +kernel
theorem dX3_propsNeededAt_5 : decode cX3_propsNeededAt 5 = .ok (.ifCond .ne 5, 3) := by decide +kernel
theorem dX3_propsNeededAt_8 : decode cX3_propsNeededAt 8 = .ok (.iconst 0, 1) := by decide +kernel
theorem dX3_propsNeededAt_9 : decode cX3_propsNeededAt 9 = .ok (.ireturn, 1) := by decide +kernel
theorem dX3_propsNeededAt_10 : decode cX3_propsNeededAt 10 = .ok (.aload_n 0, 1) := by decide +kernel
theorem dX3_propsNeededAt_11 : decode cX3_propsNeededAt 11 = .ok (.iload_n 1, 1) := by decide +kernel
theorem dX3_propsNeededAt_12 : decode cX3_propsNeededAt 12 = .ok (.invokevirtual 27, 3) := by decide +kernel
theorem dX3_propsNeededAt_15 : decode cX3_propsNeededAt 15 = .ok (.iload_n 2, 1) := by decide +kernel
theorem dX3_propsNeededAt_16 : decode cX3_propsNeededAt 16 = .ok (.imul, 1) := by decide +kernel
theorem dX3_propsNeededAt_17 : decode cX3_propsNeededAt 17 = .ok (.iconst 1, 1) := by decide +kernel
theorem dX3_propsNeededAt_18 : decode cX3_propsNeededAt 18 = .ok (.iadd, 1) := by decide +kernel
theorem dX3_propsNeededAt_19 : decode cX3_propsNeededAt 19 = .ok (.aload_n 0, 1) := by decide +kernel
theorem dX3_propsNeededAt_20 : decode cX3_propsNeededAt 20 = .ok (.getfield 9, 3) := by decide +kernel
theorem dX3_propsNeededAt_23 : decode cX3_propsNeededAt 23 = .ok (.iload_n 1, 1) := by decide +kernel
theorem dX3_propsNeededAt_24 : decode cX3_propsNeededAt 24 = .ok (.iaload, 1) := by decide +kernel
theorem dX3_propsNeededAt_25 : decode cX3_propsNeededAt 25 = .ok (.isub, 1) := by decide +kernel
theorem dX3_propsNeededAt_26 : decode cX3_propsNeededAt 26 = .ok (.istore_n 3, 1) := by decide +kernel
theorem dX3_propsNeededAt_27 : decode cX3_propsNeededAt 27 = .ok (.iload_n 3, 1) := by decide +kernel
theorem dX3_propsNeededAt_28 : decode cX3_propsNeededAt 28 = .ok (.ifCond .gt 5, 3) := by decide +kernel
theorem dX3_propsNeededAt_31 : decode cX3_propsNeededAt 31 = .ok (.iconst 0, 1) := by decide +kernel
theorem dX3_propsNeededAt_32 : decode cX3_propsNeededAt 32 = .ok (.ireturn, 1) := by decide +kernel
theorem dX3_propsNeededAt_33 : decode cX3_propsNeededAt 33 = .ok (.iload_n 3, 1) := by decide +kernel
theorem dX3_propsNeededAt_34 : decode cX3_propsNeededAt 34 = .ok (.iconst 3, 1) := by decide +kernel
theorem dX3_propsNeededAt_35 : decode cX3_propsNeededAt 35 = .ok (.iadd, 1) := by decide +kernel
theorem dX3_propsNeededAt_36 : decode cX3_propsNeededAt 36 = .ok (.iconst 1, 1) := by decide +kernel
theorem dX3_propsNeededAt_37 : decode cX3_propsNeededAt 37 = .ok (.isub, 1) := by decide +kernel
theorem dX3_propsNeededAt_38 : decode cX3_propsNeededAt 38 = .ok (.iconst 3, 1) := by decide +kernel
theorem dX3_propsNeededAt_39 : decode cX3_propsNeededAt 39 = .ok (.idiv, 1) := by decide +kernel
theorem dX3_propsNeededAt_40 : decode cX3_propsNeededAt 40 = .ok (.istore 4, 2) := by decide +kernel
theorem dX3_propsNeededAt_42 : decode cX3_propsNeededAt 42 = .ok (.aload_n 0, 1) := by decide +kernel
theorem dX3_propsNeededAt_43 : decode cX3_propsNeededAt 43 = .ok (.getfield 9, 3) := by decide +kernel
theorem dX3_propsNeededAt_46 : decode cX3_propsNeededAt 46 = .ok (.iload_n 1, 1) := by decide +kernel
theorem dX3_propsNeededAt_47 : decode cX3_propsNeededAt 47 = .ok (.iaload, 1) := by decide +kernel
theorem dX3_propsNeededAt_48 : decode cX3_propsNeededAt 48 = .ok (.iload 4, 2) := by decide +kernel
theorem dX3_propsNeededAt_50 : decode cX3_propsNeededAt 50 = .ok (.iconst 3, 1) := by decide +kernel
theorem dX3_propsNeededAt_51 : decode cX3_propsNeededAt 51 = .ok (.imul, 1) := by decide +kernel
theorem dX3_propsNeededAt_52 : decode cX3_propsNeededAt 52 = .ok (.iadd, 1) := by decide +kernel
theorem dX3_propsNeededAt_53 : decode cX3_propsNeededAt 53 = .ok (.bipush 20, 2) := by decide +kernel
theorem dX3_propsNeededAt_55 : decode cX3_propsNeededAt 55 = .ok (.if_icmp .le 7, 3) := by decide +kernel
theorem dX3_propsNeededAt_58 : decode cX3_propsNeededAt 58 = .ok (.iconst (-1), 1) := by decide +kernel
theorem dX3_propsNeededAt_59 : decode cX3_propsNeededAt 59 = .ok (.goto 5, 3) := by decide +kernel
theorem dX3_propsNeededAt_62 : decode cX3_propsNeededAt 62 = .ok (.iload 4, 2) := by decide +kernel
theorem dX3_propsNeededAt_64 : decode cX3_propsNeededAt 64 = .ok (.ireturn, 1) := by decide +kernel
theorem dX4_init_0 : decode cX4_init 0 = .ok (.aload_n 0, 1) := by decide +kernel
theorem dX4_init_1 : decode cX4_init 1 = .ok (.invokespecial 3, 3) := by decide +kernel
theorem dX4_init_4 : decode cX4_init 4 = .ok (.aload_n 0, 1) := by decide +kernel
theorem dX4_init_5 : decode cX4_init 5 = .ok (.new 9, 3) := by decide +kernel
theorem dX4_init_8 : decode cX4_init 8 = .ok (.dup, 1) := by decide +kernel
theorem dX4_init_9 : decode cX4_init 9 = .ok (.invokespecial 11, 3) := by decide +kernel
theorem dX4_init_12 : decode cX4_init 12 = .ok (.putfield 12, 3) := by decide +kernel
theorem dX4_init_15 : decode cX4_init 15 = .ok (.aload_n 0, 1) := by decide +kernel
theorem dX4_init_16 : decode cX4_init 16 = .ok (.iconst 5, 1) := by decide +kernel
theorem dX4_init_17 : decode cX4_init 17 = .ok (.newarray .int, 2) := by decide +kernel
theorem dX4_init_19 : decode cX4_init 19 = .ok (.putfield 18, 3) := by decide +kernel
theorem dX4_init_22 : decode cX4_init 22 = .ok (.aload_n 0, 1) := by decide +kernel
theorem dX4_init_23 : decode cX4_init 23 = .ok (.iconst 5, 1) := by decide +kernel
theorem dX4_init_24 : decode cX4_init 24 = .ok (.newarray .int, 2) := by decide +kernel
theorem dX4_init_26 : decode cX4_init 26 = .ok (.putfield 22, 3) := by decide +kernel
theorem dX4_init_29 : decode cX4_init 29 = .ok (.return_, 1) := by decide +kernel
theorem dX4_seek_0 : decode cX4_seek 0 = .ok (.aload_n 0, 1) := by decide +kernel
theorem dX4_seek_1 : decode cX4_seek 1 = .ok (.getfield 12, 3) := by decide +kernel
theorem dX4_seek_4 : decode cX4_seek 4 = .ok (.aload_n 1, 1) := by decide +kernel
theorem dX4_seek_5 : decode cX4_seek 5 = .ok (.getfield 25, 3) := by decide +kernel
theorem dX4_seek_8 : decode cX4_seek 8 = .ok (.invokevirtual 28, 3) := by decide +kernel
theorem dX4_seek_11 : decode cX4_seek 11 = .ok (.aload_n 0, 1) := by decide +kernel
theorem dX4_seek_12 : decode cX4_seek 12 = .ok (.getfield 12, 3) := by decide +kernel
theorem dX4_seek_15 : decode cX4_seek 15 = .ok (.getfield 32, 3) := by decide +kernel
theorem dX4_seek_18 : decode cX4_seek 18 = .ok (.iconst 0, 1) := by decide +kernel
theorem dX4_seek_19 : decode cX4_seek 19 = .ok (.invokestatic 35, 3) := by decide +kernel
theorem dX4_seek_22 : decode cX4_seek 22 = .ok (.aload_n 0, 1) := by decide +kernel
theorem dX4_seek_23 : decode cX4_seek 23 = .ok (.iconst 0, 1) := by decide +kernel
theorem dX4_seek_24 : decode cX4_seek 24 = .ok (.putfield 41, 3) := by decide +kernel
theorem dX4_seek_27 : decode cX4_seek 27 = .ok (.aload_n 0, 1) := by decide +kernel
theorem dX4_seek_28 : decode cX4_seek 28 = .ok (.iconst 0, 1) := by decide +kernel
theorem dX4_seek_29 : decode cX4_seek 29 = .ok (.putfield 45, 3) := by decide +kernel
theorem dX4_seek_32 : decode cX4_seek 32 = .ok (.aload_n 0, 1) := by decide +kernel
theorem dX4_seek_33 : decode cX4_seek 33 = .ok (.aload_n 1, 1) := by decide +kernel
theorem dX4_seek_34 : decode cX4_seek 34 = .ok (.iconst 0, 1) := by decide +kernel
theorem dX4_seek_35 : decode cX4_seek 35 = .ok (.invokestatic 49, 3) := by decide +kernel
theorem dX4_seek_38 : decode cX4_seek 38 = .ok (.return_, 1) := by decide +kernel
theorem dX4_settle_0 : decode cX4_settle 0 = .ok (.aload_n 0, 1) := by decide +kernel
theorem dX4_settle_1 : decode cX4_settle 1 = .ok (.getfield 12, 3) := by decide +kernel
theorem dX4_settle_4 : decode cX4_settle 4 = .ok (.invokevirtual 53, 3) := by decide +kernel
theorem dX4_settle_7 : decode cX4_settle 7 = .ok (.istore_n 3, 1) := by decide +kernel
theorem dX4_settle_8 : decode cX4_settle 8 = .ok (.iload_n 3, 1) := by decide +kernel
theorem dX4_settle_9 : decode cX4_settle 9 = .ok (.aload_n 0, 1) := by decide +kernel
theorem dX4_settle_10 : decode cX4_settle 10 = .ok (.getfield 41, 3) := by decide +kernel
theorem dX4_settle_13 : decode cX4_settle 13 = .ok (.if_icmp .gt 4, 3) := by decide +kernel
theorem dX4_settle_16 : decode cX4_settle 16 = .ok (.return_, 1) := by decide +kernel
theorem dX4_settle_17 : decode cX4_settle 17 = .ok (.iload_n 2, 1) := by decide +kernel
theorem dX4_settle_18 : decode cX4_settle 18 = .ok (.ifCond .lt 16, 3) := by decide +kernel
theorem dX4_settle_21 : decode cX4_settle 21 = .ok (.iload_n 2, 1) := by decide +kernel
theorem dX4_settle_22 : decode cX4_settle 22 = .ok (.aload_n 1, 1) := by decide +kernel
theorem dX4_settle_23 : decode cX4_settle 23 = .ok (.getfield 57, 3) := by decide +kernel
theorem dX4_settle_26 : decode cX4_settle 26 = .ok (.if_icmp .ge 8, 3) := by decide +kernel
theorem dX4_settle_29 : decode cX4_settle 29 = .ok (.iload_n 2, 1) := by decide +kernel
theorem dX4_settle_30 : decode cX4_settle 30 = .ok (.iconst 5, 1) := by decide +kernel
theorem dX4_settle_31 : decode cX4_settle 31 = .ok (.if_icmp .lt 9, 3) := by decide +kernel
theorem dX4_settle_34 : decode cX4_settle 34 = .ok (.aload_n 0, 1) := by decide +kernel
theorem dX4_settle_35 : decode cX4_settle 35 = .ok (.iload_n 3, 1) := by decide +kernel
theorem dX4_settle_36 : decode cX4_settle 36 = .ok (.invokevirtual 60, 3) := by decide +kernel
theorem dX4_settle_39 : decode cX4_settle 39 = .ok (.return_, 1) := by decide +kernel
theorem dX4_settle_40 : decode cX4_settle 40 = .ok (.aload_n 1, 1) := by decide +kernel
theorem dX4_settle_41 : decode cX4_settle 41 = .ok (.iload_n 2, 1) := by decide +kernel
theorem dX4_settle_42 : decode cX4_settle 42 = .ok (.invokevirtual 64, 3) := by decide +kernel
theorem dX4_settle_45 : decode cX4_settle 45 = .ok (.istore 4, 2) := by decide +kernel
theorem dX4_settle_47 : decode cX4_settle 47 = .ok (.iconst 0, 1) := by decide +kernel
theorem dX4_settle_48 : decode cX4_settle 48 = .ok (.istore 5, 2) := by decide +kernel
theorem dX4_settle_50 : decode cX4_settle 50 = .ok (.iload 5, 2) := by decide +kernel
theorem dX4_settle_52 : decode cX4_settle 52 = .ok (.bipush 6, 2) := by decide +kernel
theorem dX4_settle_54 : decode cX4_settle 54 = .ok (.if_icmp .ge 67, 3) := by decide +kernel
theorem dX4_settle_57 : decode cX4_settle 57 = .ok (.aload_n 0, 1) := by decide +kernel
theorem dX4_settle_58 : decode cX4_settle 58 = .ok (.getfield 12, 3) := by decide +kernel
theorem dX4_settle_61 : decode cX4_settle 61 = .ok (.iload 5, 2) := by decide +kernel
theorem dX4_settle_63 : decode cX4_settle 63 = .ok (.invokevirtual 68, 3) := by decide +kernel
theorem dX4_settle_66 : decode cX4_settle 66 = .ok (.ifCond .eq 49, 3) := by decide +kernel
theorem dX4_settle_69 : decode cX4_settle 69 = .ok (.aload_n 0, 1) := by decide +kernel
theorem dX4_settle_70 : decode cX4_settle 70 = .ok (.getfield 18, 3) := by decide +kernel
theorem dX4_settle_73 : decode cX4_settle 73 = .ok (.iload_n 2, 1) := by decide +kernel
theorem dX4_settle_74 : decode cX4_settle 74 = .ok (.iload 5, 2) := by decide +kernel
theorem dX4_settle_76 : decode cX4_settle 76 = .ok (.iastore, 1) := by decide +kernel
theorem dX4_settle_77 : decode cX4_settle 77 = .ok (.aload_n 0, 1) := by decide +kernel
theorem dX4_settle_78 : decode cX4_settle 78 = .ok (.getfield 12, 3) := by decide +kernel
theorem dX4_settle_81 : decode cX4_settle 81 = .ok (.getfield 32, 3) := by decide +kernel
theorem dX4_settle_84 : decode cX4_settle 84 = .ok (.iload 5, 2) := by decide +kernel
theorem dX4_settle_86 : decode cX4_settle 86 = .ok (.dup2, 1) := by decide +kernel
theorem dX4_settle_87 : decode cX4_settle 87 = .ok (.iaload, 1) := by decide +kernel
theorem dX4_settle_88 : decode cX4_settle 88 = .ok (.iload 4, 2) := by decide +kernel
theorem dX4_settle_90 : decode cX4_settle 90 = .ok (.iadd, 1) := by decide +kernel
theorem dX4_settle_91 : decode cX4_settle 91 = .ok (.iastore, 1) := by decide +kernel
theorem dX4_settle_92 : decode cX4_settle 92 = .ok (.aload_n 0, 1) := by decide +kernel
theorem dX4_settle_93 : decode cX4_settle 93 = .ok (.aload_n 1, 1) := by decide +kernel
theorem dX4_settle_94 : decode cX4_settle 94 = .ok (.iload_n 2, 1) := by decide +kernel
theorem dX4_settle_95 : decode cX4_settle 95 = .ok (.iconst 1, 1) := by decide +kernel
theorem dX4_settle_96 : decode cX4_settle 96 = .ok (.iadd, 1) := by decide +kernel
theorem dX4_settle_97 : decode cX4_settle 97 = .ok (.invokestatic 49, 3) := by decide +kernel
theorem dX4_settle_100 : decode cX4_settle 100 = .ok (.aload_n 0, 1) := by decide +kernel
theorem dX4_settle_101 : decode cX4_settle 101 = .ok (.getfield 12, 3) := by decide +kernel
theorem dX4_settle_104 : decode cX4_settle 104 = .ok (.getfield 32, 3) := by decide +kernel
theorem dX4_settle_107 : decode cX4_settle 107 = .ok (.iload 5, 2) := by decide +kernel
theorem dX4_settle_109 : decode cX4_settle 109 = .ok (.dup2, 1) := by decide +kernel
theorem dX4_settle_110 : decode cX4_settle 110 = .ok (.iaload, 1) := by decide +kernel
theorem dX4_settle_111 : decode cX4_settle 111 = .ok (.iload 4, 2) := by decide +kernel
theorem dX4_settle_113 : decode cX4_settle 113 = .ok (.isub, 1) := by decide +kernel
theorem dX4_settle_114 : decode cX4_settle 114 = .ok (.iastore, 1) := by decide +kernel
theorem dX4_settle_115 : decode cX4_settle 115 = .ok (.iinc 5 1, 3) := by decide +kernel
theorem dX4_settle_118 : decode cX4_settle 118 = .ok (.goto (-68), 3) := by decide +kernel
theorem dX4_settle_121 : decode cX4_settle 121 = .ok (.return_, 1) := by decide +kernel
theorem dX4_keep_0 : decode cX4_keep 0 = .ok (.aload_n 0, 1) := by decide +kernel
theorem dX4_keep_1 : decode cX4_keep 1 = .ok (.iconst 1, 1) := by decide +kernel
theorem dX4_keep_2 : decode cX4_keep 2 = .ok (.putfield 45, 3) := by decide +kernel
theorem dX4_keep_5 : decode cX4_keep 5 = .ok (.aload_n 0, 1) := by decide +kernel
theorem dX4_keep_6 : decode cX4_keep 6 = .ok (.iload_n 1, 1) := by decide +kernel
theorem dX4_keep_7 : decode cX4_keep 7 = .ok (.putfield 41, 3) := by decide +kernel
theorem dX4_keep_10 : decode cX4_keep 10 = .ok (.aload_n 0, 1) := by decide +kernel
theorem dX4_keep_11 : decode cX4_keep 11 = .ok (.getfield 18, 3) := by decide +kernel
theorem dX4_keep_14 : decode cX4_keep 14 = .ok (.iconst 0, 1) := by decide +kernel
theorem dX4_keep_15 : decode cX4_keep 15 = .ok (.aload_n 0, 1) := by decide +kernel
theorem dX4_keep_16 : decode cX4_keep 16 = .ok (.getfield 22, 3) := by decide +kernel
theorem dX4_keep_19 : decode cX4_keep 19 = .ok (.iconst 0, 1) := by decide +kernel
theorem dX4_keep_20 : decode cX4_keep 20 = .ok (.iconst 5, 1) := by decide +kernel
theorem dX4_keep_21 : decode cX4_keep 21 = .ok (.invokestatic 72, 3) := by decide +kernel
theorem dX4_keep_24 : decode cX4_keep 24 = .ok (.return_, 1) := by decide +kernel
theorem dX5_init_0 : decode cX5_init 0 = .ok (.aload_n 0, 1) := by decide +kernel
theorem dX5_init_1 : decode cX5_init 1 = .ok (.invokespecial 3, 3) := by decide +kernel
theorem dX5_init_4 : decode cX5_init 4 = .ok (.aload_n 0, 1) := by decide +kernel
theorem dX5_init_5 : decode cX5_init 5 = .ok (.new 9, 3) := by decide +kernel
theorem dX5_init_8 : decode cX5_init 8 = .ok (.dup, 1) := by decide +kernel
theorem dX5_init_9 : decode cX5_init 9 = .ok (.invokespecial 11, 3) := by decide +kernel
theorem dX5_init_12 : decode cX5_init 12 = .ok (.putfield 12, 3) := by decide +kernel
theorem dX5_init_15 : decode cX5_init 15 = .ok (.aload_n 0, 1) := by decide +kernel
theorem dX5_init_16 : decode cX5_init 16 = .ok (.bipush 6, 2) := by decide +kernel
theorem dX5_init_18 : decode cX5_init 18 = .ok (.newarray .int, 2) := by decide +kernel
theorem dX5_init_20 : decode cX5_init 20 = .ok (.putfield 18, 3) := by decide +kernel
theorem dX5_init_23 : decode cX5_init 23 = .ok (.aload_n 0, 1) := by decide +kernel
theorem dX5_init_24 : decode cX5_init 24 = .ok (.bipush 10, 2) := by decide +kernel
theorem dX5_init_26 : decode cX5_init 26 = .ok (.newarray .int, 2) := by decide +kernel
theorem dX5_init_28 : decode cX5_init 28 = .ok (.putfield 22, 3) := by decide +kernel
theorem dX5_init_31 : decode cX5_init 31 = .ok (.return_, 1) := by decide +kernel
theorem dX5_sound_0 : decode cX5_sound 0 = .ok (.aload_n 0, 1) := by decide +kernel
theorem dX5_sound_1 : decode cX5_sound 1 = .ok (.iconst 0, 1) := by decide +kernel
theorem dX5_sound_2 : decode cX5_sound 2 = .ok (.putfield 25, 3) := by decide +kernel
theorem dX5_sound_5 : decode cX5_sound 5 = .ok (.iload_n 3, 1) := by decide +kernel
theorem dX5_sound_6 : decode cX5_sound 6 = .ok (.ifCond .lt 9, 3) := by decide +kernel
theorem dX5_sound_9 : decode cX5_sound 9 = .ok (.iload_n 3, 1) := by decide +kernel
theorem dX5_sound_10 : decode cX5_sound 10 = .ok (.bipush 6, 2) := by decide +kernel
theorem dX5_sound_12 : decode cX5_sound 12 = .ok (.if_icmp .lt 4, 3) := by decide +kernel
theorem dX5_sound_15 : decode cX5_sound 15 = .ok (.return_, 1) := by decide +kernel
theorem dX5_sound_16 : decode cX5_sound 16 = .ok (.bipush 10, 2) := by decide +kernel
theorem dX5_sound_18 : decode cX5_sound 18 = .ok (.aload_n 2, 1) := by decide +kernel
theorem dX5_sound_19 : decode cX5_sound 19 = .ok (.invokevirtual 29, 3) := by decide +kernel
theorem dX5_sound_22 : decode cX5_sound 22 = .ok (.invokestatic 35, 3) := by decide +kernel
theorem dX5_sound_25 : decode cX5_sound 25 = .ok (.istore 4, 2) := by decide +kernel
theorem dX5_sound_27 : decode cX5_sound 27 = .ok (.iconst 0, 1) := by decide +kernel
theorem dX5_sound_28 : decode cX5_sound 28 = .ok (.istore 5, 2) := by decide +kernel
theorem dX5_sound_30 : decode cX5_sound 30 = .ok (.iload 5, 2) := by decide +kernel
theorem dX5_sound_32 : decode cX5_sound 32 = .ok (.bipush 10, 2) := by decide +kernel
theorem dX5_sound_34 : decode cX5_sound 34 = .ok (.if_icmp .ge 75, 3) := by decide +kernel
theorem dX5_sound_37 : decode cX5_sound 37 = .ok (.aload_n 0, 1) := by decide +kernel
theorem dX5_sound_38 : decode cX5_sound 38 = .ok (.getfield 12, 3) := by decide +kernel
theorem dX5_sound_41 : decode cX5_sound 41 = .ok (.aload_n 1, 1) := by decide +kernel
theorem dX5_sound_42 : decode cX5_sound 42 = .ok (.invokevirtual 41, 3) := by decide +kernel
theorem dX5_sound_45 : decode cX5_sound 45 = .ok (.aload_n 0, 1) := by decide +kernel
theorem dX5_sound_46 : decode cX5_sound 46 = .ok (.getfield 12, 3) := by decide +kernel
theorem dX5_sound_49 : decode cX5_sound 49 = .ok (.getfield 45, 3) := by decide +kernel
theorem dX5_sound_52 : decode cX5_sound 52 = .ok (.iload_n 3, 1) := by decide +kernel
theorem dX5_sound_53 : decode cX5_sound 53 = .ok (.iload 5, 2) := by decide +kernel
theorem dX5_sound_55 : decode cX5_sound 55 = .ok (.iastore, 1) := by decide +kernel
theorem dX5_sound_56 : decode cX5_sound 56 = .ok (.aload_n 0, 1) := by decide +kernel
theorem dX5_sound_57 : decode cX5_sound 57 = .ok (.iload 4, 2) := by decide +kernel
theorem dX5_sound_59 : decode cX5_sound 59 = .ok (.invokevirtual 48, 3) := by decide +kernel
theorem dX5_sound_62 : decode cX5_sound 62 = .ok (.aload_n 0, 1) := by decide +kernel
theorem dX5_sound_63 : decode cX5_sound 63 = .ok (.getfield 22, 3) := by decide +kernel
theorem dX5_sound_66 : decode cX5_sound 66 = .ok (.iload 5, 2) := by decide +kernel
theorem dX5_sound_68 : decode cX5_sound 68 = .ok (.aload_n 0, 1) := by decide +kernel
theorem dX5_sound_69 : decode cX5_sound 69 = .ok (.getfield 18, 3) := by decide +kernel
theorem dX5_sound_72 : decode cX5_sound 72 = .ok (.iload_n 3, 1) := by decide +kernel
theorem dX5_sound_73 : decode cX5_sound 73 = .ok (.iaload, 1) := by decide +kernel
theorem dX5_sound_74 : decode cX5_sound 74 = .ok (.iastore, 1) := by decide +kernel
theorem dX5_sound_75 : decode cX5_sound 75 = .ok (.aload_n 0, 1) := by decide +kernel
theorem dX5_sound_76 : decode cX5_sound 76 = .ok (.dup, 1) := by decide +kernel
theorem dX5_sound_77 : decode cX5_sound 77 = .ok (.getfield 25, 3) := by decide +kernel
theorem dX5_sound_80 : decode cX5_sound 80 = .ok (.aload_n 2, 1) := by decide +kernel
theorem dX5_sound_81 : decode cX5_sound 81 = .ok (.aload_n 0, 1) := by decide +kernel
theorem dX5_sound_82 : decode cX5_sound 82 = .ok (.getfield 18, 3) := by decide +kernel
theorem dX5_sound_85 : decode cX5_sound 85 = .ok (.invokevirtual 52, 3) := by decide +kernel
theorem dX5_sound_88 : decode cX5_sound 88 = .ok (.ifCond .eq 10, 3) := by decide +kernel
theorem dX5_sound_91 : decode cX5_sound 91 = .ok (.iconst 1, 1) := by decide +kernel
theorem dX5_sound_92 : decode cX5_sound 92 = .ok (.iload 5, 2) := by decide +kernel
theorem dX5_sound_94 : decode cX5_sound 94 = .ok (.ishl, 1) := by decide +kernel
theorem dX5_sound_95 : decode cX5_sound 95 = .ok (.goto 4, 3) := by decide +kernel
theorem dX5_sound_98 : decode cX5_sound 98 = .ok (.iconst 0, 1) := by decide +kernel
theorem dX5_sound_99 : decode cX5_sound 99 = .ok (.ior, 1) := by decide +kernel
theorem dX5_sound_100 : decode cX5_sound 100 = .ok (.putfield 25, 3) := by decide +kernel
theorem dX5_sound_103 : decode cX5_sound 103 = .ok (.iinc 5 1, 3) := by decide +kernel
theorem dX5_sound_106 : decode cX5_sound 106 = .ok (.goto (-76), 3) := by decide +kernel
theorem dX5_sound_109 : decode cX5_sound 109 = .ok (.return_, 1) := by decide +kernel
theorem dX5_bestDay_0 : decode cX5_bestDay 0 = .ok (.aload_n 0, 1) := by decide +kernel
theorem dX5_bestDay_1 : decode cX5_bestDay 1 = .ok (.getfield 25, 3) := by decide +kernel
theorem dX5_bestDay_4 : decode cX5_bestDay 4 = .ok (.ifCond .ne 5, 3) := by decide +kernel
theorem dX5_bestDay_7 : decode cX5_bestDay 7 = .ok (.iconst (-1), 1) := by decide +kernel
theorem dX5_bestDay_8 : decode cX5_bestDay 8 = .ok (.ireturn, 1) := by decide +kernel
theorem dX5_bestDay_9 : decode cX5_bestDay 9 = .ok (.iconst 1, 1) := by decide +kernel
theorem dX5_bestDay_10 : decode cX5_bestDay 10 = .ok (.istore_n 1, 1) := by decide +kernel
theorem dX5_bestDay_11 : decode cX5_bestDay 11 = .ok (.bipush 11, 2) := by decide +kernel
theorem dX5_bestDay_13 : decode cX5_bestDay 13 = .ok (.istore_n 2, 1) := by decide +kernel
theorem dX5_bestDay_14 : decode cX5_bestDay 14 = .ok (.iconst 1, 1) := by decide +kernel
theorem dX5_bestDay_15 : decode cX5_bestDay 15 = .ok (.istore_n 3, 1) := by decide +kernel
theorem dX5_bestDay_16 : decode cX5_bestDay 16 = .ok (.iload_n 3, 1) := by decide +kernel
theorem dX5_bestDay_17 : decode cX5_bestDay 17 = .ok (.bipush 10, 2) := by decide +kernel
theorem dX5_bestDay_19 : decode cX5_bestDay 19 = .ok (.if_icmp .gt 27, 3) := by decide +kernel
theorem dX5_bestDay_22 : decode cX5_bestDay 22 = .ok (.aload_n 0, 1) := by decide +kernel
theorem dX5_bestDay_23 : decode cX5_bestDay 23 = .ok (.iload_n 3, 1) := by decide +kernel
theorem dX5_bestDay_24 : decode cX5_bestDay 24 = .ok (.invokevirtual 56, 3) := by decide +kernel
theorem dX5_bestDay_27 : decode cX5_bestDay 27 = .ok (.istore 4, 2) := by decide +kernel
theorem dX5_bestDay_29 : decode cX5_bestDay 29 = .ok (.iload 4, 2) := by decide +kernel
theorem dX5_bestDay_31 : decode cX5_bestDay 31 = .ok (.iload_n 2, 1) := by decide +kernel
theorem dX5_bestDay_32 : decode cX5_bestDay 32 = .ok (.if_icmp .ge 8, 3) := by decide +kernel
theorem dX5_bestDay_35 : decode cX5_bestDay 35 = .ok (.iload 4, 2) := by decide +kernel
theorem dX5_bestDay_37 : decode cX5_bestDay 37 = .ok (.istore_n 2, 1) := by decide +kernel
theorem dX5_bestDay_38 : decode cX5_bestDay 38 = .ok (.iload_n 3, 1) := by decide +kernel
theorem dX5_bestDay_39 : decode cX5_bestDay 39 = .ok (.istore_n 1, 1) := by decide +kernel
theorem dX5_bestDay_40 : decode cX5_bestDay 40 = .ok (.iinc 3 1, 3) := by decide +kernel
theorem dX5_bestDay_43 : decode cX5_bestDay 43 = .ok (.goto (-27), 3) := by decide +kernel
theorem dX5_bestDay_46 : decode cX5_bestDay 46 = .ok (.iload_n 1, 1) := by decide +kernel
theorem dX5_bestDay_47 : decode cX5_bestDay 47 = .ok (.ireturn, 1) := by decide +kernel
theorem dX5_leftAtWorst_0 : decode cX5_leftAtWorst 0 = .ok (.iconst 0, 1) := by decide +kernel
theorem dX5_leftAtWorst_1 : decode cX5_leftAtWorst 1 = .ok (.istore_n 2, 1) := by decide +kernel
theorem dX5_leftAtWorst_2 : decode cX5_leftAtWorst 2 = .ok (.iconst 0, 1) := by decide +kernel
theorem dX5_leftAtWorst_3 : decode cX5_leftAtWorst 3 = .ok (.istore_n 3, 1) := by decide +kernel
theorem dX5_leftAtWorst_4 : decode cX5_leftAtWorst 4 = .ok (.iload_n 3, 1) := by decide +kernel
theorem dX5_leftAtWorst_5 : decode cX5_leftAtWorst 5 = .ok (.bipush 10, 2) := by decide +kernel
theorem dX5_leftAtWorst_7 : decode cX5_leftAtWorst 7 = .ok (.if_icmp .ge 34, 3) := by decide +kernel
theorem dX5_leftAtWorst_10 : decode cX5_leftAtWorst 10 = .ok (.iload_n 2, 1) := by decide +kernel
theorem dX5_leftAtWorst_11 : decode cX5_leftAtWorst 11 = .ok (.iload_n 1, 1) := by decide +kernel
theorem dX5_leftAtWorst_12 : decode cX5_leftAtWorst 12 = .ok (.aload_n 0, 1) := by decide +kernel
theorem dX5_leftAtWorst_13 : decode cX5_leftAtWorst 13 = .ok (.getfield 22, 3) := by decide +kernel
theorem dX5_leftAtWorst_16 : decode cX5_leftAtWorst 16 = .ok (.iload_n 3, 1) := by decide +kernel
theorem dX5_leftAtWorst_17 : decode cX5_leftAtWorst 17 = .ok (.iaload, 1) := by decide +kernel
theorem dX5_leftAtWorst_18 : decode cX5_leftAtWorst 18 = .ok (.if_icmp .ge 14, 3) := by decide +kernel
theorem dX5_leftAtWorst_21 : decode cX5_leftAtWorst 21 = .ok (.aload_n 0, 1) := by decide +kernel
theorem dX5_leftAtWorst_22 : decode cX5_leftAtWorst 22 = .ok (.getfield 25, 3) := by decide +kernel
theorem dX5_leftAtWorst_25 : decode cX5_leftAtWorst 25 = .ok (.iload_n 3, 1) := by decide +kernel
theorem dX5_leftAtWorst_26 : decode cX5_leftAtWorst 26 = .ok (.ishr, 1) := by decide +kernel
theorem dX5_leftAtWorst_27 : decode cX5_leftAtWorst 27 = .ok (.iconst 1, 1) := by decide +kernel
theorem dX5_leftAtWorst_28 : decode cX5_leftAtWorst 28 = .ok (.iand, 1) := by decide +kernel
theorem dX5_leftAtWorst_29 : decode cX5_leftAtWorst 29 = .ok (.goto 4, 3) := by decide +kernel
theorem dX5_leftAtWorst_32 : decode cX5_leftAtWorst 32 = .ok (.iconst 0, 1) := by decide +kernel
theorem dX5_leftAtWorst_33 : decode cX5_leftAtWorst 33 = .ok (.iadd, 1) := by decide +kernel
theorem dX5_leftAtWorst_34 : decode cX5_leftAtWorst 34 = .ok (.istore_n 2, 1) := by decide +kernel
theorem dX5_leftAtWorst_35 : decode cX5_leftAtWorst 35 = .ok (.iinc 3 1, 3) := by decide +kernel
theorem dX5_leftAtWorst_38 : decode cX5_leftAtWorst 38 = .ok (.goto (-34), 3) := by decide +kernel
theorem dX5_leftAtWorst_41 : decode cX5_leftAtWorst 41 = .ok (.iload_n 2, 1) := by decide +kernel
theorem dX5_leftAtWorst_42 : decode cX5_leftAtWorst 42 = .ok (.aload_n 0, 1) := by decide +kernel
theorem dX5_leftAtWorst_43 : decode cX5_leftAtWorst 43 = .ok (.getfield 25, 3) := by decide +kernel
theorem dX5_leftAtWorst_46 : decode cX5_leftAtWorst 46 = .ok (.invokestatic 60, 3) := by decide +kernel
theorem dX5_leftAtWorst_49 : decode cX5_leftAtWorst 49 = .ok (.iload_n 2, 1) := by decide +kernel
theorem dX5_leftAtWorst_50 : decode cX5_leftAtWorst 50 = .ok (.isub, 1) := by decide +kernel
theorem dX5_leftAtWorst_51 : decode cX5_leftAtWorst 51 = .ok (.invokestatic 35, 3) := by decide +kernel
theorem dX5_leftAtWorst_54 : decode cX5_leftAtWorst 54 = .ok (.ireturn, 1) := by decide +kernel
theorem dX5_liveDays_0 : decode cX5_liveDays 0 = .ok (.iconst 0, 1) := by decide +kernel
theorem dX5_liveDays_1 : decode cX5_liveDays 1 = .ok (.istore_n 2, 1) := by decide +kernel
theorem dX5_liveDays_2 : decode cX5_liveDays 2 = .ok (.iload_n 2, 1) := by decide +kernel
theorem dX5_liveDays_3 : decode cX5_liveDays 3 = .ok (.bipush 6, 2) := by decide +kernel
theorem dX5_liveDays_5 : decode cX5_liveDays 5 = .ok (.if_icmp .ge 32, 3) := by decide +kernel
theorem dX5_liveDays_8 : decode cX5_liveDays 8 = .ok (.aload_n 0, 1) := by decide +kernel
theorem dX5_liveDays_9 : decode cX5_liveDays 9 = .ok (.getfield 18, 3) := by decide +kernel
theorem dX5_liveDays_12 : decode cX5_liveDays 12 = .ok (.iload_n 2, 1) := by decide +kernel
theorem dX5_liveDays_13 : decode cX5_liveDays 13 = .ok (.aload_n 0, 1) := by decide +kernel
theorem dX5_liveDays_14 : decode cX5_liveDays 14 = .ok (.getfield 12, 3) := by decide +kernel
theorem dX5_liveDays_17 : decode cX5_liveDays 17 = .ok (.iload_n 2, 1) := by decide +kernel
theorem dX5_liveDays_18 : decode cX5_liveDays 18 = .ok (.invokevirtual 65, 3) := by decide +kernel
theorem dX5_liveDays_21 : decode cX5_liveDays 21 = .ok (.ifCond .eq 8, 3) := by decide +kernel
theorem dX5_liveDays_24 : decode cX5_liveDays 24 = .ok (.bipush 41, 2) := by decide +kernel
theorem dX5_liveDays_26 : decode cX5_liveDays 26 = .ok (.goto 4, 3) := by decide +kernel
theorem dX5_liveDays_29 : decode cX5_liveDays 29 = .ok (.iconst 0, 1) := by decide +kernel
theorem dX5_liveDays_30 : decode cX5_liveDays 30 = .ok (.iastore, 1) := by decide +kernel
theorem dX5_liveDays_31 : decode cX5_liveDays 31 = .ok (.iinc 2 1, 3) := by decide +kernel
theorem dX5_liveDays_34 : decode cX5_liveDays 34 = .ok (.goto (-32), 3) := by decide +kernel
theorem dX5_liveDays_37 : decode cX5_liveDays 37 = .ok (.iconst 1, 1) := by decide +kernel
theorem dX5_liveDays_38 : decode cX5_liveDays 38 = .ok (.istore_n 2, 1) := by decide +kernel
theorem dX5_liveDays_39 : decode cX5_liveDays 39 = .ok (.iload_n 2, 1) := by decide +kernel
theorem dX5_liveDays_40 : decode cX5_liveDays 40 = .ok (.iload_n 1, 1) := by decide +kernel
theorem dX5_liveDays_41 : decode cX5_liveDays 41 = .ok (.if_icmp .gt 66, 3) := by decide +kernel
theorem dX5_liveDays_44 : decode cX5_liveDays 44 = .ok (.iload_n 2, 1) := by decide +kernel
theorem dX5_liveDays_45 : decode cX5_liveDays 45 = .ok (.bipush 20, 2) := by decide +kernel
theorem dX5_liveDays_47 : decode cX5_liveDays 47 = .ok (.if_icmp .gt 60, 3) := by decide +kernel
theorem dX5_liveDays_50 : decode cX5_liveDays 50 = .ok (.aload_n 0, 1) := by decide +kernel
theorem dX5_liveDays_51 : decode cX5_liveDays 51 = .ok (.getfield 12, 3) := by decide +kernel
theorem dX5_liveDays_54 : decode cX5_liveDays 54 = .ok (.invokevirtual 69, 3) := by decide +kernel
theorem dX5_liveDays_57 : decode cX5_liveDays 57 = .ok (.pop, 1) := by decide +kernel
theorem dX5_liveDays_58 : decode cX5_liveDays 58 = .ok (.iconst 0, 1) := by decide +kernel
theorem dX5_liveDays_59 : decode cX5_liveDays 59 = .ok (.istore_n 3, 1) := by decide +kernel
theorem dX5_liveDays_60 : decode cX5_liveDays 60 = .ok (.iload_n 3, 1) := by decide +kernel
theorem dX5_liveDays_61 : decode cX5_liveDays 61 = .ok (.bipush 6, 2) := by decide +kernel
theorem dX5_liveDays_63 : decode cX5_liveDays 63 = .ok (.if_icmp .ge 38, 3) := by decide +kernel
theorem dX5_liveDays_66 : decode cX5_liveDays 66 = .ok (.aload_n 0, 1) := by decide +kernel
theorem dX5_liveDays_67 : decode cX5_liveDays 67 = .ok (.getfield 18, 3) := by decide +kernel
theorem dX5_liveDays_70 : decode cX5_liveDays 70 = .ok (.iload_n 3, 1) := by decide +kernel
theorem dX5_liveDays_71 : decode cX5_liveDays 71 = .ok (.iaload, 1) := by decide +kernel
theorem dX5_liveDays_72 : decode cX5_liveDays 72 = .ok (.bipush 41, 2) := by decide +kernel
theorem dX5_liveDays_74 : decode cX5_liveDays 74 = .ok (.if_icmp .ne 21, 3) := by decide +kernel
theorem dX5_liveDays_77 : decode cX5_liveDays 77 = .ok (.aload_n 0, 1) := by decide +kernel
theorem dX5_liveDays_78 : decode cX5_liveDays 78 = .ok (.getfield 12, 3) := by decide +kernel
theorem dX5_liveDays_81 : decode cX5_liveDays 81 = .ok (.iload_n 3, 1) := by decide +kernel
theorem dX5_liveDays_82 : decode cX5_liveDays 82 = .ok (.invokevirtual 65, 3) := by decide +kernel
theorem dX5_liveDays_85 : decode cX5_liveDays 85 = .ok (.ifCond .ne 10, 3) := by decide +kernel
theorem dX5_liveDays_88 : decode cX5_liveDays 88 = .ok (.aload_n 0, 1) := by decide +kernel
theorem dX5_liveDays_89 : decode cX5_liveDays 89 = .ok (.getfield 18, 3) := by decide +kernel
theorem dX5_liveDays_92 : decode cX5_liveDays 92 = .ok (.iload_n 3, 1) := by decide +kernel
theorem dX5_liveDays_93 : decode cX5_liveDays 93 = .ok (.iload_n 2, 1) := by decide +kernel
theorem dX5_liveDays_94 : decode cX5_liveDays 94 = .ok (.iastore, 1) := by decide +kernel
theorem dX5_liveDays_95 : decode cX5_liveDays 95 = .ok (.iinc 3 1, 3) := by decide +kernel
theorem dX5_liveDays_98 : decode cX5_liveDays 98 = .ok (.goto (-38), 3) := by decide +kernel
theorem dX5_liveDays_101 : decode cX5_liveDays 101 = .ok (.iinc 2 1, 3) := by decide +kernel
theorem dX5_liveDays_104 : decode cX5_liveDays 104 = .ok (.goto (-65), 3) := by decide +kernel
theorem dX5_liveDays_107 : decode cX5_liveDays 107 = .ok (.return_, 1) := by decide +kernel
theorem dX6_init_0 : decode cX6_init 0 = .ok (.aload_n 0, 1) := by decide +kernel
theorem dX6_init_1 : decode cX6_init 1 = .ok (.invokespecial 3, 3) := by decide +kernel
theorem dX6_init_4 : decode cX6_init 4 = .ok (.aload_n 0, 1) := by decide +kernel
theorem dX6_init_5 : decode cX6_init 5 = .ok (.new 9, 3) := by decide +kernel
theorem dX6_init_8 : decode cX6_init 8 = .ok (.dup, 1) := by decide +kernel
theorem dX6_init_9 : decode cX6_init 9 = .ok (.invokespecial 11, 3) := by decide +kernel
theorem dX6_init_12 : decode cX6_init 12 = .ok (.putfield 12, 3) := by decide +kernel
theorem dX6_init_15 : decode cX6_init 15 = .ok (.aload_n 0, 1) := by decide +kernel
theorem dX6_init_16 : decode cX6_init 16 = .ok (.iconst 5, 1) := by decide +kernel
theorem dX6_init_17 : decode cX6_init 17 = .ok (.newarray .int, 2) := by decide +kernel
theorem dX6_init_19 : decode cX6_init 19 = .ok (.putfield 18, 3) := by decide +kernel
theorem dX6_init_22 : decode cX6_init 22 = .ok (.aload_n 0, 1) := by decide +kernel
theorem dX6_init_23 : decode cX6_init 23 = .ok (.iconst 5, 1) := by decide +kernel
theorem dX6_init_24 : decode cX6_init 24 = .ok (.newarray .int, 2) := by decide +kernel
theorem dX6_init_26 : decode cX6_init 26 = .ok (.putfield 22, 3) := by decide +kernel
theorem dX6_init_29 : decode cX6_init 29 = .ok (.return_, 1) := by decide +kernel
theorem dX6_open_0 : decode cX6_open 0 = .ok (.iconst 0, 1) := by decide +kernel
theorem dX6_open_1 : decode cX6_open 1 = .ok (.istore_n 2, 1) := by decide +kernel
theorem dX6_open_2 : decode cX6_open 2 = .ok (.iload_n 2, 1) := by decide +kernel
theorem dX6_open_3 : decode cX6_open 3 = .ok (.bipush 6, 2) := by decide +kernel
theorem dX6_open_5 : decode cX6_open 5 = .ok (.if_icmp .ge 33, 3) := by decide +kernel
theorem dX6_open_8 : decode cX6_open 8 = .ok (.aload_n 0, 1) := by decide +kernel
theorem dX6_open_9 : decode cX6_open 9 = .ok (.getfield 12, 3) := by decide +kernel
theorem dX6_open_12 : decode cX6_open 12 = .ok (.getfield 25, 3) := by decide +kernel
theorem dX6_open_15 : decode cX6_open 15 = .ok (.iload_n 2, 1) := by decide +kernel
theorem dX6_open_16 : decode cX6_open 16 = .ok (.aload_n 1, 1) := by decide +kernel
theorem dX6_open_17 : decode cX6_open 17 = .ok (.iload_n 2, 1) := by decide +kernel
theorem dX6_open_18 : decode cX6_open 18 = .ok (.invokevirtual 28, 3) := by decide +kernel
theorem dX6_open_21 : decode cX6_open 21 = .ok (.iastore, 1) := by decide +kernel
theorem dX6_open_22 : decode cX6_open 22 = .ok (.aload_n 0, 1) := by decide +kernel
theorem dX6_open_23 : decode cX6_open 23 = .ok (.getfield 12, 3) := by decide +kernel
theorem dX6_open_26 : decode cX6_open 26 = .ok (.getfield 34, 3) := by decide +kernel
theorem dX6_open_29 : decode cX6_open 29 = .ok (.iload_n 2, 1) := by decide +kernel
theorem dX6_open_30 : decode cX6_open 30 = .ok (.iconst 0, 1) := by decide +kernel
