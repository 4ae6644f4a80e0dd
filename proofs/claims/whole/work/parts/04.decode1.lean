theorem dX6_open_31 : decode cX6_open 31 = .ok (.iastore, 1) := by decide +kernel
theorem dX6_open_32 : decode cX6_open 32 = .ok (.iinc 2 1, 3) := by decide +kernel
theorem dX6_open_35 : decode cX6_open 35 = .ok (.goto (-33), 3) := by decide +kernel
theorem dX6_open_38 : decode cX6_open 38 = .ok (.aload_n 0, 1) := by decide +kernel
theorem dX6_open_39 : decode cX6_open 39 = .ok (.aload_n 1, 1) := by decide +kernel
theorem dX6_open_40 : decode cX6_open 40 = .ok (.bipush 7, 2) := by decide +kernel
theorem dX6_open_42 : decode cX6_open 42 = .ok (.invokevirtual 28, 3) := by decide +kernel
theorem dX6_open_45 : decode cX6_open 45 = .ok (.putfield 37, 3) := by decide +kernel
theorem dX6_open_48 : decode cX6_open 48 = .ok (.aload_n 0, 1) := by decide +kernel
theorem dX6_open_49 : decode cX6_open 49 = .ok (.aload_n 1, 1) := by decide +kernel
theorem dX6_open_50 : decode cX6_open 50 = .ok (.bipush 8, 2) := by decide +kernel
theorem dX6_open_52 : decode cX6_open 52 = .ok (.invokevirtual 28, 3) := by decide +kernel
theorem dX6_open_55 : decode cX6_open 55 = .ok (.putfield 41, 3) := by decide +kernel
theorem dX6_open_58 : decode cX6_open 58 = .ok (.aload_n 0, 1) := by decide +kernel
theorem dX6_open_59 : decode cX6_open 59 = .ok (.iconst 0, 1) := by decide +kernel
theorem dX6_open_60 : decode cX6_open 60 = .ok (.putfield 44, 3) := by decide +kernel
theorem dX6_open_63 : decode cX6_open 63 = .ok (.aload_n 0, 1) := by decide +kernel
theorem dX6_open_64 : decode cX6_open 64 = .ok (.iconst 0, 1) := by decide +kernel
theorem dX6_open_65 : decode cX6_open 65 = .ok (.putfield 47, 3) := by decide +kernel
theorem dX6_open_68 : decode cX6_open 68 = .ok (.aload_n 0, 1) := by decide +kernel
theorem dX6_open_69 : decode cX6_open 69 = .ok (.iconst 0, 1) := by decide +kernel
theorem dX6_open_70 : decode cX6_open 70 = .ok (.putfield 50, 3) := by decide +kernel
theorem dX6_open_73 : decode cX6_open 73 = .ok (.aload_n 0, 1) := by decide +kernel
theorem dX6_open_74 : decode cX6_open 74 = .ok (.iconst 0, 1) := by decide +kernel
theorem dX6_open_75 : decode cX6_open 75 = .ok (.putfield 53, 3) := by decide +kernel
theorem dX6_open_78 : decode cX6_open 78 = .ok (.return_, 1) := by decide +kernel
theorem dX6_copyFrom_0 : decode cX6_copyFrom 0 = .ok (.aload_n 0, 1) := by decide +kernel
theorem dX6_copyFrom_1 : decode cX6_copyFrom 1 = .ok (.getfield 12, 3) := by decide +kernel
theorem dX6_copyFrom_4 : decode cX6_copyFrom 4 = .ok (.aload_n 1, 1) := by decide +kernel
theorem dX6_copyFrom_5 : decode cX6_copyFrom 5 = .ok (.getfield 12, 3) := by decide +kernel
theorem dX6_copyFrom_8 : decode cX6_copyFrom 8 = .ok (.invokevirtual 56, 3) := by decide +kernel
theorem dX6_copyFrom_11 : decode cX6_copyFrom 11 = .ok (.aload_n 1, 1) := by decide +kernel
theorem dX6_copyFrom_12 : decode cX6_copyFrom 12 = .ok (.getfield 18, 3) := by decide +kernel
theorem dX6_copyFrom_15 : decode cX6_copyFrom 15 = .ok (.iconst 0, 1) := by decide +kernel
theorem dX6_copyFrom_16 : decode cX6_copyFrom 16 = .ok (.aload_n 0, 1) := by decide +kernel
theorem dX6_copyFrom_17 : decode cX6_copyFrom 17 = .ok (.getfield 18, 3) := by decide +kernel
theorem dX6_copyFrom_20 : decode cX6_copyFrom 20 = .ok (.iconst 0, 1) := by decide +kernel
theorem dX6_copyFrom_21 : decode cX6_copyFrom 21 = .ok (.iconst 5, 1) := by decide +kernel
theorem dX6_copyFrom_22 : decode cX6_copyFrom 22 = .ok (.invokestatic 60, 3) := by decide +kernel
theorem dX6_copyFrom_25 : decode cX6_copyFrom 25 = .ok (.aload_n 1, 1) := by decide +kernel
theorem dX6_copyFrom_26 : decode cX6_copyFrom 26 = .ok (.getfield 22, 3) := by decide +kernel
theorem dX6_copyFrom_29 : decode cX6_copyFrom 29 = .ok (.iconst 0, 1) := by decide +kernel
theorem dX6_copyFrom_30 : decode cX6_copyFrom 30 = .ok (.aload_n 0, 1) := by decide +kernel
theorem dX6_copyFrom_31 : decode cX6_copyFrom 31 = .ok (.getfield 22, 3) := by decide +kernel
theorem dX6_copyFrom_34 : decode cX6_copyFrom 34 = .ok (.iconst 0, 1) := by decide +kernel
theorem dX6_copyFrom_35 : decode cX6_copyFrom 35 = .ok (.iconst 5, 1) := by decide +kernel
theorem dX6_copyFrom_36 : decode cX6_copyFrom 36 = .ok (.invokestatic 60, 3) := by decide +kernel
theorem dX6_copyFrom_39 : decode cX6_copyFrom 39 = .ok (.aload_n 0, 1) := by decide +kernel
theorem dX6_copyFrom_40 : decode cX6_copyFrom 40 = .ok (.aload_n 1, 1) := by decide +kernel
theorem dX6_copyFrom_41 : decode cX6_copyFrom 41 = .ok (.getfield 44, 3) := by decide +kernel
theorem dX6_copyFrom_44 : decode cX6_copyFrom 44 = .ok (.putfield 44, 3) := by decide +kernel
theorem dX6_copyFrom_47 : decode cX6_copyFrom 47 = .ok (.aload_n 0, 1) := by decide +kernel
theorem dX6_copyFrom_48 : decode cX6_copyFrom 48 = .ok (.aload_n 1, 1) := by decide +kernel
theorem dX6_copyFrom_49 : decode cX6_copyFrom 49 = .ok (.getfield 37, 3) := by decide +kernel
theorem dX6_copyFrom_52 : decode cX6_copyFrom 52 = .ok (.putfield 37, 3) := by decide +kernel
theorem dX6_copyFrom_55 : decode cX6_copyFrom 55 = .ok (.aload_n 0, 1) := by decide +kernel
theorem dX6_copyFrom_56 : decode cX6_copyFrom 56 = .ok (.aload_n 1, 1) := by decide +kernel
theorem dX6_copyFrom_57 : decode cX6_copyFrom 57 = .ok (.getfield 41, 3) := by decide +kernel
theorem dX6_copyFrom_60 : decode cX6_copyFrom 60 = .ok (.putfield 41, 3) := by decide +kernel
theorem dX6_copyFrom_63 : decode cX6_copyFrom 63 = .ok (.aload_n 0, 1) := by decide +kernel
theorem dX6_copyFrom_64 : decode cX6_copyFrom 64 = .ok (.aload_n 1, 1) := by decide +kernel
theorem dX6_copyFrom_65 : decode cX6_copyFrom 65 = .ok (.getfield 47, 3) := by decide +kernel
theorem dX6_copyFrom_68 : decode cX6_copyFrom 68 = .ok (.putfield 47, 3) := by decide +kernel
theorem dX6_copyFrom_71 : decode cX6_copyFrom 71 = .ok (.aload_n 0, 1) := by decide +kernel
theorem dX6_copyFrom_72 : decode cX6_copyFrom 72 = .ok (.aload_n 1, 1) := by decide +kernel
theorem dX6_copyFrom_73 : decode cX6_copyFrom 73 = .ok (.getfield 50, 3) := by decide +kernel
theorem dX6_copyFrom_76 : decode cX6_copyFrom 76 = .ok (.putfield 50, 3) := by decide +kernel
theorem dX6_copyFrom_79 : decode cX6_copyFrom 79 = .ok (.aload_n 0, 1) := by decide +kernel
theorem dX6_copyFrom_80 : decode cX6_copyFrom 80 = .ok (.aload_n 1, 1) := by decide +kernel
theorem dX6_copyFrom_81 : decode cX6_copyFrom 81 = .ok (.getfield 53, 3) := by decide +kernel
theorem dX6_copyFrom_84 : decode cX6_copyFrom 84 = .ok (.putfield 53, 3) := by decide +kernel
theorem dX6_copyFrom_87 : decode cX6_copyFrom 87 = .ok (.return_, 1) := by decide +kernel
theorem dX6_welcome_0 : decode cX6_welcome 0 = .ok (.aload_n 0, 1) := by decide +kernel
theorem dX6_welcome_1 : decode cX6_welcome 1 = .ok (.getfield 44, 3) := by decide +kernel
theorem dX6_welcome_4 : decode cX6_welcome 4 = .ok (.ifCond .lt 29, 3) := by decide +kernel
theorem dX6_welcome_7 : decode cX6_welcome 7 = .ok (.aload_n 0, 1) := by decide +kernel
theorem dX6_welcome_8 : decode cX6_welcome 8 = .ok (.getfield 44, 3) := by decide +kernel
theorem dX6_welcome_11 : decode cX6_welcome 11 = .ok (.iconst 5, 1) := by decide +kernel
theorem dX6_welcome_12 : decode cX6_welcome 12 = .ok (.if_icmp .ge 21, 3) := by decide +kernel
theorem dX6_welcome_15 : decode cX6_welcome 15 = .ok (.iload_n 1, 1) := by decide +kernel
theorem dX6_welcome_16 : decode cX6_welcome 16 = .ok (.invokestatic 66, 3) := by decide +kernel
theorem dX6_welcome_19 : decode cX6_welcome 19 = .ok (.ifCond .eq 14, 3) := by decide +kernel
theorem dX6_welcome_22 : decode cX6_welcome 22 = .ok (.aload_n 0, 1) := by decide +kernel
theorem dX6_welcome_23 : decode cX6_welcome 23 = .ok (.getfield 12, 3) := by decide +kernel
theorem dX6_welcome_26 : decode cX6_welcome 26 = .ok (.iload_n 2, 1) := by decide +kernel
theorem dX6_welcome_27 : decode cX6_welcome 27 = .ok (.invokevirtual 70, 3) := by decide +kernel
theorem dX6_welcome_30 : decode cX6_welcome 30 = .ok (.ifCond .ne 4, 3) := by decide +kernel
theorem dX6_welcome_33 : decode cX6_welcome 33 = .ok (.return_, 1) := by decide +kernel
theorem dX6_welcome_34 : decode cX6_welcome 34 = .ok (.aload_n 0, 1) := by decide +kernel
theorem dX6_welcome_35 : decode cX6_welcome 35 = .ok (.getfield 18, 3) := by decide +kernel
theorem dX6_welcome_38 : decode cX6_welcome 38 = .ok (.aload_n 0, 1) := by decide +kernel
theorem dX6_welcome_39 : decode cX6_welcome 39 = .ok (.getfield 44, 3) := by decide +kernel
theorem dX6_welcome_42 : decode cX6_welcome 42 = .ok (.iload_n 1, 1) := by decide +kernel
theorem dX6_welcome_43 : decode cX6_welcome 43 = .ok (.iastore, 1) := by decide +kernel
theorem dX6_welcome_44 : decode cX6_welcome 44 = .ok (.aload_n 0, 1) := by decide +kernel
theorem dX6_welcome_45 : decode cX6_welcome 45 = .ok (.getfield 22, 3) := by decide +kernel
theorem dX6_welcome_48 : decode cX6_welcome 48 = .ok (.aload_n 0, 1) := by decide +kernel
theorem dX6_welcome_49 : decode cX6_welcome 49 = .ok (.getfield 44, 3) := by decide +kernel
theorem dX6_welcome_52 : decode cX6_welcome 52 = .ok (.iload_n 2, 1) := by decide +kernel
theorem dX6_welcome_53 : decode cX6_welcome 53 = .ok (.iastore, 1) := by decide +kernel
theorem dX6_welcome_54 : decode cX6_welcome 54 = .ok (.aload_n 0, 1) := by decide +kernel
theorem dX6_welcome_55 : decode cX6_welcome 55 = .ok (.getfield 12, 3) := by decide +kernel
theorem dX6_welcome_58 : decode cX6_welcome 58 = .ok (.getfield 34, 3) := by decide +kernel
theorem dX6_welcome_61 : decode cX6_welcome 61 = .ok (.iload_n 2, 1) := by decide +kernel
theorem dX6_welcome_62 : decode cX6_welcome 62 = .ok (.dup2, 1) := by decide +kernel
theorem dX6_welcome_63 : decode cX6_welcome 63 = .ok (.iaload, 1) := by decide +kernel
theorem dX6_welcome_64 : decode cX6_welcome 64 = .ok (.getstatic 73, 3) := by decide +kernel
theorem dX6_welcome_67 : decode cX6_welcome 67 = .ok (.iload_n 1, 1) := by decide +kernel
theorem dX6_welcome_68 : decode cX6_welcome 68 = .ok (.iaload, 1) := by decide +kernel
theorem dX6_welcome_69 : decode cX6_welcome 69 = .ok (.iadd, 1) := by decide +kernel
theorem dX6_welcome_70 : decode cX6_welcome 70 = .ok (.iastore, 1) := by decide +kernel
theorem dX6_welcome_71 : decode cX6_welcome 71 = .ok (.aload_n 0, 1) := by decide +kernel
theorem dX6_welcome_72 : decode cX6_welcome 72 = .ok (.dup, 1) := by decide +kernel
theorem dX6_welcome_73 : decode cX6_welcome 73 = .ok (.getfield 44, 3) := by decide +kernel
theorem dX6_welcome_76 : decode cX6_welcome 76 = .ok (.iconst 1, 1) := by decide +kernel
theorem dX6_welcome_77 : decode cX6_welcome 77 = .ok (.iadd, 1) := by decide +kernel
theorem dX6_welcome_78 : decode cX6_welcome 78 = .ok (.putfield 44, 3) := by decide +kernel
theorem dX6_welcome_81 : decode cX6_welcome 81 = .ok (.return_, 1) := by decide +kernel
theorem dX6_rehouse_0 : decode cX6_rehouse 0 = .ok (.aload_n 0, 1) := by decide +kernel
theorem dX6_rehouse_1 : decode cX6_rehouse 1 = .ok (.iload_n 1, 1) := by decide +kernel
theorem dX6_rehouse_2 : decode cX6_rehouse 2 = .ok (.invokevirtual 76, 3) := by decide +kernel
theorem dX6_rehouse_5 : decode cX6_rehouse 5 = .ok (.ifCond .eq 22, 3) := by decide +kernel
theorem dX6_rehouse_8 : decode cX6_rehouse 8 = .ok (.aload_n 0, 1) := by decide +kernel
theorem dX6_rehouse_9 : decode cX6_rehouse 9 = .ok (.getfield 12, 3) := by decide +kernel
theorem dX6_rehouse_12 : decode cX6_rehouse 12 = .ok (.iload_n 2, 1) := by decide +kernel
theorem dX6_rehouse_13 : decode cX6_rehouse 13 = .ok (.invokevirtual 70, 3) := by decide +kernel
theorem dX6_rehouse_16 : decode cX6_rehouse 16 = .ok (.ifCond .eq 11, 3) := by decide +kernel
theorem dX6_rehouse_19 : decode cX6_rehouse 19 = .ok (.aload_n 0, 1) := by decide +kernel
theorem dX6_rehouse_20 : decode cX6_rehouse 20 = .ok (.iload_n 1, 1) := by decide +kernel
theorem dX6_rehouse_21 : decode cX6_rehouse 21 = .ok (.invokevirtual 79, 3) := by decide +kernel
theorem dX6_rehouse_24 : decode cX6_rehouse 24 = .ok (.ifCond .eq 5, 3) := by decide +kernel
theorem dX6_rehouse_27 : decode cX6_rehouse 27 = .ok (.iconst 0, 1) := by decide +kernel
theorem dX6_rehouse_28 : decode cX6_rehouse 28 = .ok (.ireturn, 1) := by decide +kernel
theorem dX6_rehouse_29 : decode cX6_rehouse 29 = .ok (.aload_n 0, 1) := by decide +kernel
theorem dX6_rehouse_30 : decode cX6_rehouse 30 = .ok (.iload_n 1, 1) := by decide +kernel
theorem dX6_rehouse_31 : decode cX6_rehouse 31 = .ok (.invokevirtual 82, 3) := by decide +kernel
theorem dX6_rehouse_34 : decode cX6_rehouse 34 = .ok (.istore_n 3, 1) := by decide +kernel
theorem dX6_rehouse_35 : decode cX6_rehouse 35 = .ok (.aload_n 0, 1) := by decide +kernel
theorem dX6_rehouse_36 : decode cX6_rehouse 36 = .ok (.getfield 22, 3) := by decide +kernel
theorem dX6_rehouse_39 : decode cX6_rehouse 39 = .ok (.iload_n 1, 1) := by decide +kernel
theorem dX6_rehouse_40 : decode cX6_rehouse 40 = .ok (.iaload, 1) := by decide +kernel
theorem dX6_rehouse_41 : decode cX6_rehouse 41 = .ok (.istore 4, 2) := by decide +kernel
theorem dX6_rehouse_43 : decode cX6_rehouse 43 = .ok (.iload 4, 2) := by decide +kernel
theorem dX6_rehouse_45 : decode cX6_rehouse 45 = .ok (.ifCond .lt 24, 3) := by decide +kernel
theorem dX6_rehouse_48 : decode cX6_rehouse 48 = .ok (.iload 4, 2) := by decide +kernel
theorem dX6_rehouse_50 : decode cX6_rehouse 50 = .ok (.bipush 6, 2) := by decide +kernel
theorem dX6_rehouse_52 : decode cX6_rehouse 52 = .ok (.if_icmp .ge 17, 3) := by decide +kernel
theorem dX6_rehouse_55 : decode cX6_rehouse 55 = .ok (.aload_n 0, 1) := by decide +kernel
theorem dX6_rehouse_56 : decode cX6_rehouse 56 = .ok (.getfield 12, 3) := by decide +kernel
theorem dX6_rehouse_59 : decode cX6_rehouse 59 = .ok (.getfield 34, 3) := by decide +kernel
theorem dX6_rehouse_62 : decode cX6_rehouse 62 = .ok (.iload 4, 2) := by decide +kernel
theorem dX6_rehouse_64 : decode cX6_rehouse 64 = .ok (.dup2, 1) := by decide +kernel
theorem dX6_rehouse_65 : decode cX6_rehouse 65 = .ok (.iaload, 1) := by decide +kernel
theorem dX6_rehouse_66 : decode cX6_rehouse 66 = .ok (.iload_n 3, 1) := by decide +kernel
theorem dX6_rehouse_67 : decode cX6_rehouse 67 = .ok (.isub, 1) := by decide +kernel
theorem dX6_rehouse_68 : decode cX6_rehouse 68 = .ok (.iastore, 1) := by decide +kernel
theorem dX6_rehouse_69 : decode cX6_rehouse 69 = .ok (.aload_n 0, 1) := by decide +kernel
theorem dX6_rehouse_70 : decode cX6_rehouse 70 = .ok (.getfield 12, 3) := by decide +kernel
theorem dX6_rehouse_73 : decode cX6_rehouse 73 = .ok (.getfield 34, 3) := by decide +kernel
theorem dX6_rehouse_76 : decode cX6_rehouse 76 = .ok (.iload_n 2, 1) := by decide +kernel
theorem dX6_rehouse_77 : decode cX6_rehouse 77 = .ok (.dup2, 1) := by decide +kernel
theorem dX6_rehouse_78 : decode cX6_rehouse 78 = .ok (.iaload, 1) := by decide +kernel
theorem dX6_rehouse_79 : decode cX6_rehouse 79 = .ok (.iload_n 3, 1) := by decide +kernel
theorem dX6_rehouse_80 : decode cX6_rehouse 80 = .ok (.iadd, 1) := by decide +kernel
theorem dX6_rehouse_81 : decode cX6_rehouse 81 = .ok (.iastore, 1) := by decide +kernel
theorem dX6_rehouse_82 : decode cX6_rehouse 82 = .ok (.aload_n 0, 1) := by decide +kernel
theorem dX6_rehouse_83 : decode cX6_rehouse 83 = .ok (.getfield 22, 3) := by decide +kernel
theorem dX6_rehouse_86 : decode cX6_rehouse 86 = .ok (.iload_n 1, 1) := by decide +kernel
theorem dX6_rehouse_87 : decode cX6_rehouse 87 = .ok (.iload_n 2, 1) := by decide +kernel
theorem dX6_rehouse_88 : decode cX6_rehouse 88 = .ok (.iastore, 1) := by decide +kernel
theorem dX6_rehouse_89 : decode cX6_rehouse 89 = .ok (.iconst 1, 1) := by decide +kernel
theorem dX6_rehouse_90 : decode cX6_rehouse 90 = .ok (.ireturn, 1) := by decide +kernel
theorem dX6_liveDay_0 : decode cX6_liveDay 0 = .ok (.aload_n 0, 1) := by decide +kernel
theorem dX6_liveDay_1 : decode cX6_liveDay 1 = .ok (.getfield 12, 3) := by decide +kernel
theorem dX6_liveDay_4 : decode cX6_liveDay 4 = .ok (.invokevirtual 85, 3) := by decide +kernel
theorem dX6_liveDay_7 : decode cX6_liveDay 7 = .ok (.istore_n 1, 1) := by decide +kernel
theorem dX6_liveDay_8 : decode cX6_liveDay 8 = .ok (.aload_n 0, 1) := by decide +kernel
theorem dX6_liveDay_9 : decode cX6_liveDay 9 = .ok (.dup, 1) := by decide +kernel
theorem dX6_liveDay_10 : decode cX6_liveDay 10 = .ok (.getfield 47, 3) := by decide +kernel
theorem dX6_liveDay_13 : decode cX6_liveDay 13 = .ok (.iconst 1, 1) := by decide +kernel
theorem dX6_liveDay_14 : decode cX6_liveDay 14 = .ok (.iadd, 1) := by decide +kernel
theorem dX6_liveDay_15 : decode cX6_liveDay 15 = .ok (.putfield 47, 3) := by decide +kernel
theorem dX6_liveDay_18 : decode cX6_liveDay 18 = .ok (.aload_n 0, 1) := by decide +kernel
theorem dX6_liveDay_19 : decode cX6_liveDay 19 = .ok (.dup, 1) := by decide +kernel
theorem dX6_liveDay_20 : decode cX6_liveDay 20 = .ok (.getfield 50, 3) := by decide +kernel
theorem dX6_liveDay_23 : decode cX6_liveDay 23 = .ok (.iload_n 1, 1) := by decide +kernel
theorem dX6_liveDay_24 : decode cX6_liveDay 24 = .ok (.iadd, 1) := by decide +kernel
theorem dX6_liveDay_25 : decode cX6_liveDay 25 = .ok (.putfield 50, 3) := by decide +kernel
theorem dX6_liveDay_28 : decode cX6_liveDay 28 = .ok (.iload_n 1, 1) := by decide +kernel
theorem dX6_liveDay_29 : decode cX6_liveDay 29 = .ok (.ireturn, 1) := by decide +kernel
theorem dX6_weightOf_0 : decode cX6_weightOf 0 = .ok (.aload_n 0, 1) := by decide +kernel
theorem dX6_weightOf_1 : decode cX6_weightOf 1 = .ok (.iload_n 1, 1) := by decide +kernel
theorem dX6_weightOf_2 : decode cX6_weightOf 2 = .ok (.invokevirtual 76, 3) := by decide +kernel
theorem dX6_weightOf_5 : decode cX6_weightOf 5 = .ok (.ifCond .eq 28, 3) := by decide +kernel
theorem dX6_weightOf_8 : decode cX6_weightOf 8 = .ok (.aload_n 0, 1) := by decide +kernel
theorem dX6_weightOf_9 : decode cX6_weightOf 9 = .ok (.getfield 18, 3) := by decide +kernel
theorem dX6_weightOf_12 : decode cX6_weightOf 12 = .ok (.iload_n 1, 1) := by decide +kernel
theorem dX6_weightOf_13 : decode cX6_weightOf 13 = .ok (.iaload, 1) := by decide +kernel
theorem dX6_weightOf_14 : decode cX6_weightOf 14 = .ok (.invokestatic 66, 3) := by decide +kernel
theorem dX6_weightOf_17 : decode cX6_weightOf 17 = .ok (.ifCond .eq 16, 3) := by decide +kernel
theorem dX6_weightOf_20 : decode cX6_weightOf 20 = .ok (.getstatic 73, 3) := by decide +kernel
theorem dX6_weightOf_23 : decode cX6_weightOf 23 = .ok (.aload_n 0, 1) := by decide +kernel
theorem dX6_weightOf_24 : decode cX6_weightOf 24 = .ok (.getfield 18, 3) := by decide +kernel
theorem dX6_weightOf_27 : decode cX6_weightOf 27 = .ok (.iload_n 1, 1) := by decide +kernel
theorem dX6_weightOf_28 : decode cX6_weightOf 28 = .ok (.iaload, 1) := by decide +kernel
theorem dX6_weightOf_29 : decode cX6_weightOf 29 = .ok (.iaload, 1) := by decide +kernel
theorem dX6_weightOf_30 : decode cX6_weightOf 30 = .ok (.goto 4, 3) := by decide +kernel
theorem dX6_weightOf_33 : decode cX6_weightOf 33 = .ok (.iconst 0, 1) := by decide +kernel
theorem dX6_weightOf_34 : decode cX6_weightOf 34 = .ok (.ireturn, 1) := by decide +kernel
theorem dX6_breathOf_0 : decode cX6_breathOf 0 = .ok (.aload_n 0, 1) := by decide +kernel
theorem dX6_breathOf_1 : decode cX6_breathOf 1 = .ok (.iload_n 1, 1) := by decide +kernel
theorem dX6_breathOf_2 : decode cX6_breathOf 2 = .ok (.invokevirtual 76, 3) := by decide +kernel
theorem dX6_breathOf_5 : decode cX6_breathOf 5 = .ok (.ifCond .eq 28, 3) := by decide +kernel
theorem dX6_breathOf_8 : decode cX6_breathOf 8 = .ok (.aload_n 0, 1) := by decide +kernel
theorem dX6_breathOf_9 : decode cX6_breathOf 9 = .ok (.getfield 18, 3) := by decide +kernel
theorem dX6_breathOf_12 : decode cX6_breathOf 12 = .ok (.iload_n 1, 1) := by decide +kernel
theorem dX6_breathOf_13 : decode cX6_breathOf 13 = .ok (.iaload, 1) := by decide +kernel
theorem dX6_breathOf_14 : decode cX6_breathOf 14 = .ok (.invokestatic 66, 3) := by decide +kernel
theorem dX6_breathOf_17 : decode cX6_breathOf 17 = .ok (.ifCond .eq 16, 3) := by decide +kernel
theorem dX6_breathOf_20 : decode cX6_breathOf 20 = .ok (.getstatic 89, 3) := by decide +kernel
theorem dX6_breathOf_23 : decode cX6_breathOf 23 = .ok (.aload_n 0, 1) := by decide +kernel
theorem dX6_breathOf_24 : decode cX6_breathOf 24 = .ok (.getfield 18, 3) := by decide +kernel
theorem dX6_breathOf_27 : decode cX6_breathOf 27 = .ok (.iload_n 1, 1) := by decide +kernel
theorem dX6_breathOf_28 : decode cX6_breathOf 28 = .ok (.iaload, 1) := by decide +kernel
theorem dX6_breathOf_29 : decode cX6_breathOf 29 = .ok (.iaload, 1) := by decide +kernel
theorem dX6_breathOf_30 : decode cX6_breathOf 30 = .ok (.goto 4, 3) := by decide +kernel
theorem dX6_breathOf_33 : decode cX6_breathOf 33 = .ok (.iconst 0, 1) := by decide +kernel
theorem dX6_breathOf_34 : decode cX6_breathOf 34 = .ok (.ireturn, 1) := by decide +kernel
theorem dX6_isCutOff_0 : decode cX6_isCutOff 0 = .ok (.aload_n 0, 1) := by decide +kernel
theorem dX6_isCutOff_1 : decode cX6_isCutOff 1 = .ok (.iload_n 1, 1) := by decide +kernel
theorem dX6_isCutOff_2 : decode cX6_isCutOff 2 = .ok (.invokevirtual 76, 3) := by decide +kernel
theorem dX6_isCutOff_5 : decode cX6_isCutOff 5 = .ok (.ifCond .eq 23, 3) := by decide +kernel
theorem dX6_isCutOff_8 : decode cX6_isCutOff 8 = .ok (.aload_n 0, 1) := by decide +kernel
theorem dX6_isCutOff_9 : decode cX6_isCutOff 9 = .ok (.getfield 22, 3) := by decide +kernel
theorem dX6_isCutOff_12 : decode cX6_isCutOff 12 = .ok (.iload_n 1, 1) := by decide +kernel
theorem dX6_isCutOff_13 : decode cX6_isCutOff 13 = .ok (.iaload, 1) := by decide +kernel
theorem dX6_isCutOff_14 : decode cX6_isCutOff 14 = .ok (.aload_n 0, 1) := by decide +kernel
theorem dX6_isCutOff_15 : decode cX6_isCutOff 15 = .ok (.getfield 12, 3) := by decide +kernel
theorem dX6_isCutOff_18 : decode cX6_isCutOff 18 = .ok (.invokevirtual 92, 3) := by decide +kernel
theorem dX6_isCutOff_21 : decode cX6_isCutOff 21 = .ok (.if_icmp .lt 7, 3) := by decide +kernel
theorem dX6_isCutOff_24 : decode cX6_isCutOff 24 = .ok (.iconst 1, 1) := by decide +kernel
theorem dX6_isCutOff_25 : decode cX6_isCutOff 25 = .ok (.goto 4, 3) := by decide +kernel
theorem dX6_isCutOff_28 : decode cX6_isCutOff 28 = .ok (.iconst 0, 1) := by decide +kernel
theorem dX6_isCutOff_29 : decode cX6_isCutOff 29 = .ok (.ireturn, 1) := by decide +kernel
theorem dX6_cutOffs_0 : decode cX6_cutOffs 0 = .ok (.iconst 0, 1) := by decide +kernel
theorem dX6_cutOffs_1 : decode cX6_cutOffs 1 = .ok (.istore_n 1, 1) := by decide +kernel
theorem dX6_cutOffs_2 : decode cX6_cutOffs 2 = .ok (.iconst 0, 1) := by decide +kernel
theorem dX6_cutOffs_3 : decode cX6_cutOffs 3 = .ok (.istore_n 2, 1) := by decide +kernel
theorem dX6_cutOffs_4 : decode cX6_cutOffs 4 = .ok (.iload_n 2, 1) := by decide +kernel
theorem dX6_cutOffs_5 : decode cX6_cutOffs 5 = .ok (.aload_n 0, 1) := by decide +kernel
theorem dX6_cutOffs_6 : decode cX6_cutOffs 6 = .ok (.getfield 44, 3) := by decide +kernel
theorem dX6_cutOffs_9 : decode cX6_cutOffs 9 = .ok (.if_icmp .ge 25, 3) := by decide +kernel
theorem dX6_cutOffs_12 : decode cX6_cutOffs 12 = .ok (.iload_n 1, 1) := by decide +kernel
theorem dX6_cutOffs_13 : decode cX6_cutOffs 13 = .ok (.aload_n 0, 1) := by decide +kernel
theorem dX6_cutOffs_14 : decode cX6_cutOffs 14 = .ok (.iload_n 2, 1) := by decide +kernel
theorem dX6_cutOffs_15 : decode cX6_cutOffs 15 = .ok (.invokevirtual 79, 3) := by decide +kernel
theorem dX6_cutOffs_18 : decode cX6_cutOffs 18 = .ok (.ifCond .eq 7, 3) := by decide +kernel
theorem dX6_cutOffs_21 : decode cX6_cutOffs 21 = .ok (.iconst 1, 1) := by decide +kernel
theorem dX6_cutOffs_22 : decode cX6_cutOffs 22 = .ok (.goto 4, 3) := by decide +kernel
theorem dX6_cutOffs_25 : decode cX6_cutOffs 25 = .ok (.iconst 0, 1) := by decide +kernel
theorem dX6_cutOffs_26 : decode cX6_cutOffs 26 = .ok (.iadd, 1) := by decide +kernel
theorem dX6_cutOffs_27 : decode cX6_cutOffs 27 = .ok (.istore_n 1, 1) := by decide +kernel
theorem dX6_cutOffs_28 : decode cX6_cutOffs 28 = .ok (.iinc 2 1, 3) := by decide +kernel
theorem dX6_cutOffs_31 : decode cX6_cutOffs 31 = .ok (.goto (-27), 3) := by decide +kernel
theorem dX6_cutOffs_34 : decode cX6_cutOffs 34 = .ok (.iload_n 1, 1) := by decide +kernel
theorem dX6_cutOffs_35 : decode cX6_cutOffs 35 = .ok (.ireturn, 1) := by decide +kernel
theorem dX6_dwellers_0 : decode cX6_dwellers 0 = .ok (.iconst 0, 1) := by decide +kernel
theorem dX6_dwellers_1 : decode cX6_dwellers 1 = .ok (.istore_n 2, 1) := by decide +kernel
theorem dX6_dwellers_2 : decode cX6_dwellers 2 = .ok (.iconst 0, 1) := by decide +kernel
theorem dX6_dwellers_3 : decode cX6_dwellers 3 = .ok (.istore_n 3, 1) := by decide +kernel
theorem dX6_dwellers_4 : decode cX6_dwellers 4 = .ok (.iload_n 3, 1) := by decide +kernel
theorem dX6_dwellers_5 : decode cX6_dwellers 5 = .ok (.aload_n 0, 1) := by decide +kernel
theorem dX6_dwellers_6 : decode cX6_dwellers 6 = .ok (.getfield 44, 3) := by decide +kernel
theorem dX6_dwellers_9 : decode cX6_dwellers 9 = .ok (.if_icmp .ge 34, 3) := by decide +kernel
theorem dX6_dwellers_12 : decode cX6_dwellers 12 = .ok (.iload_n 3, 1) := by decide +kernel
theorem dX6_dwellers_13 : decode cX6_dwellers 13 = .ok (.iconst 5, 1) := by decide +kernel
theorem dX6_dwellers_14 : decode cX6_dwellers 14 = .ok (.if_icmp .ge 29, 3) := by decide +kernel
theorem dX6_dwellers_17 : decode cX6_dwellers 17 = .ok (.iload_n 2, 1) := by decide +kernel
theorem dX6_dwellers_18 : decode cX6_dwellers 18 = .ok (.aload_n 0, 1) := by decide +kernel
theorem dX6_dwellers_19 : decode cX6_dwellers 19 = .ok (.getfield 22, 3) := by decide +kernel
theorem dX6_dwellers_22 : decode cX6_dwellers 22 = .ok (.iload_n 3, 1) := by decide +kernel
theorem dX6_dwellers_23 : decode cX6_dwellers 23 = .ok (.iaload, 1) := by decide +kernel
theorem dX6_dwellers_24 : decode cX6_dwellers 24 = .ok (.iload_n 1, 1) := by decide +kernel
theorem dX6_dwellers_25 : decode cX6_dwellers 25 = .ok (.if_icmp .ne 9, 3) := by decide +kernel
theorem dX6_dwellers_28 : decode cX6_dwellers 28 = .ok (.iconst 1, 1) := by decide +kernel
theorem dX6_dwellers_29 : decode cX6_dwellers 29 = .ok (.iload_n 3, 1) := by decide +kernel
theorem dX6_dwellers_30 : decode cX6_dwellers 30 = .ok (.ishl, 1) := by decide +kernel
theorem dX6_dwellers_31 : decode cX6_dwellers 31 = .ok (.goto 4, 3) := by decide +kernel
theorem dX6_dwellers_34 : decode cX6_dwellers 34 = .ok (.iconst 0, 1) := by decide +kernel
theorem dX6_dwellers_35 : decode cX6_dwellers 35 = .ok (.ior, 1) := by decide +kernel
theorem dX6_dwellers_36 : decode cX6_dwellers 36 = .ok (.istore_n 2, 1) := by decide +kernel
theorem dX6_dwellers_37 : decode cX6_dwellers 37 = .ok (.iinc 3 1, 3) := by decide +kernel
theorem dX6_dwellers_40 : decode cX6_dwellers 40 = .ok (.goto (-36), 3) := by decide +kernel
theorem dX6_dwellers_43 : decode cX6_dwellers 43 = .ok (.iload_n 2, 1) := by decide +kernel
theorem dX6_dwellers_44 : decode cX6_dwellers 44 = .ok (.ireturn, 1) := by decide +kernel
theorem dX6_gaspers_0 : decode cX6_gaspers 0 = .ok (.aload_n 0, 1) := by decide +kernel
theorem dX6_gaspers_1 : decode cX6_gaspers 1 = .ok (.getfield 37, 3) := by decide +kernel
theorem dX6_gaspers_4 : decode cX6_gaspers 4 = .ok (.istore_n 1, 1) := by decide +kernel
theorem dX6_gaspers_5 : decode cX6_gaspers 5 = .ok (.iconst 0, 1) := by decide +kernel
theorem dX6_gaspers_6 : decode cX6_gaspers 6 = .ok (.istore_n 2, 1) := by decide +kernel
theorem dX6_gaspers_7 : decode cX6_gaspers 7 = .ok (.iconst 0, 1) := by decide +kernel
theorem dX6_gaspers_8 : decode cX6_gaspers 8 = .ok (.istore_n 3, 1) := by decide +kernel
theorem dX6_gaspers_9 : decode cX6_gaspers 9 = .ok (.iload_n 3, 1) := by decide +kernel
theorem dX6_gaspers_10 : decode cX6_gaspers 10 = .ok (.bipush 6, 2) := by decide +kernel
theorem dX6_gaspers_12 : decode cX6_gaspers 12 = .ok (.if_icmp .ge 85, 3) := by decide +kernel
theorem dX6_gaspers_15 : decode cX6_gaspers 15 = .ok (.aload_n 0, 1) := by decide +kernel
theorem dX6_gaspers_16 : decode cX6_gaspers 16 = .ok (.iload_n 3, 1) := by decide +kernel
theorem dX6_gaspers_17 : decode cX6_gaspers 17 = .ok (.invokevirtual 95, 3) := by decide +kernel
theorem dX6_gaspers_20 : decode cX6_gaspers 20 = .ok (.istore 4, 2) := by decide +kernel
theorem dX6_gaspers_22 : decode cX6_gaspers 22 = .ok (.iconst 0, 1) := by decide +kernel
theorem dX6_gaspers_23 : decode cX6_gaspers 23 = .ok (.istore 5, 2) := by decide +kernel
theorem dX6_gaspers_25 : decode cX6_gaspers 25 = .ok (.iload 5, 2) := by decide +kernel
theorem dX6_gaspers_27 : decode cX6_gaspers 27 = .ok (.aload_n 0, 1) := by decide +kernel
theorem dX6_gaspers_28 : decode cX6_gaspers 28 = .ok (.getfield 44, 3) := by decide +kernel
theorem dX6_gaspers_31 : decode cX6_gaspers 31 = .ok (.if_icmp .ge 60, 3) := by decide +kernel
theorem dX6_gaspers_34 : decode cX6_gaspers 34 = .ok (.iload 4, 2) := by decide +kernel
theorem dX6_gaspers_36 : decode cX6_gaspers 36 = .ok (.iload 5, 2) := by decide +kernel
theorem dX6_gaspers_38 : decode cX6_gaspers 38 = .ok (.ishr, 1) := by decide +kernel
theorem dX6_gaspers_39 : decode cX6_gaspers 39 = .ok (.iconst 1, 1) := by decide +kernel
theorem dX6_gaspers_40 : decode cX6_gaspers 40 = .ok (.iand, 1) := by decide +kernel
theorem dX6_gaspers_41 : decode cX6_gaspers 41 = .ok (.ifCond .ne 6, 3) := by decide +kernel
theorem dX6_gaspers_44 : decode cX6_gaspers 44 = .ok (.goto 41, 3) := by decide +kernel
theorem dX6_gaspers_47 : decode cX6_gaspers 47 = .ok (.aload_n 0, 1) := by decide +kernel
theorem dX6_gaspers_48 : decode cX6_gaspers 48 = .ok (.iload 5, 2) := by decide +kernel
theorem dX6_gaspers_50 : decode cX6_gaspers 50 = .ok (.invokevirtual 79, 3) := by decide +kernel
theorem dX6_gaspers_53 : decode cX6_gaspers 53 = .ok (.ifCond .ne 13, 3) := by decide +kernel
theorem dX6_gaspers_56 : decode cX6_gaspers 56 = .ok (.aload_n 0, 1) := by decide +kernel
theorem dX6_gaspers_57 : decode cX6_gaspers 57 = .ok (.iload 5, 2) := by decide +kernel
theorem dX6_gaspers_59 : decode cX6_gaspers 59 = .ok (.invokevirtual 98, 3) := by decide +kernel
theorem dX6_gaspers_62 : decode cX6_gaspers 62 = .ok (.iload_n 1, 1) := by decide +kernel
theorem dX6_gaspers_63 : decode cX6_gaspers 63 = .ok (.if_icmp .le 13, 3) := by decide +kernel
theorem dX6_gaspers_66 : decode cX6_gaspers 66 = .ok (.iload_n 2, 1) := by decide +kernel
theorem dX6_gaspers_67 : decode cX6_gaspers 67 = .ok (.iconst 1, 1) := by decide +kernel
theorem dX6_gaspers_68 : decode cX6_gaspers 68 = .ok (.iload 5, 2) := by decide +kernel
theorem dX6_gaspers_70 : decode cX6_gaspers 70 = .ok (.ishl, 1) := by decide +kernel
theorem dX6_gaspers_71 : decode cX6_gaspers 71 = .ok (.ior, 1) := by decide +kernel
theorem dX6_gaspers_72 : decode cX6_gaspers 72 = .ok (.istore_n 2, 1) := by decide +kernel
theorem dX6_gaspers_73 : decode cX6_gaspers 73 = .ok (.goto 12, 3) := by decide +kernel
theorem dX6_gaspers_76 : decode cX6_gaspers 76 = .ok (.iload_n 1, 1) := by decide +kernel
theorem dX6_gaspers_77 : decode cX6_gaspers 77 = .ok (.aload_n 0, 1) := by decide +kernel
theorem dX6_gaspers_78 : decode cX6_gaspers 78 = .ok (.iload 5, 2) := by decide +kernel
theorem dX6_gaspers_80 : decode cX6_gaspers 80 = .ok (.invokevirtual 98, 3) := by decide +kernel
theorem dX6_gaspers_83 : decode cX6_gaspers 83 = .ok (.isub, 1) := by decide +kernel
theorem dX6_gaspers_84 : decode cX6_gaspers 84 = .ok (.istore_n 1, 1) := by decide +kernel
theorem dX6_gaspers_85 : decode cX6_gaspers 85 = .ok (.iinc 5 1, 3) := by decide +kernel
theorem dX6_gaspers_88 : decode cX6_gaspers 88 = .ok (.goto (-63), 3) := by decide +kernel
theorem dX6_gaspers_91 : decode cX6_gaspers 91 = .ok (.iinc 3 1, 3) := by decide +kernel
theorem dX6_gaspers_94 : decode cX6_gaspers 94 = .ok (.goto (-85), 3) := by decide +kernel
theorem dX6_gaspers_97 : decode cX6_gaspers 97 = .ok (.iload_n 2, 1) := by decide +kernel
theorem dX6_gaspers_98 : decode cX6_gaspers 98 = .ok (.ireturn, 1) := by decide +kernel
theorem dX6_minutesOut_0 : decode cX6_minutesOut 0 = .ok (.aload_n 0, 1) := by decide +kernel
theorem dX6_minutesOut_1 : decode cX6_minutesOut 1 = .ok (.getfield 44, 3) := by decide +kernel
theorem dX6_minutesOut_4 : decode cX6_minutesOut 4 = .ok (.aload_n 0, 1) := by decide +kernel
theorem dX6_minutesOut_5 : decode cX6_minutesOut 5 = .ok (.invokevirtual 101, 3) := by decide +kernel
theorem dX6_minutesOut_8 : decode cX6_minutesOut 8 = .ok (.isub, 1) := by decide +kernel
theorem dX6_minutesOut_9 : decode cX6_minutesOut 9 = .ok (.istore_n 1, 1) := by decide +kernel
theorem dX6_minutesOut_10 : decode cX6_minutesOut 10 = .ok (.iconst 0, 1) := by decide +kernel
theorem dX6_minutesOut_11 : decode cX6_minutesOut 11 = .ok (.istore_n 2, 1) := by decide +kernel
theorem dX6_minutesOut_12 : decode cX6_minutesOut 12 = .ok (.iconst 0, 1) := by decide +kernel
theorem dX6_minutesOut_13 : decode cX6_minutesOut 13 = .ok (.istore_n 3, 1) := by decide +kernel
theorem dX6_minutesOut_14 : decode cX6_minutesOut 14 = .ok (.iload_n 1, 1) := by decide +kernel
theorem dX6_minutesOut_15 : decode cX6_minutesOut 15 = .ok (.ifCond .le 45, 3) := by decide +kernel
theorem dX6_minutesOut_18 : decode cX6_minutesOut 18 = .ok (.iload_n 3, 1) := by decide +kernel
theorem dX6_minutesOut_19 : decode cX6_minutesOut 19 = .ok (.bipush 11, 2) := by decide +kernel
theorem dX6_minutesOut_21 : decode cX6_minutesOut 21 = .ok (.if_icmp .ge 39, 3) := by decide +kernel
theorem dX6_minutesOut_24 : decode cX6_minutesOut 24 = .ok (.iinc 3 1, 3) := by decide +kernel
theorem dX6_minutesOut_27 : decode cX6_minutesOut 27 = .ok (.iload_n 2, 1) := by decide +kernel
theorem dX6_minutesOut_28 : decode cX6_minutesOut 28 = .ok (.aload_n 0, 1) := by decide +kernel
theorem dX6_minutesOut_29 : decode cX6_minutesOut 29 = .ok (.getfield 41, 3) := by decide +kernel
theorem dX6_minutesOut_32 : decode cX6_minutesOut 32 = .ok (.invokestatic 104, 3) := by decide +kernel
theorem dX6_minutesOut_35 : decode cX6_minutesOut 35 = .ok (.istore 4, 2) := by decide +kernel
theorem dX6_minutesOut_37 : decode cX6_minutesOut 37 = .ok (.iload_n 2, 1) := by decide +kernel
theorem dX6_minutesOut_38 : decode cX6_minutesOut 38 = .ok (.iload 4, 2) := by decide +kernel
theorem dX6_minutesOut_40 : decode cX6_minutesOut 40 = .ok (.isub, 1) := by decide +kernel
theorem dX6_minutesOut_41 : decode cX6_minutesOut 41 = .ok (.istore_n 2, 1) := by decide +kernel
theorem dX6_minutesOut_42 : decode cX6_minutesOut 42 = .ok (.iload_n 1, 1) := by decide +kernel
theorem dX6_minutesOut_43 : decode cX6_minutesOut 43 = .ok (.iload 4, 2) := by decide +kernel
theorem dX6_minutesOut_45 : decode cX6_minutesOut 45 = .ok (.isub, 1) := by decide +kernel
theorem dX6_minutesOut_46 : decode cX6_minutesOut 46 = .ok (.istore_n 1, 1) := by decide +kernel
theorem dX6_minutesOut_47 : decode cX6_minutesOut 47 = .ok (.iload_n 2, 1) := by decide +kernel
theorem dX6_minutesOut_48 : decode cX6_minutesOut 48 = .ok (.aload_n 0, 1) := by decide +kernel
theorem dX6_minutesOut_49 : decode cX6_minutesOut 49 = .ok (.iload_n 3, 1) := by decide +kernel
theorem dX6_minutesOut_50 : decode cX6_minutesOut 50 = .ok (.iconst 1, 1) := by decide +kernel
theorem dX6_minutesOut_51 : decode cX6_minutesOut 51 = .ok (.isub, 1) := by decide +kernel
theorem dX6_minutesOut_52 : decode cX6_minutesOut 52 = .ok (.invokevirtual 110, 3) := by decide +kernel
theorem dX6_minutesOut_55 : decode cX6_minutesOut 55 = .ok (.iadd, 1) := by decide +kernel
theorem dX6_minutesOut_56 : decode cX6_minutesOut 56 = .ok (.istore_n 2, 1) := by decide +kernel
theorem dX6_minutesOut_57 : decode cX6_minutesOut 57 = .ok (.goto (-43), 3) := by decide +kernel
theorem dX6_minutesOut_60 : decode cX6_minutesOut 60 = .ok (.iload_n 3, 1) := by decide +kernel
theorem dX6_minutesOut_61 : decode cX6_minutesOut 61 = .ok (.ireturn, 1) := by decide +kernel
theorem dX6_comersFrom_0 : decode cX6_comersFrom 0 = .ok (.iload_n 1, 1) := by decide +kernel
theorem dX6_comersFrom_1 : decode cX6_comersFrom 1 = .ok (.aload_n 0, 1) := by decide +kernel
theorem dX6_comersFrom_2 : decode cX6_comersFrom 2 = .ok (.getfield 12, 3) := by decide +kernel
theorem dX6_comersFrom_5 : decode cX6_comersFrom 5 = .ok (.invokevirtual 92, 3) := by decide +kernel
theorem dX6_comersFrom_8 : decode cX6_comersFrom 8 = .ok (.if_icmp .ge 14, 3) := by decide +kernel
theorem dX6_comersFrom_11 : decode cX6_comersFrom 11 = .ok (.aload_n 0, 1) := by decide +kernel
theorem dX6_comersFrom_12 : decode cX6_comersFrom 12 = .ok (.iload_n 1, 1) := by decide +kernel
theorem dX6_comersFrom_13 : decode cX6_comersFrom 13 = .ok (.invokevirtual 95, 3) := by decide +kernel
theorem dX6_comersFrom_16 : decode cX6_comersFrom 16 = .ok (.invokestatic 113, 3) := by decide +kernel
theorem dX6_comersFrom_19 : decode cX6_comersFrom 19 = .ok (.goto 4, 3) := by decide +kernel
theorem dX6_comersFrom_22 : decode cX6_comersFrom 22 = .ok (.iconst 0, 1) := by decide +kernel
theorem dX6_comersFrom_23 : decode cX6_comersFrom 23 = .ok (.ireturn, 1) := by decide +kernel
theorem dX6_isHere_0 : decode cX6_isHere 0 = .ok (.iload_n 1, 1) := by decide +kernel
theorem dX6_isHere_1 : decode cX6_isHere 1 = .ok (.ifCond .lt 20, 3) := by decide +kernel
theorem dX6_isHere_4 : decode cX6_isHere 4 = .ok (.iload_n 1, 1) := by decide +kernel
theorem dX6_isHere_5 : decode cX6_isHere 5 = .ok (.aload_n 0, 1) := by decide +kernel
theorem dX6_isHere_6 : decode cX6_isHere 6 = .ok (.getfield 44, 3) := by decide +kernel
theorem dX6_isHere_9 : decode cX6_isHere 9 = .ok (.if_icmp .ge 12, 3) := by decide +kernel
theorem dX6_isHere_12 : decode cX6_isHere 12 = .ok (.iload_n 1, 1) := by decide +kernel
theorem dX6_isHere_13 : decode cX6_isHere 13 = .ok (.iconst 5, 1) := by decide +kernel
theorem dX6_isHere_14 : decode cX6_isHere 14 = .ok (.if_icmp .ge 7, 3) := by decide +kernel
theorem dX6_isHere_17 : decode cX6_isHere 17 = .ok (.iconst 1, 1) := by decide +kernel
theorem dX6_isHere_18 : decode cX6_isHere 18 = .ok (.goto 4, 3) := by decide +kernel
theorem dX6_isHere_21 : decode cX6_isHere 21 = .ok (.iconst 0, 1) := by decide +kernel
theorem dX6_isHere_22 : decode cX6_isHere 22 = .ok (.ireturn, 1) := by decide +kernel
theorem dX7_init_0 : decode cX7_init 0 = .ok (.aload_n 0, 1) := by decide +kernel
theorem dX7_init_1 : decode cX7_init 1 = .ok (.invokespecial 3, 3) := by decide +kernel
theorem dX7_init_4 : decode cX7_init 4 = .ok (.aload_n 0, 1) := by decide +kernel
theorem dX7_init_5 : decode cX7_init 5 = .ok (.new 9, 3) := by decide +kernel
theorem dX7_init_8 : decode cX7_init 8 = .ok (.dup, 1) := by decide +kernel
theorem dX7_init_9 : decode cX7_init 9 = .ok (.invokespecial 11, 3) := by decide +kernel
theorem dX7_init_12 : decode cX7_init 12 = .ok (.putfield 12, 3) := by decide +kernel
theorem dX7_init_15 : decode cX7_init 15 = .ok (.aload_n 0, 1) := by decide +kernel
theorem dX7_init_16 : decode cX7_init 16 = .ok (.new 16, 3) := by decide +kernel
theorem dX7_init_19 : decode cX7_init 19 = .ok (.dup, 1) := by decide +kernel
theorem dX7_init_20 : decode cX7_init 20 = .ok (.invokespecial 18, 3) := by decide +kernel
theorem dX7_init_23 : decode cX7_init 23 = .ok (.putfield 19, 3) := by decide +kernel
theorem dX7_init_26 : decode cX7_init 26 = .ok (.aload_n 0, 1) := by decide +kernel
theorem dX7_init_27 : decode cX7_init 27 = .ok (.new 23, 3) := by decide +kernel
theorem dX7_init_30 : decode cX7_init 30 = .ok (.dup, 1) := by decide +kernel
theorem dX7_init_31 : decode cX7_init 31 = .ok (.invokespecial 25, 3) := by decide +kernel
theorem dX7_init_34 : decode cX7_init 34 = .ok (.putfield 26, 3) := by decide +kernel
theorem dX7_init_37 : decode cX7_init 37 = .ok (.aload_n 0, 1) := by decide +kernel
theorem dX7_init_38 : decode cX7_init 38 = .ok (.new 16, 3) := by decide +kernel
theorem dX7_init_41 : decode cX7_init 41 = .ok (.dup, 1) := by decide +kernel
theorem dX7_init_42 : decode cX7_init 42 = .ok (.invokespecial 18, 3) := by decide +kernel
theorem dX7_init_45 : decode cX7_init 45 = .ok (.putfield 30, 3) := by decide +kernel
theorem dX7_init_48 : decode cX7_init 48 = .ok (.aload_n 0, 1) := by decide +kernel
theorem dX7_init_49 : decode cX7_init 49 = .ok (.new 23, 3) := by decide +kernel
theorem dX7_init_52 : decode cX7_init 52 = .ok (.dup, 1) := by decide +kernel
theorem dX7_init_53 : decode cX7_init 53 = .ok (.invokespecial 25, 3) := by decide +kernel
theorem dX7_init_56 : decode cX7_init 56 = .ok (.putfield 33, 3) := by decide +kernel
theorem dX7_init_59 : decode cX7_init 59 = .ok (.aload_n 0, 1) := by decide +kernel
theorem dX7_init_60 : decode cX7_init 60 = .ok (.new 16, 3) := by decide +kernel
theorem dX7_init_63 : decode cX7_init 63 = .ok (.dup, 1) := by decide +kernel
theorem dX7_init_64 : decode cX7_init 64 = .ok (.invokespecial 18, 3) := by decide +kernel
theorem dX7_init_67 : decode cX7_init 67 = .ok (.putfield 36, 3) := by decide +kernel
theorem dX7_init_70 : decode cX7_init 70 = .ok (.aload_n 0, 1) := by decide +kernel
theorem dX7_init_71 : decode cX7_init 71 = .ok (.new 39, 3) := by decide +kernel
theorem dX7_init_74 : decode cX7_init 74 = .ok (.dup, 1) := by decide +kernel
theorem dX7_init_75 : decode cX7_init 75 = .ok (.invokespecial 41, 3) := by decide +kernel
theorem dX7_init_78 : decode cX7_init 78 = .ok (.putfield 42, 3) := by decide +kernel
theorem dX7_init_81 : decode cX7_init 81 = .ok (.aload_n 0, 1) := by decide +kernel
theorem dX7_init_82 : decode cX7_init 82 = .ok (.new 46, 3) := by decide +kernel
theorem dX7_init_85 : decode cX7_init 85 = .ok (.dup, 1) := by decide +kernel
theorem dX7_init_86 : decode cX7_init 86 = .ok (.invokespecial 48, 3) := by decide +kernel
theorem dX7_init_89 : decode cX7_init 89 = .ok (.putfield 49, 3) := by decide +kernel
theorem dX7_init_92 : decode cX7_init 92 = .ok (.aload_n 0, 1) := by decide +kernel
theorem dX7_init_93 : decode cX7_init 93 = .ok (.new 53, 3) := by decide +kernel
theorem dX7_init_96 : decode cX7_init 96 = .ok (.dup, 1) := by decide +kernel
theorem dX7_init_97 : decode cX7_init 97 = .ok (.invokespecial 55, 3) := by decide +kernel
theorem dX7_init_100 : decode cX7_init 100 = .ok (.putfield 56, 3) := by decide +kernel
theorem dX7_init_103 : decode cX7_init 103 = .ok (.return_, 1) := by decide +kernel
theorem dX7_letter_0 : decode cX7_letter 0 = .ok (.iload_n 1, 1) := by decide +kernel
theorem dX7_letter_1 : decode cX7_letter 1 = .ok (.iconst 1, 1) := by decide +kernel
theorem dX7_letter_2 : decode cX7_letter 2 = .ok (.if_icmp .lt 9, 3) := by decide +kernel
theorem dX7_letter_5 : decode cX7_letter 5 = .ok (.iload_n 1, 1) := by decide +kernel
theorem dX7_letter_6 : decode cX7_letter 6 = .ok (.bipush 126, 2) := by decide +kernel
theorem dX7_letter_8 : decode cX7_letter 8 = .ok (.if_icmp .le 6, 3) := by decide +kernel
theorem dX7_letter_11 : decode cX7_letter 11 = .ok (.bipush (-102), 2) := by decide +kernel
theorem dX7_letter_13 : decode cX7_letter 13 = .ok (.ireturn, 1) := by decide +kernel
theorem dX7_letter_14 : decode cX7_letter 14 = .ok (.aload_n 0, 1) := by decide +kernel
theorem dX7_letter_15 : decode cX7_letter 15 = .ok (.getfield 12, 3) := by decide +kernel
theorem dX7_letter_18 : decode cX7_letter 18 = .ok (.iload_n 1, 1) := by decide +kernel
theorem dX7_letter_19 : decode cX7_letter 19 = .ok (.invokevirtual 60, 3) := by decide +kernel
theorem dX7_letter_22 : decode cX7_letter 22 = .ok (.ifCond .eq 13, 3) := by decide +kernel
theorem dX7_letter_25 : decode cX7_letter 25 = .ok (.aload_n 0, 1) := by decide +kernel
theorem dX7_letter_26 : decode cX7_letter 26 = .ok (.getfield 12, 3) := by decide +kernel
theorem dX7_letter_29 : decode cX7_letter 29 = .ok (.getfield 64, 3) := by decide +kernel
theorem dX7_letter_32 : decode cX7_letter 32 = .ok (.goto 5, 3) := by decide +kernel
theorem dX7_letter_35 : decode cX7_letter 35 = .ok (.bipush (-104), 2) := by decide +kernel
theorem dX7_letter_37 : decode cX7_letter 37 = .ok (.ireturn, 1) := by decide +kernel
theorem dX7_blank_0 : decode cX7_blank 0 = .ok (.aload_n 0, 1) := by decide +kernel
theorem dX7_blank_1 : decode cX7_blank 1 = .ok (.getfield 12, 3) := by decide +kernel
theorem dX7_blank_4 : decode cX7_blank 4 = .ok (.getfield 64, 3) := by decide +kernel
theorem dX7_blank_7 : decode cX7_blank 7 = .ok (.istore_n 1, 1) := by decide +kernel
theorem dX7_blank_8 : decode cX7_blank 8 = .ok (.aload_n 0, 1) := by decide +kernel
theorem dX7_blank_9 : decode cX7_blank 9 = .ok (.getfield 12, 3) := by decide +kernel
theorem dX7_blank_12 : decode cX7_blank 12 = .ok (.iconst 0, 1) := by decide +kernel
theorem dX7_blank_13 : decode cX7_blank 13 = .ok (.putfield 64, 3) := by decide +kernel
theorem dX7_blank_16 : decode cX7_blank 16 = .ok (.iload_n 1, 1) := by decide +kernel
theorem dX7_blank_17 : decode cX7_blank 17 = .ok (.ireturn, 1) := by decide +kernel
theorem dX7_fault_0 : decode cX7_fault 0 = .ok (.aload_n 0, 1) := by decide +kernel
theorem dX7_fault_1 : decode cX7_fault 1 = .ok (.getfield 12, 3) := by decide +kernel
theorem dX7_fault_4 : decode cX7_fault 4 = .ok (.invokevirtual 68, 3) := by decide +kernel
theorem dX7_fault_7 : decode cX7_fault 7 = .ok (.ireturn, 1) := by decide +kernel
theorem dX7_gallery_0 : decode cX7_gallery 0 = .ok (.aload_n 0, 1) := by decide +kernel
theorem dX7_gallery_1 : decode cX7_gallery 1 = .ok (.getfield 12, 3) := by decide +kernel
theorem dX7_gallery_4 : decode cX7_gallery 4 = .ok (.getfield 64, 3) := by decide +kernel
theorem dX7_gallery_7 : decode cX7_gallery 7 = .ok (.bipush 9, 2) := by decide +kernel
theorem dX7_gallery_9 : decode cX7_gallery 9 = .ok (.if_icmp .ne 15, 3) := by decide +kernel
theorem dX7_gallery_12 : decode cX7_gallery 12 = .ok (.aload_n 0, 1) := by decide +kernel
theorem dX7_gallery_13 : decode cX7_gallery 13 = .ok (.getfield 12, 3) := by decide +kernel
theorem dX7_gallery_16 : decode cX7_gallery 16 = .ok (.invokevirtual 68, 3) := by decide +kernel
theorem dX7_gallery_19 : decode cX7_gallery 19 = .ok (.bipush 9, 2) := by decide +kernel
theorem dX7_gallery_21 : decode cX7_gallery 21 = .ok (.if_icmp .eq 6, 3) := by decide +kernel
theorem dX7_gallery_24 : decode cX7_gallery 24 = .ok (.bipush (-103), 2) := by decide +kernel
theorem dX7_gallery_26 : decode cX7_gallery 26 = .ok (.ireturn, 1) := by decide +kernel
theorem dX7_gallery_27 : decode cX7_gallery 27 = .ok (.aload_n 0, 1) := by decide +kernel
theorem dX7_gallery_28 : decode cX7_gallery 28 = .ok (.getfield 19, 3) := by decide +kernel
theorem dX7_gallery_31 : decode cX7_gallery 31 = .ok (.aload_n 0, 1) := by decide +kernel
theorem dX7_gallery_32 : decode cX7_gallery 32 = .ok (.getfield 12, 3) := by decide +kernel
theorem dX7_gallery_35 : decode cX7_gallery 35 = .ok (.invokevirtual 72, 3) := by decide +kernel
theorem dX7_gallery_38 : decode cX7_gallery 38 = .ok (.aload_n 0, 1) := by decide +kernel
theorem dX7_gallery_39 : decode cX7_gallery 39 = .ok (.getfield 26, 3) := by decide +kernel
theorem dX7_gallery_42 : decode cX7_gallery 42 = .ok (.iconst 0, 1) := by decide +kernel
theorem dX7_gallery_43 : decode cX7_gallery 43 = .ok (.putfield 76, 3) := by decide +kernel
theorem dX7_gallery_46 : decode cX7_gallery 46 = .ok (.aload_n 0, 1) := by decide +kernel
theorem dX7_gallery_47 : decode cX7_gallery 47 = .ok (.getfield 12, 3) := by decide +kernel
theorem dX7_gallery_50 : decode cX7_gallery 50 = .ok (.iconst 0, 1) := by decide +kernel
theorem dX7_gallery_51 : decode cX7_gallery 51 = .ok (.putfield 64, 3) := by decide +kernel
theorem dX7_gallery_54 : decode cX7_gallery 54 = .ok (.aload_n 0, 1) := by decide +kernel
theorem dX7_gallery_55 : decode cX7_gallery 55 = .ok (.iconst 1, 1) := by decide +kernel
theorem dX7_gallery_56 : decode cX7_gallery 56 = .ok (.putfield 79, 3) := by decide +kernel
theorem dX7_gallery_59 : decode cX7_gallery 59 = .ok (.aload_n 0, 1) := by decide +kernel
theorem dX7_gallery_60 : decode cX7_gallery 60 = .ok (.iconst 0, 1) := by decide +kernel
theorem dX7_gallery_61 : decode cX7_gallery 61 = .ok (.putfield 83, 3) := by decide +kernel
theorem dX7_gallery_64 : decode cX7_gallery 64 = .ok (.aload_n 0, 1) := by decide +kernel
theorem dX7_gallery_65 : decode cX7_gallery 65 = .ok (.dup, 1) := by decide +kernel
theorem dX7_gallery_66 : decode cX7_gallery 66 = .ok (.getfield 86, 3) := by decide +kernel
theorem dX7_gallery_69 : decode cX7_gallery 69 = .ok (.iconst 1, 1) := by decide +kernel
theorem dX7_gallery_70 : decode cX7_gallery 70 = .ok (.iadd, 1) := by decide +kernel
theorem dX7_gallery_71 : decode cX7_gallery 71 = .ok (.putfield 86, 3) := by decide +kernel
theorem dX7_gallery_74 : decode cX7_gallery 74 = .ok (.aload_n 0, 1) := by decide +kernel
theorem dX7_gallery_75 : decode cX7_gallery 75 = .ok (.getfield 19, 3) := by decide +kernel
theorem dX7_gallery_78 : decode cX7_gallery 78 = .ok (.getfield 89, 3) := by decide +kernel
theorem dX7_gallery_81 : decode cX7_gallery 81 = .ok (.invokevirtual 93, 3) := by decide +kernel
theorem dX7_gallery_84 : decode cX7_gallery 84 = .ok (.ireturn, 1) := by decide +kernel
theorem dX7_place_0 : decode cX7_place 0 = .ok (.aload_n 0, 1) := by decide +kernel
theorem dX7_place_1 : decode cX7_place 1 = .ok (.iload_n 1, 1) := by decide +kernel
theorem dX7_place_2 : decode cX7_place 2 = .ok (.invokevirtual 98, 3) := by decide +kernel
theorem dX7_place_5 : decode cX7_place 5 = .ok (.ifCond .ne 6, 3) := by decide +kernel
theorem dX7_place_8 : decode cX7_place 8 = .ok (.bipush (-101), 2) := by decide +kernel
theorem dX7_place_10 : decode cX7_place 10 = .ok (.ireturn, 1) := by decide +kernel
theorem dX7_place_11 : decode cX7_place 11 = .ok (.iload_n 2, 1) := by decide +kernel
theorem dX7_place_12 : decode cX7_place 12 = .ok (.tableswitch 156 0 5 #[40, 53, 66, 75, 102, 129], 40) := by decide +kernel
theorem dX7_place_52 : decode cX7_place 52 = .ok (.aload_n 0, 1) := by decide +kernel
theorem dX7_place_53 : decode cX7_place 53 = .ok (.getfield 19, 3) := by decide +kernel
theorem dX7_place_56 : decode cX7_place 56 = .ok (.getfield 89, 3) := by decide +kernel
theorem dX7_place_59 : decode cX7_place 59 = .ok (.getfield 101, 3) := by decide +kernel
theorem dX7_place_62 : decode cX7_place 62 = .ok (.iload_n 1, 1) := by decide +kernel
theorem dX7_place_63 : decode cX7_place 63 = .ok (.iaload, 1) := by decide +kernel
theorem dX7_place_64 : decode cX7_place 64 = .ok (.ireturn, 1) := by decide +kernel
theorem dX7_place_65 : decode cX7_place 65 = .ok (.aload_n 0, 1) := by decide +kernel
theorem dX7_place_66 : decode cX7_place 66 = .ok (.getfield 19, 3) := by decide +kernel
theorem dX7_place_69 : decode cX7_place 69 = .ok (.getfield 89, 3) := by decide +kernel
theorem dX7_place_72 : decode cX7_place 72 = .ok (.getfield 105, 3) := by decide +kernel
theorem dX7_place_75 : decode cX7_place 75 = .ok (.iload_n 1, 1) := by decide +kernel
theorem dX7_place_76 : decode cX7_place 76 = .ok (.iaload, 1) := by decide +kernel
theorem dX7_place_77 : decode cX7_place 77 = .ok (.ireturn, 1) := by decide +kernel
theorem dX7_place_78 : decode cX7_place 78 = .ok (.aload_n 0, 1) := by decide +kernel
theorem dX7_place_79 : decode cX7_place 79 = .ok (.getfield 19, 3) := by decide +kernel
theorem dX7_place_82 : decode cX7_place 82 = .ok (.iload_n 1, 1) := by decide +kernel
theorem dX7_place_83 : decode cX7_place 83 = .ok (.invokevirtual 108, 3) := by decide +kernel
theorem dX7_place_86 : decode cX7_place 86 = .ok (.ireturn, 1) := by decide +kernel
theorem dX7_place_87 : decode cX7_place 87 = .ok (.aload_n 0, 1) := by decide +kernel
theorem dX7_place_88 : decode cX7_place 88 = .ok (.getfield 19, 3) := by decide +kernel
theorem dX7_place_91 : decode cX7_place 91 = .ok (.getfield 89, 3) := by decide +kernel
theorem dX7_place_94 : decode cX7_place 94 = .ok (.iload_n 1, 1) := by decide +kernel
theorem dX7_place_95 : decode cX7_place 95 = .ok (.invokevirtual 112, 3) := by decide +kernel
theorem dX7_place_98 : decode cX7_place 98 = .ok (.aload_n 0, 1) := by decide +kernel
theorem dX7_place_99 : decode cX7_place 99 = .ok (.getfield 19, 3) := by decide +kernel
theorem dX7_place_102 : decode cX7_place 102 = .ok (.getfield 89, 3) := by decide +kernel
theorem dX7_place_105 : decode cX7_place 105 = .ok (.getfield 101, 3) := by decide +kernel
theorem dX7_place_108 : decode cX7_place 108 = .ok (.iload_n 1, 1) := by decide +kernel
theorem dX7_place_109 : decode cX7_place 109 = .ok (.iaload, 1) := by decide +kernel
theorem dX7_place_110 : decode cX7_place 110 = .ok (.invokestatic 115, 3) := by decide +kernel
theorem dX7_place_113 : decode cX7_place 113 = .ok (.ireturn, 1) := by decide +kernel
theorem dX7_place_114 : decode cX7_place 114 = .ok (.aload_n 0, 1) := by decide +kernel
theorem dX7_place_115 : decode cX7_place 115 = .ok (.getfield 49, 3) := by decide +kernel
theorem dX7_place_118 : decode cX7_place 118 = .ok (.aload_n 0, 1) := by decide +kernel
theorem dX7_place_119 : decode cX7_place 119 = .ok (.getfield 19, 3) := by decide +kernel
theorem dX7_place_122 : decode cX7_place 122 = .ok (.getfield 89, 3) := by decide +kernel
theorem dX7_place_125 : decode cX7_place 125 = .ok (.aload_n 0, 1) := by decide +kernel
theorem dX7_place_126 : decode cX7_place 126 = .ok (.getfield 26, 3) := by decide +kernel
theorem dX7_place_129 : decode cX7_place 129 = .ok (.iload_n 1, 1) := by decide +kernel
theorem dX7_place_130 : decode cX7_place 130 = .ok (.invokevirtual 121, 3) := by decide +kernel
theorem dX7_place_133 : decode cX7_place 133 = .ok (.aload_n 0, 1) := by decide +kernel
theorem dX7_place_134 : decode cX7_place 134 = .ok (.getfield 49, 3) := by decide +kernel
theorem dX7_place_137 : decode cX7_place 137 = .ok (.getfield 125, 3) := by decide +kernel
theorem dX7_place_140 : decode cX7_place 140 = .ok (.ireturn, 1) := by decide +kernel
theorem dX7_place_141 : decode cX7_place 141 = .ok (.aload_n 0, 1) := by decide +kernel
theorem dX7_place_142 : decode cX7_place 142 = .ok (.getfield 49, 3) := by decide +kernel
theorem dX7_place_145 : decode cX7_place 145 = .ok (.aload_n 0, 1) := by decide +kernel
theorem dX7_place_146 : decode cX7_place 146 = .ok (.getfield 19, 3) := by decide +kernel
theorem dX7_place_149 : decode cX7_place 149 = .ok (.getfield 89, 3) := by decide +kernel
theorem dX7_place_152 : decode cX7_place 152 = .ok (.aload_n 0, 1) := by decide +kernel
theorem dX7_place_153 : decode cX7_place 153 = .ok (.getfield 26, 3) := by decide +kernel
theorem dX7_place_156 : decode cX7_place 156 = .ok (.iload_n 1, 1) := by decide +kernel
theorem dX7_place_157 : decode cX7_place 157 = .ok (.invokevirtual 121, 3) := by decide +kernel
theorem dX7_place_160 : decode cX7_place 160 = .ok (.aload_n 0, 1) := by decide +kernel
theorem dX7_place_161 : decode cX7_place 161 = .ok (.getfield 49, 3) := by decide +kernel
theorem dX7_place_164 : decode cX7_place 164 = .ok (.invokevirtual 128, 3) := by decide +kernel
theorem dX7_place_167 : decode cX7_place 167 = .ok (.ireturn, 1) := by decide +kernel
theorem dX7_place_168 : decode cX7_place 168 = .ok (.bipush (-102), 2) := by decide +kernel
theorem dX7_place_170 : decode cX7_place 170 = .ok (.ireturn, 1) := by decide +kernel
theorem dX7_prop_0 : decode cX7_prop 0 = .ok (.aload_n 0, 1) := by decide +kernel
theorem dX7_prop_1 : decode cX7_prop 1 = .ok (.iload_n 1, 1) := by decide +kernel
theorem dX7_prop_2 : decode cX7_prop 2 = .ok (.invokevirtual 98, 3) := by decide +kernel
theorem dX7_prop_5 : decode cX7_prop 5 = .ok (.ifCond .ne 6, 3) := by decide +kernel
theorem dX7_prop_8 : decode cX7_prop 8 = .ok (.bipush (-101), 2) := by decide +kernel
theorem dX7_prop_10 : decode cX7_prop 10 = .ok (.ireturn, 1) := by decide +kernel
theorem dX7_prop_11 : decode cX7_prop 11 = .ok (.aload_n 0, 1) := by decide +kernel
theorem dX7_prop_12 : decode cX7_prop 12 = .ok (.getfield 19, 3) := by decide +kernel
theorem dX7_prop_15 : decode cX7_prop 15 = .ok (.getfield 89, 3) := by decide +kernel
theorem dX7_prop_18 : decode cX7_prop 18 = .ok (.iload_n 1, 1) := by decide +kernel
theorem dX7_prop_19 : decode cX7_prop 19 = .ok (.invokevirtual 131, 3) := by decide +kernel
theorem dX7_prop_22 : decode cX7_prop 22 = .ok (.ifCond .eq 22, 3) := by decide +kernel
theorem dX7_prop_25 : decode cX7_prop 25 = .ok (.aload_n 0, 1) := by decide +kernel
theorem dX7_prop_26 : decode cX7_prop 26 = .ok (.getfield 19, 3) := by decide +kernel
theorem dX7_prop_29 : decode cX7_prop 29 = .ok (.getfield 89, 3) := by decide +kernel
theorem dX7_prop_32 : decode cX7_prop 32 = .ok (.getfield 101, 3) := by decide +kernel
theorem dX7_prop_35 : decode cX7_prop 35 = .ok (.iload_n 1, 1) := by decide +kernel
theorem dX7_prop_36 : decode cX7_prop 36 = .ok (.iaload, 1) := by decide +kernel
theorem dX7_prop_37 : decode cX7_prop 37 = .ok (.iconst 3, 1) := by decide +kernel
theorem dX7_prop_38 : decode cX7_prop 38 = .ok (.iadd, 1) := by decide +kernel
theorem dX7_prop_39 : decode cX7_prop 39 = .ok (.bipush 20, 2) := by decide +kernel
theorem dX7_prop_41 : decode cX7_prop 41 = .ok (.if_icmp .le 6, 3) := by decide +kernel
theorem dX7_prop_44 : decode cX7_prop 44 = .ok (.bipush (-103), 2) := by decide +kernel
theorem dX7_prop_46 : decode cX7_prop 46 = .ok (.ireturn, 1) := by decide +kernel
theorem dX7_prop_47 : decode cX7_prop 47 = .ok (.aload_n 0, 1) := by decide +kernel
theorem dX7_prop_48 : decode cX7_prop 48 = .ok (.getfield 19, 3) := by decide +kernel
theorem dX7_prop_51 : decode cX7_prop 51 = .ok (.getfield 89, 3) := by decide +kernel
theorem dX7_prop_54 : decode cX7_prop 54 = .ok (.getfield 101, 3) := by decide +kernel
theorem dX7_prop_57 : decode cX7_prop 57 = .ok (.iload_n 1, 1) := by decide +kernel
theorem dX7_prop_58 : decode cX7_prop 58 = .ok (.dup2, 1) := by decide +kernel
theorem dX7_prop_59 : decode cX7_prop 59 = .ok (.iaload, 1) := by decide +kernel
theorem dX7_prop_60 : decode cX7_prop 60 = .ok (.iconst 3, 1) := by decide +kernel
theorem dX7_prop_61 : decode cX7_prop 61 = .ok (.iadd, 1) := by decide +kernel
theorem dX7_prop_62 : decode cX7_prop 62 = .ok (.iastore, 1) := by decide +kernel
theorem dX7_prop_63 : decode cX7_prop 63 = .ok (.aload_n 0, 1) := by decide +kernel
theorem dX7_prop_64 : decode cX7_prop 64 = .ok (.getfield 19, 3) := by decide +kernel
theorem dX7_prop_67 : decode cX7_prop 67 = .ok (.dup, 1) := by decide +kernel
theorem dX7_prop_68 : decode cX7_prop 68 = .ok (.getfield 134, 3) := by decide +kernel
theorem dX7_prop_71 : decode cX7_prop 71 = .ok (.iconst 1, 1) := by decide +kernel
theorem dX7_prop_72 : decode cX7_prop 72 = .ok (.iadd, 1) := by decide +kernel
theorem dX7_prop_73 : decode cX7_prop 73 = .ok (.putfield 134, 3) := by decide +kernel
theorem dX7_prop_76 : decode cX7_prop 76 = .ok (.aload_n 0, 1) := by decide +kernel
theorem dX7_prop_77 : decode cX7_prop 77 = .ok (.getfield 19, 3) := by decide +kernel
theorem dX7_prop_80 : decode cX7_prop 80 = .ok (.getfield 89, 3) := by decide +kernel
theorem dX7_prop_83 : decode cX7_prop 83 = .ok (.getfield 101, 3) := by decide +kernel
theorem dX7_prop_86 : decode cX7_prop 86 = .ok (.iload_n 1, 1) := by decide +kernel
theorem dX7_prop_87 : decode cX7_prop 87 = .ok (.iaload, 1) := by decide +kernel
theorem dX7_prop_88 : decode cX7_prop 88 = .ok (.ireturn, 1) := by decide +kernel
theorem dX7_tenant_0 : decode cX7_tenant 0 = .ok (.iload_n 1, 1) := by decide +kernel
theorem dX7_tenant_1 : decode cX7_tenant 1 = .ok (.invokestatic 137, 3) := by decide +kernel
theorem dX7_tenant_4 : decode cX7_tenant 4 = .ok (.ifCond .ne 6, 3) := by decide +kernel
theorem dX7_tenant_7 : decode cX7_tenant 7 = .ok (.bipush (-102), 2) := by decide +kernel
theorem dX7_tenant_9 : decode cX7_tenant 9 = .ok (.ireturn, 1) := by decide +kernel
theorem dX7_tenant_10 : decode cX7_tenant 10 = .ok (.aload_n 0, 1) := by decide +kernel
theorem dX7_tenant_11 : decode cX7_tenant 11 = .ok (.iload_n 2, 1) := by decide +kernel
theorem dX7_tenant_12 : decode cX7_tenant 12 = .ok (.invokevirtual 98, 3) := by decide +kernel
theorem dX7_tenant_15 : decode cX7_tenant 15 = .ok (.ifCond .ne 6, 3) := by decide +kernel
theorem dX7_tenant_18 : decode cX7_tenant 18 = .ok (.bipush (-101), 2) := by decide +kernel
theorem dX7_tenant_20 : decode cX7_tenant 20 = .ok (.ireturn, 1) := by decide +kernel
theorem dX7_tenant_21 : decode cX7_tenant 21 = .ok (.aload_n 0, 1) := by decide +kernel
theorem dX7_tenant_22 : decode cX7_tenant 22 = .ok (.getfield 19, 3) := by decide +kernel
theorem dX7_tenant_25 : decode cX7_tenant 25 = .ok (.getfield 89, 3) := by decide +kernel
theorem dX7_tenant_28 : decode cX7_tenant 28 = .ok (.iload_n 2, 1) := by decide +kernel
theorem dX7_tenant_29 : decode cX7_tenant 29 = .ok (.invokevirtual 131, 3) := by decide +kernel
theorem dX7_tenant_32 : decode cX7_tenant 32 = .ok (.ifCond .ne 6, 3) := by decide +kernel
theorem dX7_tenant_35 : decode cX7_tenant 35 = .ok (.bipush (-103), 2) := by decide +kernel
theorem dX7_tenant_37 : decode cX7_tenant 37 = .ok (.ireturn, 1) := by decide +kernel
theorem dX7_tenant_38 : decode cX7_tenant 38 = .ok (.aload_n 0, 1) := by decide +kernel
theorem dX7_tenant_39 : decode cX7_tenant 39 = .ok (.getfield 19, 3) := by decide +kernel
theorem dX7_tenant_42 : decode cX7_tenant 42 = .ok (.getfield 140, 3) := by decide +kernel
theorem dX7_tenant_45 : decode cX7_tenant 45 = .ok (.iconst 5, 1) := by decide +kernel
theorem dX7_tenant_46 : decode cX7_tenant 46 = .ok (.if_icmp .lt 6, 3) := by decide +kernel
theorem dX7_tenant_49 : decode cX7_tenant 49 = .ok (.bipush (-104), 2) := by decide +kernel
theorem dX7_tenant_51 : decode cX7_tenant 51 = .ok (.ireturn, 1) := by decide +kernel
theorem dX7_tenant_52 : decode cX7_tenant 52 = .ok (.aload_n 0, 1) := by decide +kernel
theorem dX7_tenant_53 : decode cX7_tenant 53 = .ok (.getfield 19, 3) := by decide +kernel
theorem dX7_tenant_56 : decode cX7_tenant 56 = .ok (.iload_n 1, 1) := by decide +kernel
theorem dX7_tenant_57 : decode cX7_tenant 57 = .ok (.iload_n 2, 1) := by decide +kernel
theorem dX7_tenant_58 : decode cX7_tenant 58 = .ok (.invokevirtual 143, 3) := by decide +kernel
theorem dX7_tenant_61 : decode cX7_tenant 61 = .ok (.aload_n 0, 1) := by decide +kernel
theorem dX7_tenant_62 : decode cX7_tenant 62 = .ok (.getfield 19, 3) := by decide +kernel
theorem dX7_tenant_65 : decode cX7_tenant 65 = .ok (.getfield 140, 3) := by decide +kernel
theorem dX7_tenant_68 : decode cX7_tenant 68 = .ok (.iconst 1, 1) := by decide +kernel
theorem dX7_tenant_69 : decode cX7_tenant 69 = .ok (.isub, 1) := by decide +kernel
theorem dX7_tenant_70 : decode cX7_tenant 70 = .ok (.ireturn, 1) := by decide +kernel
theorem dX7_about_0 : decode cX7_about 0 = .ok (.aload_n 0, 1) := by decide +kernel
theorem dX7_about_1 : decode cX7_about 1 = .ok (.iload_n 1, 1) := by decide +kernel
theorem dX7_about_2 : decode cX7_about 2 = .ok (.invokevirtual 147, 3) := by decide +kernel
theorem dX7_about_5 : decode cX7_about 5 = .ok (.ifCond .ne 6, 3) := by decide +kernel
theorem dX7_about_8 : decode cX7_about 8 = .ok (.bipush (-101), 2) := by decide +kernel
theorem dX7_about_10 : decode cX7_about 10 = .ok (.ireturn, 1) := by decide +kernel
theorem dX7_about_11 : decode cX7_about 11 = .ok (.iload_n 2, 1) := by decide +kernel
theorem dX7_about_12 : decode cX7_about 12 = .ok (.tableswitch 107 0 5 #[40, 50, 60, 69, 78, 95], 40) := by decide +kernel
theorem dX7_about_52 : decode cX7_about 52 = .ok (.aload_n 0, 1) := by decide +kernel
theorem dX7_about_53 : decode cX7_about 53 = .ok (.getfield 19, 3) := by decide +kernel
theorem dX7_about_56 : decode cX7_about 56 = .ok (.getfield 150, 3) := by decide +kernel
theorem dX7_about_59 : decode cX7_about 59 = .ok (.iload_n 1, 1) := by decide +kernel
theorem dX7_about_60 : decode cX7_about 60 = .ok (.iaload, 1) := by decide +kernel
theorem dX7_about_61 : decode cX7_about 61 = .ok (.ireturn, 1) := by decide +kernel
theorem dX7_about_62 : decode cX7_about 62 = .ok (.aload_n 0, 1) := by decide +kernel
theorem dX7_about_63 : decode cX7_about 63 = .ok (.getfield 19, 3) := by decide +kernel
theorem dX7_about_66 : decode cX7_about 66 = .ok (.getfield 153, 3) := by decide +kernel
theorem dX7_about_69 : decode cX7_about 69 = .ok (.iload_n 1, 1) := by decide +kernel
theorem dX7_about_70 : decode cX7_about 70 = .ok (.iaload, 1) := by decide +kernel
theorem dX7_about_71 : decode cX7_about 71 = .ok (.ireturn, 1) := by decide +kernel
theorem dX7_about_72 : decode cX7_about 72 = .ok (.aload_n 0, 1) := by decide +kernel
theorem dX7_about_73 : decode cX7_about 73 = .ok (.getfield 19, 3) := by decide +kernel
theorem dX7_about_76 : decode cX7_about 76 = .ok (.iload_n 1, 1) := by decide +kernel
theorem dX7_about_77 : decode cX7_about 77 = .ok (.invokevirtual 156, 3) := by decide +kernel
theorem dX7_about_80 : decode cX7_about 80 = .ok (.ireturn, 1) := by decide +kernel
theorem dX7_about_81 : decode cX7_about 81 = .ok (.aload_n 0, 1) := by decide +kernel
theorem dX7_about_82 : decode cX7_about 82 = .ok (.getfield 19, 3) := by decide +kernel
theorem dX7_about_85 : decode cX7_about 85 = .ok (.iload_n 1, 1) := by decide +kernel
theorem dX7_about_86 : decode cX7_about 86 = .ok (.invokevirtual 159, 3) := by decide +kernel
theorem dX7_about_89 : decode cX7_about 89 = .ok (.ireturn, 1) := by decide +kernel
theorem dX7_about_90 : decode cX7_about 90 = .ok (.aload_n 0, 1) := by decide +kernel
theorem dX7_about_91 : decode cX7_about 91 = .ok (.getfield 19, 3) := by decide +kernel
theorem dX7_about_94 : decode cX7_about 94 = .ok (.iload_n 1, 1) := by decide +kernel
theorem dX7_about_95 : decode cX7_about 95 = .ok (.invokevirtual 162, 3) := by decide +kernel
theorem dX7_about_98 : decode cX7_about 98 = .ok (.ifCond .eq 7, 3) := by decide +kernel
theorem dX7_about_101 : decode cX7_about 101 = .ok (.iconst 1, 1) := by decide +kernel
theorem dX7_about_102 : decode cX7_about 102 = .ok (.goto 4, 3) := by decide +kernel
theorem dX7_about_105 : decode cX7_about 105 = .ok (.iconst 0, 1) := by decide +kernel
theorem dX7_about_106 : decode cX7_about 106 = .ok (.ireturn, 1) := by decide +kernel
theorem dX7_about_107 : decode cX7_about 107 = .ok (.aload_n 0, 1) := by decide +kernel
theorem dX7_about_108 : decode cX7_about 108 = .ok (.getfield 19, 3) := by decide +kernel
theorem dX7_about_111 : decode cX7_about 111 = .ok (.invokevirtual 165, 3) := by decide +kernel
theorem dX7_about_114 : decode cX7_about 114 = .ok (.iload_n 1, 1) := by decide +kernel
theorem dX7_about_115 : decode cX7_about 115 = .ok (.ishr, 1) := by decide +kernel
theorem dX7_about_116 : decode cX7_about 116 = .ok (.iconst 1, 1) := by decide +kernel
theorem dX7_about_117 : decode cX7_about 117 = .ok (.iand, 1) := by decide +kernel
theorem dX7_about_118 : decode cX7_about 118 = .ok (.ireturn, 1) := by decide +kernel
theorem dX7_about_119 : decode cX7_about 119 = .ok (.bipush (-102), 2) := by decide +kernel
theorem dX7_about_121 : decode cX7_about 121 = .ok (.ireturn, 1) := by decide +kernel
theorem dX7_as_0 : decode cX7_as 0 = .ok (.aload_n 0, 1) := by decide +kernel
theorem dX7_as_1 : decode cX7_as 1 = .ok (.iload_n 1, 1) := by decide +kernel
theorem dX7_as_2 : decode cX7_as 2 = .ok (.invokevirtual 147, 3) := by decide +kernel
theorem dX7_as_5 : decode cX7_as 5 = .ok (.ifCond .ne 6, 3) := by decide +kernel
theorem dX7_as_8 : decode cX7_as 8 = .ok (.bipush (-101), 2) := by decide +kernel
theorem dX7_as_10 : decode cX7_as 10 = .ok (.ireturn, 1) := by decide +kernel
theorem dX7_as_11 : decode cX7_as 11 = .ok (.iload_n 2, 1) := by decide +kernel
theorem dX7_as_12 : decode cX7_as 12 = .ok (.invokestatic 137, 3) := by decide +kernel
theorem dX7_as_15 : decode cX7_as 15 = .ok (.ifCond .ne 6, 3) := by decide +kernel
theorem dX7_as_18 : decode cX7_as 18 = .ok (.bipush (-102), 2) := by decide +kernel
theorem dX7_as_20 : decode cX7_as 20 = .ok (.ireturn, 1) := by decide +kernel
theorem dX7_as_21 : decode cX7_as 21 = .ok (.aload_n 0, 1) := by decide +kernel
theorem dX7_as_22 : decode cX7_as 22 = .ok (.getfield 19, 3) := by decide +kernel
theorem dX7_as_25 : decode cX7_as 25 = .ok (.getfield 150, 3) := by decide +kernel
theorem dX7_as_28 : decode cX7_as 28 = .ok (.iload_n 1, 1) := by decide +kernel
theorem dX7_as_29 : decode cX7_as 29 = .ok (.iaload, 1) := by decide +kernel
theorem dX7_as_30 : decode cX7_as 30 = .ok (.iload_n 2, 1) := by decide +kernel
theorem dX7_as_31 : decode cX7_as 31 = .ok (.invokestatic 168, 3) := by decide +kernel
theorem dX7_as_34 : decode cX7_as 34 = .ok (.ifCond .eq 7, 3) := by decide +kernel
theorem dX7_as_37 : decode cX7_as 37 = .ok (.iload_n 1, 1) := by decide +kernel
theorem dX7_as_38 : decode cX7_as 38 = .ok (.goto 4, 3) := by decide +kernel
theorem dX7_as_41 : decode cX7_as 41 = .ok (.iconst (-1), 1) := by decide +kernel
theorem dX7_as_42 : decode cX7_as 42 = .ok (.ireturn, 1) := by decide +kernel
theorem dX7_move_0 : decode cX7_move 0 = .ok (.aload_n 0, 1) := by decide +kernel
theorem dX7_move_1 : decode cX7_move 1 = .ok (.iload_n 1, 1) := by decide +kernel
theorem dX7_move_2 : decode cX7_move 2 = .ok (.invokevirtual 147, 3) := by decide +kernel
theorem dX7_move_5 : decode cX7_move 5 = .ok (.ifCond .eq 11, 3) := by decide +kernel
theorem dX7_move_8 : decode cX7_move 8 = .ok (.aload_n 0, 1) := by decide +kernel
theorem dX7_move_9 : decode cX7_move 9 = .ok (.iload_n 2, 1) := by decide +kernel
theorem dX7_move_10 : decode cX7_move 10 = .ok (.invokevirtual 98, 3) := by decide +kernel
theorem dX7_move_13 : decode cX7_move 13 = .ok (.ifCond .ne 6, 3) := by decide +kernel
theorem dX7_move_16 : decode cX7_move 16 = .ok (.bipush (-101), 2) := by decide +kernel
theorem dX7_move_18 : decode cX7_move 18 = .ok (.ireturn, 1) := by decide +kernel
theorem dX7_move_19 : decode cX7_move 19 = .ok (.aload_n 0, 1) := by decide +kernel
theorem dX7_move_20 : decode cX7_move 20 = .ok (.getfield 19, 3) := by decide +kernel
theorem dX7_move_23 : decode cX7_move 23 = .ok (.getfield 153, 3) := by decide +kernel
theorem dX7_move_26 : decode cX7_move 26 = .ok (.iload_n 1, 1) := by decide +kernel
theorem dX7_move_27 : decode cX7_move 27 = .ok (.iaload, 1) := by decide +kernel
theorem dX7_move_28 : decode cX7_move 28 = .ok (.istore_n 3, 1) := by decide +kernel
theorem dX7_move_29 : decode cX7_move 29 = .ok (.aload_n 0, 1) := by decide +kernel
theorem dX7_move_30 : decode cX7_move 30 = .ok (.getfield 19, 3) := by decide +kernel
theorem dX7_move_33 : decode cX7_move 33 = .ok (.iload_n 1, 1) := by decide +kernel
theorem dX7_move_34 : decode cX7_move 34 = .ok (.iload_n 2, 1) := by decide +kernel
theorem dX7_move_35 : decode cX7_move 35 = .ok (.invokevirtual 172, 3) := by decide +kernel
theorem dX7_move_38 : decode cX7_move 38 = .ok (.ifCond .eq 7, 3) := by decide +kernel
theorem dX7_move_41 : decode cX7_move 41 = .ok (.iload_n 3, 1) := by decide +kernel
theorem dX7_move_42 : decode cX7_move 42 = .ok (.goto 5, 3) := by decide +kernel
theorem dX7_move_45 : decode cX7_move 45 = .ok (.bipush (-103), 2) := by decide +kernel
theorem dX7_move_47 : decode cX7_move 47 = .ok (.ireturn, 1) := by decide +kernel
theorem dX7_day_0 : decode cX7_day 0 = .ok (.aload_n 0, 1) := by decide +kernel
theorem dX7_day_1 : decode cX7_day 1 = .ok (.getfield 79, 3) := by decide +kernel
theorem dX7_day_4 : decode cX7_day 4 = .ok (.ifCond .eq 13, 3) := by decide +kernel
theorem dX7_day_7 : decode cX7_day 7 = .ok (.aload_n 0, 1) := by decide +kernel
theorem dX7_day_8 : decode cX7_day 8 = .ok (.getfield 19, 3) := by decide +kernel
theorem dX7_day_11 : decode cX7_day 11 = .ok (.invokevirtual 175, 3) := by decide +kernel
theorem dX7_day_14 : decode cX7_day 14 = .ok (.goto 5, 3) := by decide +kernel
theorem dX7_day_17 : decode cX7_day 17 = .ok (.bipush (-103), 2) := by decide +kernel
theorem dX7_day_19 : decode cX7_day 19 = .ok (.ireturn, 1) := by decide +kernel
theorem dX7_holds_0 : decode cX7_holds 0 = .ok (.aload_n 0, 1) := by decide +kernel
theorem dX7_holds_1 : decode cX7_holds 1 = .ok (.getfield 79, 3) := by decide +kernel
theorem dX7_holds_4 : decode cX7_holds 4 = .ok (.ifCond .eq 19, 3) := by decide +kernel
theorem dX7_holds_7 : decode cX7_holds 7 = .ok (.aload_n 0, 1) := by decide +kernel
theorem dX7_holds_8 : decode cX7_holds 8 = .ok (.getfield 19, 3) := by decide +kernel
theorem dX7_holds_11 : decode cX7_holds 11 = .ok (.getfield 89, 3) := by decide +kernel
theorem dX7_holds_14 : decode cX7_holds 14 = .ok (.invokevirtual 178, 3) := by decide +kernel
theorem dX7_holds_17 : decode cX7_holds 17 = .ok (.invokestatic 181, 3) := by decide +kernel
theorem dX7_holds_20 : decode cX7_holds 20 = .ok (.goto 5, 3) := by decide +kernel
theorem dX7_holds_23 : decode cX7_holds 23 = .ok (.bipush (-103), 2) := by decide +kernel
theorem dX7_holds_25 : decode cX7_holds 25 = .ok (.ireturn, 1) := by decide +kernel
theorem dX7_where_0 : decode cX7_where 0 = .ok (.iload_n 1, 1) := by decide +kernel
theorem dX7_where_1 : decode cX7_where 1 = .ok (.bipush 10, 2) := by decide +kernel
theorem dX7_where_3 : decode cX7_where 3 = .ok (.isub, 1) := by decide +kernel
theorem dX7_where_4 : decode cX7_where 4 = .ok (.istore_n 2, 1) := by decide +kernel
theorem dX7_where_5 : decode cX7_where 5 = .ok (.iload_n 1, 1) := by decide +kernel
theorem dX7_where_6 : decode cX7_where 6 = .ok (.bipush 10, 2) := by decide +kernel
theorem dX7_where_8 : decode cX7_where 8 = .ok (.if_icmp .lt 12, 3) := by decide +kernel
theorem dX7_where_11 : decode cX7_where 11 = .ok (.iload_n 2, 1) := by decide +kernel
theorem dX7_where_12 : decode cX7_where 12 = .ok (.iconst 5, 1) := by decide +kernel
theorem dX7_where_13 : decode cX7_where 13 = .ok (.if_icmp .ge 7, 3) := by decide +kernel
theorem dX7_where_16 : decode cX7_where 16 = .ok (.iconst 1, 1) := by decide +kernel
theorem dX7_where_17 : decode cX7_where 17 = .ok (.goto 4, 3) := by decide +kernel
theorem dX7_where_20 : decode cX7_where 20 = .ok (.iconst 0, 1) := by decide +kernel
theorem dX7_where_21 : decode cX7_where 21 = .ok (.istore_n 3, 1) := by decide +kernel
theorem dX7_where_22 : decode cX7_where 22 = .ok (.iload_n 1, 1) := by decide +kernel
theorem dX7_where_23 : decode cX7_where 23 = .ok (.ifCond .eq 10, 3) := by decide +kernel
theorem dX7_where_26 : decode cX7_where 26 = .ok (.iload_n 3, 1) := by decide +kernel
theorem dX7_where_27 : decode cX7_where 27 = .ok (.ifCond .ne 6, 3) := by decide +kernel
theorem dX7_where_30 : decode cX7_where 30 = .ok (.bipush (-102), 2) := by decide +kernel
theorem dX7_where_32 : decode cX7_where 32 = .ok (.ireturn, 1) := by decide +kernel
theorem dX7_where_33 : decode cX7_where 33 = .ok (.aload_n 0, 1) := by decide +kernel
theorem dX7_where_34 : decode cX7_where 34 = .ok (.getfield 79, 3) := by decide +kernel
theorem dX7_where_37 : decode cX7_where 37 = .ok (.ifCond .eq 12, 3) := by decide +kernel
theorem dX7_where_40 : decode cX7_where 40 = .ok (.aload_n 0, 1) := by decide +kernel
theorem dX7_where_41 : decode cX7_where 41 = .ok (.getfield 184, 3) := by decide +kernel
theorem dX7_where_44 : decode cX7_where 44 = .ok (.bipush 12, 2) := by decide +kernel
theorem dX7_where_46 : decode cX7_where 46 = .ok (.if_icmp .lt 6, 3) := by decide +kernel
theorem dX7_where_49 : decode cX7_where 49 = .ok (.bipush (-103), 2) := by decide +kernel
theorem dX7_where_51 : decode cX7_where 51 = .ok (.ireturn, 1) := by decide +kernel
theorem dX7_where_52 : decode cX7_where 52 = .ok (.aload_n 0, 1) := by decide +kernel
theorem dX7_where_53 : decode cX7_where 53 = .ok (.dup, 1) := by decide +kernel
theorem dX7_where_54 : decode cX7_where 54 = .ok (.getfield 184, 3) := by decide +kernel
theorem dX7_where_57 : decode cX7_where 57 = .ok (.iconst 1, 1) := by decide +kernel
theorem dX7_where_58 : decode cX7_where 58 = .ok (.iadd, 1) := by decide +kernel
theorem dX7_where_59 : decode cX7_where 59 = .ok (.putfield 184, 3) := by decide +kernel
theorem dX7_where_62 : decode cX7_where 62 = .ok (.aload_n 0, 1) := by decide +kernel
theorem dX7_where_63 : decode cX7_where 63 = .ok (.getfield 42, 3) := by decide +kernel
theorem dX7_where_66 : decode cX7_where 66 = .ok (.aload_n 0, 1) := by decide +kernel
theorem dX7_where_67 : decode cX7_where 67 = .ok (.getfield 19, 3) := by decide +kernel
theorem dX7_where_70 : decode cX7_where 70 = .ok (.invokevirtual 187, 3) := by decide +kernel
theorem dX7_where_73 : decode cX7_where 73 = .ok (.aload_n 0, 1) := by decide +kernel
theorem dX7_where_74 : decode cX7_where 74 = .ok (.getfield 42, 3) := by decide +kernel
theorem dX7_where_77 : decode cX7_where 77 = .ok (.getfield 191, 3) := by decide +kernel
theorem dX7_where_80 : decode cX7_where 80 = .ok (.ifCond .ne 5, 3) := by decide +kernel
theorem dX7_where_83 : decode cX7_where 83 = .ok (.iconst (-1), 1) := by decide +kernel
theorem dX7_where_84 : decode cX7_where 84 = .ok (.ireturn, 1) := by decide +kernel
theorem dX7_where_85 : decode cX7_where 85 = .ok (.iload_n 3, 1) := by decide +kernel
theorem dX7_where_86 : decode cX7_where 86 = .ok (.ifCond .ne 14, 3) := by decide +kernel
theorem dX7_where_89 : decode cX7_where 89 = .ok (.aload_n 0, 1) := by decide +kernel
theorem dX7_where_90 : decode cX7_where 90 = .ok (.getfield 42, 3) := by decide +kernel
theorem dX7_where_93 : decode cX7_where 93 = .ok (.getfield 194, 3) := by decide +kernel
theorem dX7_where_96 : decode cX7_where 96 = .ok (.invokestatic 181, 3) := by decide +kernel
theorem dX7_where_99 : decode cX7_where 99 = .ok (.ireturn, 1) := by decide +kernel
theorem dX7_where_100 : decode cX7_where 100 = .ok (.aload_n 0, 1) := by decide +kernel
theorem dX7_where_101 : decode cX7_where 101 = .ok (.iload_n 2, 1) := by decide +kernel
theorem dX7_where_102 : decode cX7_where 102 = .ok (.invokevirtual 147, 3) := by decide +kernel
theorem dX7_where_105 : decode cX7_where 105 = .ok (.ifCond .eq 15, 3) := by decide +kernel
theorem dX7_where_108 : decode cX7_where 108 = .ok (.aload_n 0, 1) := by decide +kernel
theorem dX7_where_109 : decode cX7_where 109 = .ok (.getfield 42, 3) := by decide +kernel
theorem dX7_where_112 : decode cX7_where 112 = .ok (.getfield 197, 3) := by decide +kernel
theorem dX7_where_115 : decode cX7_where 115 = .ok (.iload_n 2, 1) := by decide +kernel
theorem dX7_where_116 : decode cX7_where 116 = .ok (.iaload, 1) := by decide +kernel
theorem dX7_where_117 : decode cX7_where 117 = .ok (.goto 4, 3) := by decide +kernel
theorem dX7_where_120 : decode cX7_where 120 = .ok (.iconst (-1), 1) := by decide +kernel
theorem dX7_where_121 : decode cX7_where 121 = .ok (.ireturn, 1) := by decide +kernel
theorem dX7_props_0 : decode cX7_props 0 = .ok (.iload_n 2, 1) := by decide +kernel
theorem dX7_props_1 : decode cX7_props 1 = .ok (.bipush 10, 2) := by decide +kernel
theorem dX7_props_3 : decode cX7_props 3 = .ok (.isub, 1) := by decide +kernel
theorem dX7_props_4 : decode cX7_props 4 = .ok (.istore_n 3, 1) := by decide +kernel
theorem dX7_props_5 : decode cX7_props 5 = .ok (.iload_n 2, 1) := by decide +kernel
theorem dX7_props_6 : decode cX7_props 6 = .ok (.bipush 10, 2) := by decide +kernel
theorem dX7_props_8 : decode cX7_props 8 = .ok (.if_icmp .lt 13, 3) := by decide +kernel
theorem dX7_props_11 : decode cX7_props 11 = .ok (.iload_n 3, 1) := by decide +kernel
theorem dX7_props_12 : decode cX7_props 12 = .ok (.bipush 6, 2) := by decide +kernel
theorem dX7_props_14 : decode cX7_props 14 = .ok (.if_icmp .ge 7, 3) := by decide +kernel
theorem dX7_props_17 : decode cX7_props 17 = .ok (.iconst 1, 1) := by decide +kernel
theorem dX7_props_18 : decode cX7_props 18 = .ok (.goto 4, 3) := by decide +kernel
theorem dX7_props_21 : decode cX7_props 21 = .ok (.iconst 0, 1) := by decide +kernel
theorem dX7_props_22 : decode cX7_props 22 = .ok (.istore 4, 2) := by decide +kernel
theorem dX7_props_24 : decode cX7_props 24 = .ok (.iload_n 1, 1) := by decide +kernel
theorem dX7_props_25 : decode cX7_props 25 = .ok (.iconst 1, 1) := by decide +kernel
theorem dX7_props_26 : decode cX7_props 26 = .ok (.if_icmp .lt 18, 3) := by decide +kernel
theorem dX7_props_29 : decode cX7_props 29 = .ok (.iload_n 1, 1) := by decide +kernel
theorem dX7_props_30 : decode cX7_props 30 = .ok (.bipush 20, 2) := by decide +kernel
theorem dX7_props_32 : decode cX7_props 32 = .ok (.if_icmp .gt 12, 3) := by decide +kernel
theorem dX7_props_35 : decode cX7_props 35 = .ok (.iload_n 2, 1) := by decide +kernel
theorem dX7_props_36 : decode cX7_props 36 = .ok (.ifCond .eq 11, 3) := by decide +kernel
theorem dX7_props_39 : decode cX7_props 39 = .ok (.iload 4, 2) := by decide +kernel
theorem dX7_props_41 : decode cX7_props 41 = .ok (.ifCond .ne 6, 3) := by decide +kernel
theorem dX7_props_44 : decode cX7_props 44 = .ok (.bipush (-102), 2) := by decide +kernel
theorem dX7_props_46 : decode cX7_props 46 = .ok (.ireturn, 1) := by decide +kernel
