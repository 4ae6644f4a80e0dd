theorem dX8_goesBy_56 : decode cX8_goesBy 56 = .ok (.iload_n 3, 1) := by decide +kernel
theorem dX8_goesBy_57 : decode cX8_goesBy 57 = .ok (.goto 4, 3) := by decide +kernel
theorem dX8_goesBy_60 : decode cX8_goesBy 60 = .ok (.iconst 0, 1) := by decide +kernel
theorem dX8_goesBy_61 : decode cX8_goesBy 61 = .ok (.iastore, 1) := by decide +kernel
theorem dX8_goesBy_62 : decode cX8_goesBy 62 = .ok (.iload_n 1, 1) := by decide +kernel
theorem dX8_goesBy_63 : decode cX8_goesBy 63 = .ok (.iload_n 3, 1) := by decide +kernel
theorem dX8_goesBy_64 : decode cX8_goesBy 64 = .ok (.ifCond .le 7, 3) := by decide +kernel
theorem dX8_goesBy_67 : decode cX8_goesBy 67 = .ok (.iconst 0, 1) := by decide +kernel
theorem dX8_goesBy_68 : decode cX8_goesBy 68 = .ok (.goto 4, 3) := by decide +kernel
theorem dX8_goesBy_71 : decode cX8_goesBy 71 = .ok (.iconst 1, 1) := by decide +kernel
theorem dX8_goesBy_72 : decode cX8_goesBy 72 = .ok (.iadd, 1) := by decide +kernel
theorem dX8_goesBy_73 : decode cX8_goesBy 73 = .ok (.istore_n 1, 1) := by decide +kernel
theorem dX8_goesBy_74 : decode cX8_goesBy 74 = .ok (.iinc 2 1, 3) := by decide +kernel
theorem dX8_goesBy_77 : decode cX8_goesBy 77 = .ok (.goto (-62), 3) := by decide +kernel
theorem dX8_goesBy_80 : decode cX8_goesBy 80 = .ok (.iload_n 1, 1) := by decide +kernel
theorem dX8_goesBy_81 : decode cX8_goesBy 81 = .ok (.ireturn, 1) := by decide +kernel
theorem dX8_whoIn_0 : decode cX8_whoIn 0 = .ok (.iconst 0, 1) := by decide +kernel
theorem dX8_whoIn_1 : decode cX8_whoIn 1 = .ok (.istore_n 2, 1) := by decide +kernel
theorem dX8_whoIn_2 : decode cX8_whoIn 2 = .ok (.iconst 0, 1) := by decide +kernel
theorem dX8_whoIn_3 : decode cX8_whoIn 3 = .ok (.istore_n 3, 1) := by decide +kernel
theorem dX8_whoIn_4 : decode cX8_whoIn 4 = .ok (.iload_n 3, 1) := by decide +kernel
theorem dX8_whoIn_5 : decode cX8_whoIn 5 = .ok (.aload_n 0, 1) := by decide +kernel
theorem dX8_whoIn_6 : decode cX8_whoIn 6 = .ok (.getfield 84, 3) := by decide +kernel
theorem dX8_whoIn_9 : decode cX8_whoIn 9 = .ok (.if_icmp .ge 33, 3) := by decide +kernel
theorem dX8_whoIn_12 : decode cX8_whoIn 12 = .ok (.iload_n 2, 1) := by decide +kernel
theorem dX8_whoIn_13 : decode cX8_whoIn 13 = .ok (.aload_n 0, 1) := by decide +kernel
theorem dX8_whoIn_14 : decode cX8_whoIn 14 = .ok (.getfield 16, 3) := by decide +kernel
theorem dX8_whoIn_17 : decode cX8_whoIn 17 = .ok (.iconst 2, 1) := by decide +kernel
theorem dX8_whoIn_18 : decode cX8_whoIn 18 = .ok (.iload_n 3, 1) := by decide +kernel
theorem dX8_whoIn_19 : decode cX8_whoIn 19 = .ok (.imul, 1) := by decide +kernel
theorem dX8_whoIn_20 : decode cX8_whoIn 20 = .ok (.iconst 1, 1) := by decide +kernel
theorem dX8_whoIn_21 : decode cX8_whoIn 21 = .ok (.iadd, 1) := by decide +kernel
theorem dX8_whoIn_22 : decode cX8_whoIn 22 = .ok (.iaload, 1) := by decide +kernel
theorem dX8_whoIn_23 : decode cX8_whoIn 23 = .ok (.iload_n 1, 1) := by decide +kernel
theorem dX8_whoIn_24 : decode cX8_whoIn 24 = .ok (.if_icmp .ne 9, 3) := by decide +kernel
theorem dX8_whoIn_27 : decode cX8_whoIn 27 = .ok (.iconst 1, 1) := by decide +kernel
theorem dX8_whoIn_28 : decode cX8_whoIn 28 = .ok (.iload_n 3, 1) := by decide +kernel
theorem dX8_whoIn_29 : decode cX8_whoIn 29 = .ok (.ishl, 1) := by decide +kernel
theorem dX8_whoIn_30 : decode cX8_whoIn 30 = .ok (.goto 4, 3) := by decide +kernel
theorem dX8_whoIn_33 : decode cX8_whoIn 33 = .ok (.iconst 0, 1) := by decide +kernel
theorem dX8_whoIn_34 : decode cX8_whoIn 34 = .ok (.ior, 1) := by decide +kernel
theorem dX8_whoIn_35 : decode cX8_whoIn 35 = .ok (.istore_n 2, 1) := by decide +kernel
theorem dX8_whoIn_36 : decode cX8_whoIn 36 = .ok (.iinc 3 1, 3) := by decide +kernel
theorem dX8_whoIn_39 : decode cX8_whoIn 39 = .ok (.goto (-35), 3) := by decide +kernel
theorem dX8_whoIn_42 : decode cX8_whoIn 42 = .ok (.iload_n 2, 1) := by decide +kernel
theorem dX8_whoIn_43 : decode cX8_whoIn 43 = .ok (.ireturn, 1) := by decide +kernel
theorem dX8_tellPlace_0 : decode cX8_tellPlace 0 = .ok (.iload_n 2, 1) := by decide +kernel
theorem dX8_tellPlace_1 : decode cX8_tellPlace 1 = .ok (.tableswitch 115 0 5 #[39, 46, 56, 62, 103, 109], 39) := by decide +kernel
theorem dX8_tellPlace_40 : decode cX8_tellPlace 40 = .ok (.aload_n 0, 1) := by decide +kernel
theorem dX8_tellPlace_41 : decode cX8_tellPlace 41 = .ok (.getfield 13, 3) := by decide +kernel
theorem dX8_tellPlace_44 : decode cX8_tellPlace 44 = .ok (.iload_n 1, 1) := by decide +kernel
theorem dX8_tellPlace_45 : decode cX8_tellPlace 45 = .ok (.iaload, 1) := by decide +kernel
theorem dX8_tellPlace_46 : decode cX8_tellPlace 46 = .ok (.ireturn, 1) := by decide +kernel
theorem dX8_tellPlace_47 : decode cX8_tellPlace 47 = .ok (.aload_n 0, 1) := by decide +kernel
theorem dX8_tellPlace_48 : decode cX8_tellPlace 48 = .ok (.invokevirtual 121, 3) := by decide +kernel
theorem dX8_tellPlace_51 : decode cX8_tellPlace 51 = .ok (.aload_n 0, 1) := by decide +kernel
theorem dX8_tellPlace_52 : decode cX8_tellPlace 52 = .ok (.iload_n 1, 1) := by decide +kernel
theorem dX8_tellPlace_53 : decode cX8_tellPlace 53 = .ok (.invokevirtual 110, 3) := by decide +kernel
theorem dX8_tellPlace_56 : decode cX8_tellPlace 56 = .ok (.ireturn, 1) := by decide +kernel
theorem dX8_tellPlace_57 : decode cX8_tellPlace 57 = .ok (.aload_n 0, 1) := by decide +kernel
theorem dX8_tellPlace_58 : decode cX8_tellPlace 58 = .ok (.iload_n 1, 1) := by decide +kernel
theorem dX8_tellPlace_59 : decode cX8_tellPlace 59 = .ok (.invokevirtual 124, 3) := by decide +kernel
theorem dX8_tellPlace_62 : decode cX8_tellPlace 62 = .ok (.ireturn, 1) := by decide +kernel
theorem dX8_tellPlace_63 : decode cX8_tellPlace 63 = .ok (.aload_n 0, 1) := by decide +kernel
theorem dX8_tellPlace_64 : decode cX8_tellPlace 64 = .ok (.invokevirtual 121, 3) := by decide +kernel
theorem dX8_tellPlace_67 : decode cX8_tellPlace 67 = .ok (.aload_n 0, 1) := by decide +kernel
theorem dX8_tellPlace_68 : decode cX8_tellPlace 68 = .ok (.getfield 13, 3) := by decide +kernel
theorem dX8_tellPlace_71 : decode cX8_tellPlace 71 = .ok (.iload_n 1, 1) := by decide +kernel
theorem dX8_tellPlace_72 : decode cX8_tellPlace 72 = .ok (.iaload, 1) := by decide +kernel
theorem dX8_tellPlace_73 : decode cX8_tellPlace 73 = .ok (.aload_n 0, 1) := by decide +kernel
theorem dX8_tellPlace_74 : decode cX8_tellPlace 74 = .ok (.iload_n 1, 1) := by decide +kernel
theorem dX8_tellPlace_75 : decode cX8_tellPlace 75 = .ok (.aload_n 0, 1) := by decide +kernel
theorem dX8_tellPlace_76 : decode cX8_tellPlace 76 = .ok (.getfield 22, 3) := by decide +kernel
theorem dX8_tellPlace_79 : decode cX8_tellPlace 79 = .ok (.invokevirtual 117, 3) := by decide +kernel
theorem dX8_tellPlace_82 : decode cX8_tellPlace 82 = .ok (.if_icmp .ge 12, 3) := by decide +kernel
theorem dX8_tellPlace_85 : decode cX8_tellPlace 85 = .ok (.aload_n 0, 1) := by decide +kernel
theorem dX8_tellPlace_86 : decode cX8_tellPlace 86 = .ok (.getfield 13, 3) := by decide +kernel
theorem dX8_tellPlace_89 : decode cX8_tellPlace 89 = .ok (.iload_n 1, 1) := by decide +kernel
theorem dX8_tellPlace_90 : decode cX8_tellPlace 90 = .ok (.iaload, 1) := by decide +kernel
theorem dX8_tellPlace_91 : decode cX8_tellPlace 91 = .ok (.goto 12, 3) := by decide +kernel
theorem dX8_tellPlace_94 : decode cX8_tellPlace 94 = .ok (.aload_n 0, 1) := by decide +kernel
theorem dX8_tellPlace_95 : decode cX8_tellPlace 95 = .ok (.iload_n 1, 1) := by decide +kernel
theorem dX8_tellPlace_96 : decode cX8_tellPlace 96 = .ok (.aload_n 0, 1) := by decide +kernel
theorem dX8_tellPlace_97 : decode cX8_tellPlace 97 = .ok (.getfield 22, 3) := by decide +kernel
theorem dX8_tellPlace_100 : decode cX8_tellPlace 100 = .ok (.invokevirtual 117, 3) := by decide +kernel
theorem dX8_tellPlace_103 : decode cX8_tellPlace 103 = .ok (.ireturn, 1) := by decide +kernel
theorem dX8_tellPlace_104 : decode cX8_tellPlace 104 = .ok (.aload_n 0, 1) := by decide +kernel
theorem dX8_tellPlace_105 : decode cX8_tellPlace 105 = .ok (.iload_n 1, 1) := by decide +kernel
theorem dX8_tellPlace_106 : decode cX8_tellPlace 106 = .ok (.invokevirtual 127, 3) := by decide +kernel
theorem dX8_tellPlace_109 : decode cX8_tellPlace 109 = .ok (.ireturn, 1) := by decide +kernel
theorem dX8_tellPlace_110 : decode cX8_tellPlace 110 = .ok (.aload_n 0, 1) := by decide +kernel
theorem dX8_tellPlace_111 : decode cX8_tellPlace 111 = .ok (.iload_n 1, 1) := by decide +kernel
theorem dX8_tellPlace_112 : decode cX8_tellPlace 112 = .ok (.invokevirtual 130, 3) := by decide +kernel
theorem dX8_tellPlace_115 : decode cX8_tellPlace 115 = .ok (.ireturn, 1) := by decide +kernel
theorem dX8_tellPlace_116 : decode cX8_tellPlace 116 = .ok (.bipush (-102), 2) := by decide +kernel
theorem dX8_tellPlace_118 : decode cX8_tellPlace 118 = .ok (.ireturn, 1) := by decide +kernel
theorem dX8_place_0 : decode cX8_place 0 = .ok (.aload_n 0, 1) := by decide +kernel
theorem dX8_place_1 : decode cX8_place 1 = .ok (.iload_n 1, 1) := by decide +kernel
theorem dX8_place_2 : decode cX8_place 2 = .ok (.invokevirtual 133, 3) := by decide +kernel
theorem dX8_place_5 : decode cX8_place 5 = .ok (.ifCond .eq 12, 3) := by decide +kernel
theorem dX8_place_8 : decode cX8_place 8 = .ok (.aload_n 0, 1) := by decide +kernel
theorem dX8_place_9 : decode cX8_place 9 = .ok (.iload_n 1, 1) := by decide +kernel
theorem dX8_place_10 : decode cX8_place 10 = .ok (.iload_n 2, 1) := by decide +kernel
theorem dX8_place_11 : decode cX8_place 11 = .ok (.invokevirtual 137, 3) := by decide +kernel
theorem dX8_place_14 : decode cX8_place 14 = .ok (.goto 5, 3) := by decide +kernel
theorem dX8_place_17 : decode cX8_place 17 = .ok (.bipush (-101), 2) := by decide +kernel
theorem dX8_place_19 : decode cX8_place 19 = .ok (.ireturn, 1) := by decide +kernel
theorem dX8_prop_0 : decode cX8_prop 0 = .ok (.aload_n 0, 1) := by decide +kernel
theorem dX8_prop_1 : decode cX8_prop 1 = .ok (.iload_n 1, 1) := by decide +kernel
theorem dX8_prop_2 : decode cX8_prop 2 = .ok (.invokevirtual 133, 3) := by decide +kernel
theorem dX8_prop_5 : decode cX8_prop 5 = .ok (.ifCond .ne 6, 3) := by decide +kernel
theorem dX8_prop_8 : decode cX8_prop 8 = .ok (.bipush (-101), 2) := by decide +kernel
theorem dX8_prop_10 : decode cX8_prop 10 = .ok (.ireturn, 1) := by decide +kernel
theorem dX8_prop_11 : decode cX8_prop 11 = .ok (.aload_n 0, 1) := by decide +kernel
theorem dX8_prop_12 : decode cX8_prop 12 = .ok (.getfield 13, 3) := by decide +kernel
theorem dX8_prop_15 : decode cX8_prop 15 = .ok (.iload_n 1, 1) := by decide +kernel
theorem dX8_prop_16 : decode cX8_prop 16 = .ok (.iaload, 1) := by decide +kernel
theorem dX8_prop_17 : decode cX8_prop 17 = .ok (.ifCond .eq 16, 3) := by decide +kernel
theorem dX8_prop_20 : decode cX8_prop 20 = .ok (.aload_n 0, 1) := by decide +kernel
theorem dX8_prop_21 : decode cX8_prop 21 = .ok (.getfield 13, 3) := by decide +kernel
theorem dX8_prop_24 : decode cX8_prop 24 = .ok (.iload_n 1, 1) := by decide +kernel
theorem dX8_prop_25 : decode cX8_prop 25 = .ok (.iaload, 1) := by decide +kernel
theorem dX8_prop_26 : decode cX8_prop 26 = .ok (.iconst 3, 1) := by decide +kernel
theorem dX8_prop_27 : decode cX8_prop 27 = .ok (.iadd, 1) := by decide +kernel
theorem dX8_prop_28 : decode cX8_prop 28 = .ok (.bipush 20, 2) := by decide +kernel
theorem dX8_prop_30 : decode cX8_prop 30 = .ok (.if_icmp .le 6, 3) := by decide +kernel
theorem dX8_prop_33 : decode cX8_prop 33 = .ok (.bipush (-103), 2) := by decide +kernel
theorem dX8_prop_35 : decode cX8_prop 35 = .ok (.ireturn, 1) := by decide +kernel
theorem dX8_prop_36 : decode cX8_prop 36 = .ok (.aload_n 0, 1) := by decide +kernel
theorem dX8_prop_37 : decode cX8_prop 37 = .ok (.getfield 13, 3) := by decide +kernel
theorem dX8_prop_40 : decode cX8_prop 40 = .ok (.iload_n 1, 1) := by decide +kernel
theorem dX8_prop_41 : decode cX8_prop 41 = .ok (.dup2, 1) := by decide +kernel
theorem dX8_prop_42 : decode cX8_prop 42 = .ok (.iaload, 1) := by decide +kernel
theorem dX8_prop_43 : decode cX8_prop 43 = .ok (.iconst 3, 1) := by decide +kernel
theorem dX8_prop_44 : decode cX8_prop 44 = .ok (.iadd, 1) := by decide +kernel
theorem dX8_prop_45 : decode cX8_prop 45 = .ok (.iastore, 1) := by decide +kernel
theorem dX8_prop_46 : decode cX8_prop 46 = .ok (.aload_n 0, 1) := by decide +kernel
theorem dX8_prop_47 : decode cX8_prop 47 = .ok (.dup, 1) := by decide +kernel
theorem dX8_prop_48 : decode cX8_prop 48 = .ok (.getfield 81, 3) := by decide +kernel
theorem dX8_prop_51 : decode cX8_prop 51 = .ok (.iconst 1, 1) := by decide +kernel
theorem dX8_prop_52 : decode cX8_prop 52 = .ok (.iadd, 1) := by decide +kernel
theorem dX8_prop_53 : decode cX8_prop 53 = .ok (.putfield 81, 3) := by decide +kernel
theorem dX8_prop_56 : decode cX8_prop 56 = .ok (.aload_n 0, 1) := by decide +kernel
theorem dX8_prop_57 : decode cX8_prop 57 = .ok (.getfield 13, 3) := by decide +kernel
theorem dX8_prop_60 : decode cX8_prop 60 = .ok (.iload_n 1, 1) := by decide +kernel
theorem dX8_prop_61 : decode cX8_prop 61 = .ok (.iaload, 1) := by decide +kernel
theorem dX8_prop_62 : decode cX8_prop 62 = .ok (.ireturn, 1) := by decide +kernel
theorem dX8_tenant_0 : decode cX8_tenant 0 = .ok (.iload_n 1, 1) := by decide +kernel
theorem dX8_tenant_1 : decode cX8_tenant 1 = .ok (.i2l, 1) := by decide +kernel
theorem dX8_tenant_2 : decode cX8_tenant 2 = .ok (.lconst 0, 1) := by decide +kernel
theorem dX8_tenant_3 : decode cX8_tenant 3 = .ok (.ldc2_w 141, 3) := by decide +kernel
theorem dX8_tenant_6 : decode cX8_tenant 6 = .ok (.invokestatic 52, 3) := by decide +kernel
theorem dX8_tenant_9 : decode cX8_tenant 9 = .ok (.ifCond .ne 6, 3) := by decide +kernel
theorem dX8_tenant_12 : decode cX8_tenant 12 = .ok (.bipush (-102), 2) := by decide +kernel
theorem dX8_tenant_14 : decode cX8_tenant 14 = .ok (.ireturn, 1) := by decide +kernel
theorem dX8_tenant_15 : decode cX8_tenant 15 = .ok (.aload_n 0, 1) := by decide +kernel
theorem dX8_tenant_16 : decode cX8_tenant 16 = .ok (.iload_n 2, 1) := by decide +kernel
theorem dX8_tenant_17 : decode cX8_tenant 17 = .ok (.invokevirtual 133, 3) := by decide +kernel
theorem dX8_tenant_20 : decode cX8_tenant 20 = .ok (.ifCond .ne 6, 3) := by decide +kernel
theorem dX8_tenant_23 : decode cX8_tenant 23 = .ok (.bipush (-101), 2) := by decide +kernel
theorem dX8_tenant_25 : decode cX8_tenant 25 = .ok (.ireturn, 1) := by decide +kernel
theorem dX8_tenant_26 : decode cX8_tenant 26 = .ok (.aload_n 0, 1) := by decide +kernel
theorem dX8_tenant_27 : decode cX8_tenant 27 = .ok (.getfield 13, 3) := by decide +kernel
theorem dX8_tenant_30 : decode cX8_tenant 30 = .ok (.iload_n 2, 1) := by decide +kernel
theorem dX8_tenant_31 : decode cX8_tenant 31 = .ok (.iaload, 1) := by decide +kernel
theorem dX8_tenant_32 : decode cX8_tenant 32 = .ok (.ifCond .ne 6, 3) := by decide +kernel
theorem dX8_tenant_35 : decode cX8_tenant 35 = .ok (.bipush (-103), 2) := by decide +kernel
theorem dX8_tenant_37 : decode cX8_tenant 37 = .ok (.ireturn, 1) := by decide +kernel
theorem dX8_tenant_38 : decode cX8_tenant 38 = .ok (.aload_n 0, 1) := by decide +kernel
theorem dX8_tenant_39 : decode cX8_tenant 39 = .ok (.getfield 84, 3) := by decide +kernel
theorem dX8_tenant_42 : decode cX8_tenant 42 = .ok (.iconst 5, 1) := by decide +kernel
theorem dX8_tenant_43 : decode cX8_tenant 43 = .ok (.if_icmp .ne 6, 3) := by decide +kernel
theorem dX8_tenant_46 : decode cX8_tenant 46 = .ok (.bipush (-104), 2) := by decide +kernel
theorem dX8_tenant_48 : decode cX8_tenant 48 = .ok (.ireturn, 1) := by decide +kernel
theorem dX8_tenant_49 : decode cX8_tenant 49 = .ok (.aload_n 0, 1) := by decide +kernel
theorem dX8_tenant_50 : decode cX8_tenant 50 = .ok (.getfield 16, 3) := by decide +kernel
theorem dX8_tenant_53 : decode cX8_tenant 53 = .ok (.iconst 2, 1) := by decide +kernel
theorem dX8_tenant_54 : decode cX8_tenant 54 = .ok (.aload_n 0, 1) := by decide +kernel
theorem dX8_tenant_55 : decode cX8_tenant 55 = .ok (.getfield 84, 3) := by decide +kernel
theorem dX8_tenant_58 : decode cX8_tenant 58 = .ok (.imul, 1) := by decide +kernel
theorem dX8_tenant_59 : decode cX8_tenant 59 = .ok (.iload_n 1, 1) := by decide +kernel
theorem dX8_tenant_60 : decode cX8_tenant 60 = .ok (.iastore, 1) := by decide +kernel
theorem dX8_tenant_61 : decode cX8_tenant 61 = .ok (.aload_n 0, 1) := by decide +kernel
theorem dX8_tenant_62 : decode cX8_tenant 62 = .ok (.getfield 16, 3) := by decide +kernel
theorem dX8_tenant_65 : decode cX8_tenant 65 = .ok (.iconst 2, 1) := by decide +kernel
theorem dX8_tenant_66 : decode cX8_tenant 66 = .ok (.aload_n 0, 1) := by decide +kernel
theorem dX8_tenant_67 : decode cX8_tenant 67 = .ok (.getfield 84, 3) := by decide +kernel
theorem dX8_tenant_70 : decode cX8_tenant 70 = .ok (.imul, 1) := by decide +kernel
theorem dX8_tenant_71 : decode cX8_tenant 71 = .ok (.iconst 1, 1) := by decide +kernel
theorem dX8_tenant_72 : decode cX8_tenant 72 = .ok (.iadd, 1) := by decide +kernel
theorem dX8_tenant_73 : decode cX8_tenant 73 = .ok (.iload_n 2, 1) := by decide +kernel
theorem dX8_tenant_74 : decode cX8_tenant 74 = .ok (.iastore, 1) := by decide +kernel
theorem dX8_tenant_75 : decode cX8_tenant 75 = .ok (.aload_n 0, 1) := by decide +kernel
theorem dX8_tenant_76 : decode cX8_tenant 76 = .ok (.dup, 1) := by decide +kernel
theorem dX8_tenant_77 : decode cX8_tenant 77 = .ok (.getfield 84, 3) := by decide +kernel
theorem dX8_tenant_80 : decode cX8_tenant 80 = .ok (.iconst 1, 1) := by decide +kernel
theorem dX8_tenant_81 : decode cX8_tenant 81 = .ok (.iadd, 1) := by decide +kernel
theorem dX8_tenant_82 : decode cX8_tenant 82 = .ok (.putfield 84, 3) := by decide +kernel
theorem dX8_tenant_85 : decode cX8_tenant 85 = .ok (.aload_n 0, 1) := by decide +kernel
theorem dX8_tenant_86 : decode cX8_tenant 86 = .ok (.getfield 84, 3) := by decide +kernel
theorem dX8_tenant_89 : decode cX8_tenant 89 = .ok (.iconst 1, 1) := by decide +kernel
theorem dX8_tenant_90 : decode cX8_tenant 90 = .ok (.isub, 1) := by decide +kernel
theorem dX8_tenant_91 : decode cX8_tenant 91 = .ok (.ireturn, 1) := by decide +kernel
theorem dX8_isCutOff_0 : decode cX8_isCutOff 0 = .ok (.iconst 0, 1) := by decide +kernel
theorem dX8_isCutOff_1 : decode cX8_isCutOff 1 = .ok (.istore_n 2, 1) := by decide +kernel
theorem dX8_isCutOff_2 : decode cX8_isCutOff 2 = .ok (.iconst 0, 1) := by decide +kernel
theorem dX8_isCutOff_3 : decode cX8_isCutOff 3 = .ok (.istore_n 3, 1) := by decide +kernel
theorem dX8_isCutOff_4 : decode cX8_isCutOff 4 = .ok (.iload_n 3, 1) := by decide +kernel
theorem dX8_isCutOff_5 : decode cX8_isCutOff 5 = .ok (.aload_n 0, 1) := by decide +kernel
theorem dX8_isCutOff_6 : decode cX8_isCutOff 6 = .ok (.getfield 19, 3) := by decide +kernel
theorem dX8_isCutOff_9 : decode cX8_isCutOff 9 = .ok (.iload_n 1, 1) := by decide +kernel
theorem dX8_isCutOff_10 : decode cX8_isCutOff 10 = .ok (.iaload, 1) := by decide +kernel
theorem dX8_isCutOff_11 : decode cX8_isCutOff 11 = .ok (.if_icmp .gt 28, 3) := by decide +kernel
theorem dX8_isCutOff_14 : decode cX8_isCutOff 14 = .ok (.iload_n 2, 1) := by decide +kernel
theorem dX8_isCutOff_15 : decode cX8_isCutOff 15 = .ok (.ifCond .ne 12, 3) := by decide +kernel
theorem dX8_isCutOff_18 : decode cX8_isCutOff 18 = .ok (.aload_n 0, 1) := by decide +kernel
theorem dX8_isCutOff_19 : decode cX8_isCutOff 19 = .ok (.getfield 22, 3) := by decide +kernel
theorem dX8_isCutOff_22 : decode cX8_isCutOff 22 = .ok (.iload_n 3, 1) := by decide +kernel
theorem dX8_isCutOff_23 : decode cX8_isCutOff 23 = .ok (.iaload, 1) := by decide +kernel
theorem dX8_isCutOff_24 : decode cX8_isCutOff 24 = .ok (.ifCond .ne 7, 3) := by decide +kernel
theorem dX8_isCutOff_27 : decode cX8_isCutOff 27 = .ok (.iconst 1, 1) := by decide +kernel
theorem dX8_isCutOff_28 : decode cX8_isCutOff 28 = .ok (.goto 4, 3) := by decide +kernel
theorem dX8_isCutOff_31 : decode cX8_isCutOff 31 = .ok (.iconst 0, 1) := by decide +kernel
theorem dX8_isCutOff_32 : decode cX8_isCutOff 32 = .ok (.istore_n 2, 1) := by decide +kernel
theorem dX8_isCutOff_33 : decode cX8_isCutOff 33 = .ok (.iinc 3 1, 3) := by decide +kernel
theorem dX8_isCutOff_36 : decode cX8_isCutOff 36 = .ok (.goto (-32), 3) := by decide +kernel
theorem dX8_isCutOff_39 : decode cX8_isCutOff 39 = .ok (.iload_n 2, 1) := by decide +kernel
theorem dX8_isCutOff_40 : decode cX8_isCutOff 40 = .ok (.ireturn, 1) := by decide +kernel
theorem dX8_gasping_0 : decode cX8_gasping 0 = .ok (.aload_n 0, 1) := by decide +kernel
theorem dX8_gasping_1 : decode cX8_gasping 1 = .ok (.getfield 69, 3) := by decide +kernel
theorem dX8_gasping_4 : decode cX8_gasping 4 = .ok (.istore_n 1, 1) := by decide +kernel
theorem dX8_gasping_5 : decode cX8_gasping 5 = .ok (.iconst 0, 1) := by decide +kernel
theorem dX8_gasping_6 : decode cX8_gasping 6 = .ok (.istore_n 2, 1) := by decide +kernel
theorem dX8_gasping_7 : decode cX8_gasping 7 = .ok (.iconst 0, 1) := by decide +kernel
theorem dX8_gasping_8 : decode cX8_gasping 8 = .ok (.istore_n 3, 1) := by decide +kernel
theorem dX8_gasping_9 : decode cX8_gasping 9 = .ok (.iload_n 3, 1) := by decide +kernel
theorem dX8_gasping_10 : decode cX8_gasping 10 = .ok (.bipush 6, 2) := by decide +kernel
theorem dX8_gasping_12 : decode cX8_gasping 12 = .ok (.if_icmp .ge 104, 3) := by decide +kernel
theorem dX8_gasping_15 : decode cX8_gasping 15 = .ok (.iconst 0, 1) := by decide +kernel
theorem dX8_gasping_16 : decode cX8_gasping 16 = .ok (.istore 4, 2) := by decide +kernel
theorem dX8_gasping_18 : decode cX8_gasping 18 = .ok (.iload 4, 2) := by decide +kernel
theorem dX8_gasping_20 : decode cX8_gasping 20 = .ok (.aload_n 0, 1) := by decide +kernel
theorem dX8_gasping_21 : decode cX8_gasping 21 = .ok (.getfield 84, 3) := by decide +kernel
theorem dX8_gasping_24 : decode cX8_gasping 24 = .ok (.if_icmp .ge 86, 3) := by decide +kernel
theorem dX8_gasping_27 : decode cX8_gasping 27 = .ok (.aload_n 0, 1) := by decide +kernel
theorem dX8_gasping_28 : decode cX8_gasping 28 = .ok (.getfield 19, 3) := by decide +kernel
theorem dX8_gasping_31 : decode cX8_gasping 31 = .ok (.iload 4, 2) := by decide +kernel
theorem dX8_gasping_33 : decode cX8_gasping 33 = .ok (.iaload, 1) := by decide +kernel
theorem dX8_gasping_34 : decode cX8_gasping 34 = .ok (.iload_n 3, 1) := by decide +kernel
theorem dX8_gasping_35 : decode cX8_gasping 35 = .ok (.if_icmp .ne 69, 3) := by decide +kernel
theorem dX8_gasping_38 : decode cX8_gasping 38 = .ok (.aload_n 0, 1) := by decide +kernel
theorem dX8_gasping_39 : decode cX8_gasping 39 = .ok (.getfield 16, 3) := by decide +kernel
theorem dX8_gasping_42 : decode cX8_gasping 42 = .ok (.iconst 2, 1) := by decide +kernel
theorem dX8_gasping_43 : decode cX8_gasping 43 = .ok (.iload 4, 2) := by decide +kernel
theorem dX8_gasping_45 : decode cX8_gasping 45 = .ok (.imul, 1) := by decide +kernel
theorem dX8_gasping_46 : decode cX8_gasping 46 = .ok (.iaload, 1) := by decide +kernel
theorem dX8_gasping_47 : decode cX8_gasping 47 = .ok (.invokestatic 143, 3) := by decide +kernel
theorem dX8_gasping_50 : decode cX8_gasping 50 = .ok (.istore 5, 2) := by decide +kernel
theorem dX8_gasping_52 : decode cX8_gasping 52 = .ok (.aload_n 0, 1) := by decide +kernel
theorem dX8_gasping_53 : decode cX8_gasping 53 = .ok (.iload 4, 2) := by decide +kernel
theorem dX8_gasping_55 : decode cX8_gasping 55 = .ok (.invokevirtual 146, 3) := by decide +kernel
theorem dX8_gasping_58 : decode cX8_gasping 58 = .ok (.ifCond .ne 9, 3) := by decide +kernel
theorem dX8_gasping_61 : decode cX8_gasping 61 = .ok (.iload 5, 2) := by decide +kernel
theorem dX8_gasping_63 : decode cX8_gasping 63 = .ok (.iload_n 1, 1) := by decide +kernel
theorem dX8_gasping_64 : decode cX8_gasping 64 = .ok (.if_icmp .le 7, 3) := by decide +kernel
theorem dX8_gasping_67 : decode cX8_gasping 67 = .ok (.iconst 1, 1) := by decide +kernel
theorem dX8_gasping_68 : decode cX8_gasping 68 = .ok (.goto 4, 3) := by decide +kernel
theorem dX8_gasping_71 : decode cX8_gasping 71 = .ok (.iconst 0, 1) := by decide +kernel
theorem dX8_gasping_72 : decode cX8_gasping 72 = .ok (.istore 6, 2) := by decide +kernel
theorem dX8_gasping_74 : decode cX8_gasping 74 = .ok (.iload_n 1, 1) := by decide +kernel
theorem dX8_gasping_75 : decode cX8_gasping 75 = .ok (.iload 6, 2) := by decide +kernel
theorem dX8_gasping_77 : decode cX8_gasping 77 = .ok (.ifCond .eq 7, 3) := by decide +kernel
theorem dX8_gasping_80 : decode cX8_gasping 80 = .ok (.iconst 0, 1) := by decide +kernel
theorem dX8_gasping_81 : decode cX8_gasping 81 = .ok (.goto 5, 3) := by decide +kernel
theorem dX8_gasping_84 : decode cX8_gasping 84 = .ok (.iload 5, 2) := by decide +kernel
theorem dX8_gasping_86 : decode cX8_gasping 86 = .ok (.isub, 1) := by decide +kernel
theorem dX8_gasping_87 : decode cX8_gasping 87 = .ok (.istore_n 1, 1) := by decide +kernel
theorem dX8_gasping_88 : decode cX8_gasping 88 = .ok (.iload_n 2, 1) := by decide +kernel
theorem dX8_gasping_89 : decode cX8_gasping 89 = .ok (.iload 6, 2) := by decide +kernel
theorem dX8_gasping_91 : decode cX8_gasping 91 = .ok (.ifCond .eq 10, 3) := by decide +kernel
theorem dX8_gasping_94 : decode cX8_gasping 94 = .ok (.iconst 1, 1) := by decide +kernel
theorem dX8_gasping_95 : decode cX8_gasping 95 = .ok (.iload 4, 2) := by decide +kernel
theorem dX8_gasping_97 : decode cX8_gasping 97 = .ok (.ishl, 1) := by decide +kernel
theorem dX8_gasping_98 : decode cX8_gasping 98 = .ok (.goto 4, 3) := by decide +kernel
theorem dX8_gasping_101 : decode cX8_gasping 101 = .ok (.iconst 0, 1) := by decide +kernel
theorem dX8_gasping_102 : decode cX8_gasping 102 = .ok (.ior, 1) := by decide +kernel
theorem dX8_gasping_103 : decode cX8_gasping 103 = .ok (.istore_n 2, 1) := by decide +kernel
theorem dX8_gasping_104 : decode cX8_gasping 104 = .ok (.iinc 4 1, 3) := by decide +kernel
theorem dX8_gasping_107 : decode cX8_gasping 107 = .ok (.goto (-89), 3) := by decide +kernel
theorem dX8_gasping_110 : decode cX8_gasping 110 = .ok (.iinc 3 1, 3) := by decide +kernel
theorem dX8_gasping_113 : decode cX8_gasping 113 = .ok (.goto (-104), 3) := by decide +kernel
theorem dX8_gasping_116 : decode cX8_gasping 116 = .ok (.iload_n 2, 1) := by decide +kernel
theorem dX8_gasping_117 : decode cX8_gasping 117 = .ok (.ireturn, 1) := by decide +kernel
theorem dX8_tell_0 : decode cX8_tell 0 = .ok (.aload_n 0, 1) := by decide +kernel
theorem dX8_tell_1 : decode cX8_tell 1 = .ok (.invokevirtual 121, 3) := by decide +kernel
theorem dX8_tell_4 : decode cX8_tell 4 = .ok (.iload_n 2, 1) := by decide +kernel
theorem dX8_tell_5 : decode cX8_tell 5 = .ok (.tableswitch 97 0 5 #[39, 39, 50, 62, 74, 88], 39) := by decide +kernel
theorem dX8_tell_44 : decode cX8_tell 44 = .ok (.aload_n 0, 1) := by decide +kernel
theorem dX8_tell_45 : decode cX8_tell 45 = .ok (.getfield 16, 3) := by decide +kernel
theorem dX8_tell_48 : decode cX8_tell 48 = .ok (.iconst 2, 1) := by decide +kernel
theorem dX8_tell_49 : decode cX8_tell 49 = .ok (.iload_n 1, 1) := by decide +kernel
theorem dX8_tell_50 : decode cX8_tell 50 = .ok (.imul, 1) := by decide +kernel
theorem dX8_tell_51 : decode cX8_tell 51 = .ok (.iload_n 2, 1) := by decide +kernel
theorem dX8_tell_52 : decode cX8_tell 52 = .ok (.iadd, 1) := by decide +kernel
theorem dX8_tell_53 : decode cX8_tell 53 = .ok (.iaload, 1) := by decide +kernel
theorem dX8_tell_54 : decode cX8_tell 54 = .ok (.ireturn, 1) := by decide +kernel
theorem dX8_tell_55 : decode cX8_tell 55 = .ok (.aload_n 0, 1) := by decide +kernel
theorem dX8_tell_56 : decode cX8_tell 56 = .ok (.getfield 16, 3) := by decide +kernel
theorem dX8_tell_59 : decode cX8_tell 59 = .ok (.iconst 2, 1) := by decide +kernel
theorem dX8_tell_60 : decode cX8_tell 60 = .ok (.iload_n 1, 1) := by decide +kernel
theorem dX8_tell_61 : decode cX8_tell 61 = .ok (.imul, 1) := by decide +kernel
theorem dX8_tell_62 : decode cX8_tell 62 = .ok (.iaload, 1) := by decide +kernel
theorem dX8_tell_63 : decode cX8_tell 63 = .ok (.invokestatic 106, 3) := by decide +kernel
theorem dX8_tell_66 : decode cX8_tell 66 = .ok (.ireturn, 1) := by decide +kernel
theorem dX8_tell_67 : decode cX8_tell 67 = .ok (.aload_n 0, 1) := by decide +kernel
theorem dX8_tell_68 : decode cX8_tell 68 = .ok (.getfield 16, 3) := by decide +kernel
theorem dX8_tell_71 : decode cX8_tell 71 = .ok (.iconst 2, 1) := by decide +kernel
theorem dX8_tell_72 : decode cX8_tell 72 = .ok (.iload_n 1, 1) := by decide +kernel
theorem dX8_tell_73 : decode cX8_tell 73 = .ok (.imul, 1) := by decide +kernel
theorem dX8_tell_74 : decode cX8_tell 74 = .ok (.iaload, 1) := by decide +kernel
theorem dX8_tell_75 : decode cX8_tell 75 = .ok (.invokestatic 143, 3) := by decide +kernel
theorem dX8_tell_78 : decode cX8_tell 78 = .ok (.ireturn, 1) := by decide +kernel
theorem dX8_tell_79 : decode cX8_tell 79 = .ok (.aload_n 0, 1) := by decide +kernel
theorem dX8_tell_80 : decode cX8_tell 80 = .ok (.iload_n 1, 1) := by decide +kernel
theorem dX8_tell_81 : decode cX8_tell 81 = .ok (.invokevirtual 146, 3) := by decide +kernel
theorem dX8_tell_84 : decode cX8_tell 84 = .ok (.ifCond .eq 7, 3) := by decide +kernel
theorem dX8_tell_87 : decode cX8_tell 87 = .ok (.iconst 1, 1) := by decide +kernel
theorem dX8_tell_88 : decode cX8_tell 88 = .ok (.goto 4, 3) := by decide +kernel
theorem dX8_tell_91 : decode cX8_tell 91 = .ok (.iconst 0, 1) := by decide +kernel
theorem dX8_tell_92 : decode cX8_tell 92 = .ok (.ireturn, 1) := by decide +kernel
theorem dX8_tell_93 : decode cX8_tell 93 = .ok (.aload_n 0, 1) := by decide +kernel
theorem dX8_tell_94 : decode cX8_tell 94 = .ok (.invokevirtual 149, 3) := by decide +kernel
theorem dX8_tell_97 : decode cX8_tell 97 = .ok (.iload_n 1, 1) := by decide +kernel
theorem dX8_tell_98 : decode cX8_tell 98 = .ok (.ishr, 1) := by decide +kernel
theorem dX8_tell_99 : decode cX8_tell 99 = .ok (.iconst 1, 1) := by decide +kernel
theorem dX8_tell_100 : decode cX8_tell 100 = .ok (.iand, 1) := by decide +kernel
theorem dX8_tell_101 : decode cX8_tell 101 = .ok (.ireturn, 1) := by decide +kernel
theorem dX8_tell_102 : decode cX8_tell 102 = .ok (.bipush (-102), 2) := by decide +kernel
theorem dX8_tell_104 : decode cX8_tell 104 = .ok (.ireturn, 1) := by decide +kernel
theorem dX8_about_0 : decode cX8_about 0 = .ok (.aload_n 0, 1) := by decide +kernel
theorem dX8_about_1 : decode cX8_about 1 = .ok (.iload_n 1, 1) := by decide +kernel
theorem dX8_about_2 : decode cX8_about 2 = .ok (.invokevirtual 152, 3) := by decide +kernel
theorem dX8_about_5 : decode cX8_about 5 = .ok (.ifCond .eq 12, 3) := by decide +kernel
theorem dX8_about_8 : decode cX8_about 8 = .ok (.aload_n 0, 1) := by decide +kernel
theorem dX8_about_9 : decode cX8_about 9 = .ok (.iload_n 1, 1) := by decide +kernel
theorem dX8_about_10 : decode cX8_about 10 = .ok (.iload_n 2, 1) := by decide +kernel
theorem dX8_about_11 : decode cX8_about 11 = .ok (.invokevirtual 155, 3) := by decide +kernel
theorem dX8_about_14 : decode cX8_about 14 = .ok (.goto 5, 3) := by decide +kernel
theorem dX8_about_17 : decode cX8_about 17 = .ok (.bipush (-101), 2) := by decide +kernel
theorem dX8_about_19 : decode cX8_about 19 = .ok (.ireturn, 1) := by decide +kernel
theorem dX8_as_0 : decode cX8_as 0 = .ok (.aload_n 0, 1) := by decide +kernel
theorem dX8_as_1 : decode cX8_as 1 = .ok (.iload_n 1, 1) := by decide +kernel
theorem dX8_as_2 : decode cX8_as 2 = .ok (.invokevirtual 152, 3) := by decide +kernel
theorem dX8_as_5 : decode cX8_as 5 = .ok (.ifCond .ne 6, 3) := by decide +kernel
theorem dX8_as_8 : decode cX8_as 8 = .ok (.bipush (-101), 2) := by decide +kernel
theorem dX8_as_10 : decode cX8_as 10 = .ok (.ireturn, 1) := by decide +kernel
theorem dX8_as_11 : decode cX8_as 11 = .ok (.iload_n 2, 1) := by decide +kernel
theorem dX8_as_12 : decode cX8_as 12 = .ok (.i2l, 1) := by decide +kernel
theorem dX8_as_13 : decode cX8_as 13 = .ok (.lconst 0, 1) := by decide +kernel
theorem dX8_as_14 : decode cX8_as 14 = .ok (.ldc2_w 141, 3) := by decide +kernel
theorem dX8_as_17 : decode cX8_as 17 = .ok (.invokestatic 52, 3) := by decide +kernel
theorem dX8_as_20 : decode cX8_as 20 = .ok (.ifCond .ne 6, 3) := by decide +kernel
theorem dX8_as_23 : decode cX8_as 23 = .ok (.bipush (-102), 2) := by decide +kernel
theorem dX8_as_25 : decode cX8_as 25 = .ok (.ireturn, 1) := by decide +kernel
theorem dX8_as_26 : decode cX8_as 26 = .ok (.aload_n 0, 1) := by decide +kernel
theorem dX8_as_27 : decode cX8_as 27 = .ok (.getfield 16, 3) := by decide +kernel
theorem dX8_as_30 : decode cX8_as 30 = .ok (.iconst 2, 1) := by decide +kernel
theorem dX8_as_31 : decode cX8_as 31 = .ok (.iload_n 1, 1) := by decide +kernel
theorem dX8_as_32 : decode cX8_as 32 = .ok (.imul, 1) := by decide +kernel
theorem dX8_as_33 : decode cX8_as 33 = .ok (.iaload, 1) := by decide +kernel
theorem dX8_as_34 : decode cX8_as 34 = .ok (.istore_n 3, 1) := by decide +kernel
theorem dX8_as_35 : decode cX8_as 35 = .ok (.iload_n 2, 1) := by decide +kernel
theorem dX8_as_36 : decode cX8_as 36 = .ok (.ifCond .eq 18, 3) := by decide +kernel
theorem dX8_as_39 : decode cX8_as 39 = .ok (.iload_n 2, 1) := by decide +kernel
theorem dX8_as_40 : decode cX8_as 40 = .ok (.iload_n 3, 1) := by decide +kernel
theorem dX8_as_41 : decode cX8_as 41 = .ok (.if_icmp .eq 13, 3) := by decide +kernel
theorem dX8_as_44 : decode cX8_as 44 = .ok (.iload_n 2, 1) := by decide +kernel
theorem dX8_as_45 : decode cX8_as 45 = .ok (.iconst 1, 1) := by decide +kernel
theorem dX8_as_46 : decode cX8_as 46 = .ok (.if_icmp .ne 12, 3) := by decide +kernel
theorem dX8_as_49 : decode cX8_as 49 = .ok (.iload_n 3, 1) := by decide +kernel
theorem dX8_as_50 : decode cX8_as 50 = .ok (.iconst 4, 1) := by decide +kernel
theorem dX8_as_51 : decode cX8_as 51 = .ok (.if_icmp .ne 7, 3) := by decide +kernel
theorem dX8_as_54 : decode cX8_as 54 = .ok (.iconst 1, 1) := by decide +kernel
theorem dX8_as_55 : decode cX8_as 55 = .ok (.goto 4, 3) := by decide +kernel
theorem dX8_as_58 : decode cX8_as 58 = .ok (.iconst 0, 1) := by decide +kernel
theorem dX8_as_59 : decode cX8_as 59 = .ok (.istore 4, 2) := by decide +kernel
theorem dX8_as_61 : decode cX8_as 61 = .ok (.iload 4, 2) := by decide +kernel
theorem dX8_as_63 : decode cX8_as 63 = .ok (.ifCond .eq 7, 3) := by decide +kernel
theorem dX8_as_66 : decode cX8_as 66 = .ok (.iload_n 1, 1) := by decide +kernel
theorem dX8_as_67 : decode cX8_as 67 = .ok (.goto 4, 3) := by decide +kernel
theorem dX8_as_70 : decode cX8_as 70 = .ok (.iconst (-1), 1) := by decide +kernel
theorem dX8_as_71 : decode cX8_as 71 = .ok (.ireturn, 1) := by decide +kernel
theorem dX8_move_0 : decode cX8_move 0 = .ok (.aload_n 0, 1) := by decide +kernel
theorem dX8_move_1 : decode cX8_move 1 = .ok (.iload_n 1, 1) := by decide +kernel
theorem dX8_move_2 : decode cX8_move 2 = .ok (.invokevirtual 152, 3) := by decide +kernel
theorem dX8_move_5 : decode cX8_move 5 = .ok (.ifCond .eq 11, 3) := by decide +kernel
theorem dX8_move_8 : decode cX8_move 8 = .ok (.aload_n 0, 1) := by decide +kernel
theorem dX8_move_9 : decode cX8_move 9 = .ok (.iload_n 2, 1) := by decide +kernel
theorem dX8_move_10 : decode cX8_move 10 = .ok (.invokevirtual 133, 3) := by decide +kernel
theorem dX8_move_13 : decode cX8_move 13 = .ok (.ifCond .ne 6, 3) := by decide +kernel
theorem dX8_move_16 : decode cX8_move 16 = .ok (.bipush (-101), 2) := by decide +kernel
theorem dX8_move_18 : decode cX8_move 18 = .ok (.ireturn, 1) := by decide +kernel
theorem dX8_move_19 : decode cX8_move 19 = .ok (.aload_n 0, 1) := by decide +kernel
theorem dX8_move_20 : decode cX8_move 20 = .ok (.invokevirtual 121, 3) := by decide +kernel
theorem dX8_move_23 : decode cX8_move 23 = .ok (.aload_n 0, 1) := by decide +kernel
theorem dX8_move_24 : decode cX8_move 24 = .ok (.getfield 13, 3) := by decide +kernel
theorem dX8_move_27 : decode cX8_move 27 = .ok (.iload_n 2, 1) := by decide +kernel
theorem dX8_move_28 : decode cX8_move 28 = .ok (.iaload, 1) := by decide +kernel
theorem dX8_move_29 : decode cX8_move 29 = .ok (.ifCond .eq 11, 3) := by decide +kernel
theorem dX8_move_32 : decode cX8_move 32 = .ok (.aload_n 0, 1) := by decide +kernel
theorem dX8_move_33 : decode cX8_move 33 = .ok (.iload_n 1, 1) := by decide +kernel
theorem dX8_move_34 : decode cX8_move 34 = .ok (.invokevirtual 146, 3) := by decide +kernel
theorem dX8_move_37 : decode cX8_move 37 = .ok (.ifCond .eq 6, 3) := by decide +kernel
theorem dX8_move_40 : decode cX8_move 40 = .ok (.bipush (-103), 2) := by decide +kernel
theorem dX8_move_42 : decode cX8_move 42 = .ok (.ireturn, 1) := by decide +kernel
theorem dX8_move_43 : decode cX8_move 43 = .ok (.aload_n 0, 1) := by decide +kernel
theorem dX8_move_44 : decode cX8_move 44 = .ok (.getfield 16, 3) := by decide +kernel
theorem dX8_move_47 : decode cX8_move 47 = .ok (.iconst 2, 1) := by decide +kernel
theorem dX8_move_48 : decode cX8_move 48 = .ok (.iload_n 1, 1) := by decide +kernel
theorem dX8_move_49 : decode cX8_move 49 = .ok (.imul, 1) := by decide +kernel
theorem dX8_move_50 : decode cX8_move 50 = .ok (.iconst 1, 1) := by decide +kernel
theorem dX8_move_51 : decode cX8_move 51 = .ok (.iadd, 1) := by decide +kernel
theorem dX8_move_52 : decode cX8_move 52 = .ok (.iload_n 2, 1) := by decide +kernel
theorem dX8_move_53 : decode cX8_move 53 = .ok (.iastore, 1) := by decide +kernel
theorem dX8_move_54 : decode cX8_move 54 = .ok (.aload_n 0, 1) := by decide +kernel
theorem dX8_move_55 : decode cX8_move 55 = .ok (.getfield 19, 3) := by decide +kernel
theorem dX8_move_58 : decode cX8_move 58 = .ok (.iload_n 1, 1) := by decide +kernel
theorem dX8_move_59 : decode cX8_move 59 = .ok (.iaload, 1) := by decide +kernel
theorem dX8_move_60 : decode cX8_move 60 = .ok (.ireturn, 1) := by decide +kernel
theorem dX8_day_0 : decode cX8_day 0 = .ok (.aload_n 0, 1) := by decide +kernel
theorem dX8_day_1 : decode cX8_day 1 = .ok (.invokevirtual 96, 3) := by decide +kernel
theorem dX8_day_4 : decode cX8_day 4 = .ok (.ifCond .eq 6, 3) := by decide +kernel
theorem dX8_day_7 : decode cX8_day 7 = .ok (.bipush (-103), 2) := by decide +kernel
theorem dX8_day_9 : decode cX8_day 9 = .ok (.ireturn, 1) := by decide +kernel
theorem dX8_day_10 : decode cX8_day 10 = .ok (.aload_n 0, 1) := by decide +kernel
theorem dX8_day_11 : decode cX8_day 11 = .ok (.invokevirtual 121, 3) := by decide +kernel
theorem dX8_day_14 : decode cX8_day 14 = .ok (.aload_n 0, 1) := by decide +kernel
theorem dX8_day_15 : decode cX8_day 15 = .ok (.invokevirtual 158, 3) := by decide +kernel
theorem dX8_day_18 : decode cX8_day 18 = .ok (.istore_n 1, 1) := by decide +kernel
theorem dX8_day_19 : decode cX8_day 19 = .ok (.aload_n 0, 1) := by decide +kernel
theorem dX8_day_20 : decode cX8_day 20 = .ok (.getfield 22, 3) := by decide +kernel
theorem dX8_day_23 : decode cX8_day 23 = .ok (.aload_n 0, 1) := by decide +kernel
theorem dX8_day_24 : decode cX8_day 24 = .ok (.getfield 13, 3) := by decide +kernel
theorem dX8_day_27 : decode cX8_day 27 = .ok (.invokestatic 102, 3) := by decide +kernel
theorem dX8_day_30 : decode cX8_day 30 = .ok (.aload_n 0, 1) := by decide +kernel
theorem dX8_day_31 : decode cX8_day 31 = .ok (.dup, 1) := by decide +kernel
theorem dX8_day_32 : decode cX8_day 32 = .ok (.getfield 75, 3) := by decide +kernel
theorem dX8_day_35 : decode cX8_day 35 = .ok (.iconst 1, 1) := by decide +kernel
theorem dX8_day_36 : decode cX8_day 36 = .ok (.iadd, 1) := by decide +kernel
theorem dX8_day_37 : decode cX8_day 37 = .ok (.putfield 75, 3) := by decide +kernel
theorem dX8_day_40 : decode cX8_day 40 = .ok (.aload_n 0, 1) := by decide +kernel
theorem dX8_day_41 : decode cX8_day 41 = .ok (.dup, 1) := by decide +kernel
theorem dX8_day_42 : decode cX8_day 42 = .ok (.getfield 78, 3) := by decide +kernel
theorem dX8_day_45 : decode cX8_day 45 = .ok (.iload_n 1, 1) := by decide +kernel
theorem dX8_day_46 : decode cX8_day 46 = .ok (.iadd, 1) := by decide +kernel
theorem dX8_day_47 : decode cX8_day 47 = .ok (.putfield 78, 3) := by decide +kernel
theorem dX8_day_50 : decode cX8_day 50 = .ok (.iload_n 1, 1) := by decide +kernel
theorem dX8_day_51 : decode cX8_day 51 = .ok (.ireturn, 1) := by decide +kernel
theorem dX8_holdsThen_0 : decode cX8_holdsThen 0 = .ok (.iconst 1, 1) := by decide +kernel
theorem dX8_holdsThen_1 : decode cX8_holdsThen 1 = .ok (.istore_n 1, 1) := by decide +kernel
theorem dX8_holdsThen_2 : decode cX8_holdsThen 2 = .ok (.iload_n 1, 1) := by decide +kernel
theorem dX8_holdsThen_3 : decode cX8_holdsThen 3 = .ok (.bipush 41, 2) := by decide +kernel
theorem dX8_holdsThen_5 : decode cX8_holdsThen 5 = .ok (.if_icmp .ge 16, 3) := by decide +kernel
theorem dX8_holdsThen_8 : decode cX8_holdsThen 8 = .ok (.aload_n 0, 1) := by decide +kernel
theorem dX8_holdsThen_9 : decode cX8_holdsThen 9 = .ok (.invokevirtual 158, 3) := by decide +kernel
theorem dX8_holdsThen_12 : decode cX8_holdsThen 12 = .ok (.ifCond .ne 9, 3) := by decide +kernel
theorem dX8_holdsThen_15 : decode cX8_holdsThen 15 = .ok (.iinc 1 1, 3) := by decide +kernel
theorem dX8_holdsThen_18 : decode cX8_holdsThen 18 = .ok (.goto (-16), 3) := by decide +kernel
theorem dX8_holdsThen_21 : decode cX8_holdsThen 21 = .ok (.iload_n 1, 1) := by decide +kernel
theorem dX8_holdsThen_22 : decode cX8_holdsThen 22 = .ok (.ireturn, 1) := by decide +kernel
theorem dX8_holdsOf_0 : decode cX8_holdsOf 0 = .ok (.aload_n 0, 1) := by decide +kernel
theorem dX8_holdsOf_1 : decode cX8_holdsOf 1 = .ok (.invokevirtual 121, 3) := by decide +kernel
theorem dX8_holdsOf_4 : decode cX8_holdsOf 4 = .ok (.aload_n 0, 1) := by decide +kernel
theorem dX8_holdsOf_5 : decode cX8_holdsOf 5 = .ok (.invokevirtual 161, 3) := by decide +kernel
theorem dX8_holdsOf_8 : decode cX8_holdsOf 8 = .ok (.istore_n 1, 1) := by decide +kernel
theorem dX8_holdsOf_9 : decode cX8_holdsOf 9 = .ok (.iload_n 1, 1) := by decide +kernel
theorem dX8_holdsOf_10 : decode cX8_holdsOf 10 = .ok (.bipush 41, 2) := by decide +kernel
theorem dX8_holdsOf_12 : decode cX8_holdsOf 12 = .ok (.if_icmp .ne 7, 3) := by decide +kernel
theorem dX8_holdsOf_15 : decode cX8_holdsOf 15 = .ok (.iconst (-1), 1) := by decide +kernel
theorem dX8_holdsOf_16 : decode cX8_holdsOf 16 = .ok (.goto 4, 3) := by decide +kernel
theorem dX8_holdsOf_19 : decode cX8_holdsOf 19 = .ok (.iload_n 1, 1) := by decide +kernel
theorem dX8_holdsOf_20 : decode cX8_holdsOf 20 = .ok (.ireturn, 1) := by decide +kernel
theorem dX8_holds_0 : decode cX8_holds 0 = .ok (.aload_n 0, 1) := by decide +kernel
theorem dX8_holds_1 : decode cX8_holds 1 = .ok (.invokevirtual 96, 3) := by decide +kernel
theorem dX8_holds_4 : decode cX8_holds 4 = .ok (.ifCond .eq 8, 3) := by decide +kernel
theorem dX8_holds_7 : decode cX8_holds 7 = .ok (.bipush (-103), 2) := by decide +kernel
theorem dX8_holds_9 : decode cX8_holds 9 = .ok (.goto 7, 3) := by decide +kernel
theorem dX8_holds_12 : decode cX8_holds 12 = .ok (.aload_n 0, 1) := by decide +kernel
theorem dX8_holds_13 : decode cX8_holds 13 = .ok (.invokevirtual 164, 3) := by decide +kernel
theorem dX8_holds_16 : decode cX8_holds 16 = .ok (.ireturn, 1) := by decide +kernel
theorem dX8_layWhere_0 : decode cX8_layWhere 0 = .ok (.iconst 1, 1) := by decide +kernel
theorem dX8_layWhere_1 : decode cX8_layWhere 1 = .ok (.istore_n 1, 1) := by decide +kernel
theorem dX8_layWhere_2 : decode cX8_layWhere 2 = .ok (.iconst 0, 1) := by decide +kernel
theorem dX8_layWhere_3 : decode cX8_layWhere 3 = .ok (.istore_n 2, 1) := by decide +kernel
theorem dX8_layWhere_4 : decode cX8_layWhere 4 = .ok (.iload_n 2, 1) := by decide +kernel
theorem dX8_layWhere_5 : decode cX8_layWhere 5 = .ok (.aload_n 0, 1) := by decide +kernel
theorem dX8_layWhere_6 : decode cX8_layWhere 6 = .ok (.getfield 84, 3) := by decide +kernel
theorem dX8_layWhere_9 : decode cX8_layWhere 9 = .ok (.if_icmp .ge 14, 3) := by decide +kernel
theorem dX8_layWhere_12 : decode cX8_layWhere 12 = .ok (.iload_n 1, 1) := by decide +kernel
theorem dX8_layWhere_13 : decode cX8_layWhere 13 = .ok (.bipush 6, 2) := by decide +kernel
theorem dX8_layWhere_15 : decode cX8_layWhere 15 = .ok (.imul, 1) := by decide +kernel
theorem dX8_layWhere_16 : decode cX8_layWhere 16 = .ok (.istore_n 1, 1) := by decide +kernel
theorem dX8_layWhere_17 : decode cX8_layWhere 17 = .ok (.iinc 2 1, 3) := by decide +kernel
theorem dX8_layWhere_20 : decode cX8_layWhere 20 = .ok (.goto (-16), 3) := by decide +kernel
theorem dX8_layWhere_23 : decode cX8_layWhere 23 = .ok (.iconst (-1), 1) := by decide +kernel
theorem dX8_layWhere_24 : decode cX8_layWhere 24 = .ok (.istore_n 2, 1) := by decide +kernel
theorem dX8_layWhere_25 : decode cX8_layWhere 25 = .ok (.iconst 0, 1) := by decide +kernel
theorem dX8_layWhere_26 : decode cX8_layWhere 26 = .ok (.istore_n 3, 1) := by decide +kernel
theorem dX8_layWhere_27 : decode cX8_layWhere 27 = .ok (.iload_n 3, 1) := by decide +kernel
theorem dX8_layWhere_28 : decode cX8_layWhere 28 = .ok (.iload_n 1, 1) := by decide +kernel
theorem dX8_layWhere_29 : decode cX8_layWhere 29 = .ok (.if_icmp .ge 150, 3) := by decide +kernel
theorem dX8_layWhere_32 : decode cX8_layWhere 32 = .ok (.aload_n 0, 1) := by decide +kernel
theorem dX8_layWhere_33 : decode cX8_layWhere 33 = .ok (.invokevirtual 121, 3) := by decide +kernel
theorem dX8_layWhere_36 : decode cX8_layWhere 36 = .ok (.iload_n 3, 1) := by decide +kernel
theorem dX8_layWhere_37 : decode cX8_layWhere 37 = .ok (.istore 4, 2) := by decide +kernel
theorem dX8_layWhere_39 : decode cX8_layWhere 39 = .ok (.iconst 1, 1) := by decide +kernel
theorem dX8_layWhere_40 : decode cX8_layWhere 40 = .ok (.istore 5, 2) := by decide +kernel
theorem dX8_layWhere_42 : decode cX8_layWhere 42 = .ok (.aload_n 0, 1) := by decide +kernel
theorem dX8_layWhere_43 : decode cX8_layWhere 43 = .ok (.getfield 84, 3) := by decide +kernel
theorem dX8_layWhere_46 : decode cX8_layWhere 46 = .ok (.iconst 1, 1) := by decide +kernel
theorem dX8_layWhere_47 : decode cX8_layWhere 47 = .ok (.isub, 1) := by decide +kernel
theorem dX8_layWhere_48 : decode cX8_layWhere 48 = .ok (.istore 6, 2) := by decide +kernel
theorem dX8_layWhere_50 : decode cX8_layWhere 50 = .ok (.iload 6, 2) := by decide +kernel
theorem dX8_layWhere_52 : decode cX8_layWhere 52 = .ok (.ifCond .lt 55, 3) := by decide +kernel
theorem dX8_layWhere_55 : decode cX8_layWhere 55 = .ok (.aload_n 0, 1) := by decide +kernel
theorem dX8_layWhere_56 : decode cX8_layWhere 56 = .ok (.getfield 19, 3) := by decide +kernel
theorem dX8_layWhere_59 : decode cX8_layWhere 59 = .ok (.iload 6, 2) := by decide +kernel
theorem dX8_layWhere_61 : decode cX8_layWhere 61 = .ok (.iload 4, 2) := by decide +kernel
theorem dX8_layWhere_63 : decode cX8_layWhere 63 = .ok (.bipush 6, 2) := by decide +kernel
theorem dX8_layWhere_65 : decode cX8_layWhere 65 = .ok (.irem, 1) := by decide +kernel
theorem dX8_layWhere_66 : decode cX8_layWhere 66 = .ok (.iastore, 1) := by decide +kernel
theorem dX8_layWhere_67 : decode cX8_layWhere 67 = .ok (.iload 4, 2) := by decide +kernel
theorem dX8_layWhere_69 : decode cX8_layWhere 69 = .ok (.bipush 6, 2) := by decide +kernel
theorem dX8_layWhere_71 : decode cX8_layWhere 71 = .ok (.idiv, 1) := by decide +kernel
theorem dX8_layWhere_72 : decode cX8_layWhere 72 = .ok (.istore 4, 2) := by decide +kernel
theorem dX8_layWhere_74 : decode cX8_layWhere 74 = .ok (.iload 5, 2) := by decide +kernel
theorem dX8_layWhere_76 : decode cX8_layWhere 76 = .ok (.ifCond .eq 22, 3) := by decide +kernel
theorem dX8_layWhere_79 : decode cX8_layWhere 79 = .ok (.aload_n 0, 1) := by decide +kernel
theorem dX8_layWhere_80 : decode cX8_layWhere 80 = .ok (.getfield 13, 3) := by decide +kernel
theorem dX8_layWhere_83 : decode cX8_layWhere 83 = .ok (.aload_n 0, 1) := by decide +kernel
theorem dX8_layWhere_84 : decode cX8_layWhere 84 = .ok (.getfield 19, 3) := by decide +kernel
theorem dX8_layWhere_87 : decode cX8_layWhere 87 = .ok (.iload 6, 2) := by decide +kernel
theorem dX8_layWhere_89 : decode cX8_layWhere 89 = .ok (.iaload, 1) := by decide +kernel
theorem dX8_layWhere_90 : decode cX8_layWhere 90 = .ok (.iaload, 1) := by decide +kernel
theorem dX8_layWhere_91 : decode cX8_layWhere 91 = .ok (.ifCond .le 7, 3) := by decide +kernel
theorem dX8_layWhere_94 : decode cX8_layWhere 94 = .ok (.iconst 1, 1) := by decide +kernel
theorem dX8_layWhere_95 : decode cX8_layWhere 95 = .ok (.goto 4, 3) := by decide +kernel
theorem dX8_layWhere_98 : decode cX8_layWhere 98 = .ok (.iconst 0, 1) := by decide +kernel
theorem dX8_layWhere_99 : decode cX8_layWhere 99 = .ok (.istore 5, 2) := by decide +kernel
theorem dX8_layWhere_101 : decode cX8_layWhere 101 = .ok (.iinc 6 (-1), 3) := by decide +kernel
theorem dX8_layWhere_104 : decode cX8_layWhere 104 = .ok (.goto (-54), 3) := by decide +kernel
theorem dX8_layWhere_107 : decode cX8_layWhere 107 = .ok (.iload 5, 2) := by decide +kernel
theorem dX8_layWhere_109 : decode cX8_layWhere 109 = .ok (.ifCond .eq 10, 3) := by decide +kernel
theorem dX8_layWhere_112 : decode cX8_layWhere 112 = .ok (.aload_n 0, 1) := by decide +kernel
theorem dX8_layWhere_113 : decode cX8_layWhere 113 = .ok (.invokevirtual 161, 3) := by decide +kernel
theorem dX8_layWhere_116 : decode cX8_layWhere 116 = .ok (.goto 4, 3) := by decide +kernel
theorem dX8_layWhere_119 : decode cX8_layWhere 119 = .ok (.iconst (-1), 1) := by decide +kernel
theorem dX8_layWhere_120 : decode cX8_layWhere 120 = .ok (.istore 6, 2) := by decide +kernel
theorem dX8_layWhere_122 : decode cX8_layWhere 122 = .ok (.iload 6, 2) := by decide +kernel
theorem dX8_layWhere_124 : decode cX8_layWhere 124 = .ok (.iload_n 2, 1) := by decide +kernel
theorem dX8_layWhere_125 : decode cX8_layWhere 125 = .ok (.if_icmp .le 48, 3) := by decide +kernel
theorem dX8_layWhere_128 : decode cX8_layWhere 128 = .ok (.iload 6, 2) := by decide +kernel
theorem dX8_layWhere_130 : decode cX8_layWhere 130 = .ok (.istore_n 2, 1) := by decide +kernel
theorem dX8_layWhere_131 : decode cX8_layWhere 131 = .ok (.iconst 0, 1) := by decide +kernel
theorem dX8_layWhere_132 : decode cX8_layWhere 132 = .ok (.istore 7, 2) := by decide +kernel
theorem dX8_layWhere_134 : decode cX8_layWhere 134 = .ok (.iload 7, 2) := by decide +kernel
theorem dX8_layWhere_136 : decode cX8_layWhere 136 = .ok (.aload_n 0, 1) := by decide +kernel
theorem dX8_layWhere_137 : decode cX8_layWhere 137 = .ok (.getfield 84, 3) := by decide +kernel
theorem dX8_layWhere_140 : decode cX8_layWhere 140 = .ok (.if_icmp .ge 33, 3) := by decide +kernel
theorem dX8_layWhere_143 : decode cX8_layWhere 143 = .ok (.aload_n 0, 1) := by decide +kernel
theorem dX8_layWhere_144 : decode cX8_layWhere 144 = .ok (.getfield 28, 3) := by decide +kernel
theorem dX8_layWhere_147 : decode cX8_layWhere 147 = .ok (.iload 7, 2) := by decide +kernel
theorem dX8_layWhere_149 : decode cX8_layWhere 149 = .ok (.iload_n 3, 1) := by decide +kernel
theorem dX8_layWhere_150 : decode cX8_layWhere 150 = .ok (.aload_n 0, 1) := by decide +kernel
theorem dX8_layWhere_151 : decode cX8_layWhere 151 = .ok (.getfield 84, 3) := by decide +kernel
theorem dX8_layWhere_154 : decode cX8_layWhere 154 = .ok (.iconst 1, 1) := by decide +kernel
theorem dX8_layWhere_155 : decode cX8_layWhere 155 = .ok (.isub, 1) := by decide +kernel
theorem dX8_layWhere_156 : decode cX8_layWhere 156 = .ok (.iload 7, 2) := by decide +kernel
theorem dX8_layWhere_158 : decode cX8_layWhere 158 = .ok (.isub, 1) := by decide +kernel
theorem dX8_layWhere_159 : decode cX8_layWhere 159 = .ok (.invokestatic 167, 3) := by decide +kernel
theorem dX8_layWhere_162 : decode cX8_layWhere 162 = .ok (.idiv, 1) := by decide +kernel
theorem dX8_layWhere_163 : decode cX8_layWhere 163 = .ok (.bipush 6, 2) := by decide +kernel
theorem dX8_layWhere_165 : decode cX8_layWhere 165 = .ok (.irem, 1) := by decide +kernel
theorem dX8_layWhere_166 : decode cX8_layWhere 166 = .ok (.iastore, 1) := by decide +kernel
theorem dX8_layWhere_167 : decode cX8_layWhere 167 = .ok (.iinc 7 1, 3) := by decide +kernel
theorem dX8_layWhere_170 : decode cX8_layWhere 170 = .ok (.goto (-36), 3) := by decide +kernel
theorem dX8_layWhere_173 : decode cX8_layWhere 173 = .ok (.iinc 3 1, 3) := by decide +kernel
theorem dX8_layWhere_176 : decode cX8_layWhere 176 = .ok (.goto (-149), 3) := by decide +kernel
theorem dX8_layWhere_179 : decode cX8_layWhere 179 = .ok (.iload_n 2, 1) := by decide +kernel
theorem dX8_layWhere_180 : decode cX8_layWhere 180 = .ok (.ireturn, 1) := by decide +kernel
theorem dX8_power_0 : decode cX8_power 0 = .ok (.iconst 1, 1) := by decide +kernel
theorem dX8_power_1 : decode cX8_power 1 = .ok (.istore_n 1, 1) := by decide +kernel
theorem dX8_power_2 : decode cX8_power 2 = .ok (.iconst 0, 1) := by decide +kernel
theorem dX8_power_3 : decode cX8_power 3 = .ok (.istore_n 2, 1) := by decide +kernel
theorem dX8_power_4 : decode cX8_power 4 = .ok (.iload_n 2, 1) := by decide +kernel
theorem dX8_power_5 : decode cX8_power 5 = .ok (.iload_n 0, 1) := by decide +kernel
theorem dX8_power_6 : decode cX8_power 6 = .ok (.if_icmp .ge 14, 3) := by decide +kernel
theorem dX8_power_9 : decode cX8_power 9 = .ok (.iload_n 1, 1) := by decide +kernel
theorem dX8_power_10 : decode cX8_power 10 = .ok (.bipush 6, 2) := by decide +kernel
theorem dX8_power_12 : decode cX8_power 12 = .ok (.imul, 1) := by decide +kernel
theorem dX8_power_13 : decode cX8_power 13 = .ok (.istore_n 1, 1) := by decide +kernel
theorem dX8_power_14 : decode cX8_power 14 = .ok (.iinc 2 1, 3) := by decide +kernel
theorem dX8_power_17 : decode cX8_power 17 = .ok (.goto (-13), 3) := by decide +kernel
theorem dX8_power_20 : decode cX8_power 20 = .ok (.iload_n 1, 1) := by decide +kernel
theorem dX8_power_21 : decode cX8_power 21 = .ok (.ireturn, 1) := by decide +kernel
theorem dX8_where_0 : decode cX8_where 0 = .ok (.iload_n 1, 1) := by decide +kernel
theorem dX8_where_1 : decode cX8_where 1 = .ok (.ifCond .eq 20, 3) := by decide +kernel
theorem dX8_where_4 : decode cX8_where 4 = .ok (.iload_n 1, 1) := by decide +kernel
theorem dX8_where_5 : decode cX8_where 5 = .ok (.i2l, 1) := by decide +kernel
theorem dX8_where_6 : decode cX8_where 6 = .ok (.ldc2_w 170, 3) := by decide +kernel
theorem dX8_where_9 : decode cX8_where 9 = .ok (.ldc2_w 172, 3) := by decide +kernel
theorem dX8_where_12 : decode cX8_where 12 = .ok (.invokestatic 52, 3) := by decide +kernel
theorem dX8_where_15 : decode cX8_where 15 = .ok (.ifCond .ne 6, 3) := by decide +kernel
theorem dX8_where_18 : decode cX8_where 18 = .ok (.bipush (-102), 2) := by decide +kernel
theorem dX8_where_20 : decode cX8_where 20 = .ok (.ireturn, 1) := by decide +kernel
theorem dX8_where_21 : decode cX8_where 21 = .ok (.aload_n 0, 1) := by decide +kernel
theorem dX8_where_22 : decode cX8_where 22 = .ok (.invokevirtual 96, 3) := by decide +kernel
theorem dX8_where_25 : decode cX8_where 25 = .ok (.ifCond .ne 12, 3) := by decide +kernel
theorem dX8_where_28 : decode cX8_where 28 = .ok (.aload_n 0, 1) := by decide +kernel
theorem dX8_where_29 : decode cX8_where 29 = .ok (.getfield 174, 3) := by decide +kernel
theorem dX8_where_32 : decode cX8_where 32 = .ok (.bipush 12, 2) := by decide +kernel
theorem dX8_where_34 : decode cX8_where 34 = .ok (.if_icmp .ne 6, 3) := by decide +kernel
theorem dX8_where_37 : decode cX8_where 37 = .ok (.bipush (-103), 2) := by decide +kernel
theorem dX8_where_39 : decode cX8_where 39 = .ok (.ireturn, 1) := by decide +kernel
theorem dX8_where_40 : decode cX8_where 40 = .ok (.aload_n 0, 1) := by decide +kernel
theorem dX8_where_41 : decode cX8_where 41 = .ok (.dup, 1) := by decide +kernel
theorem dX8_where_42 : decode cX8_where 42 = .ok (.getfield 174, 3) := by decide +kernel
theorem dX8_where_45 : decode cX8_where 45 = .ok (.iconst 1, 1) := by decide +kernel
theorem dX8_where_46 : decode cX8_where 46 = .ok (.iadd, 1) := by decide +kernel
theorem dX8_where_47 : decode cX8_where 47 = .ok (.putfield 174, 3) := by decide +kernel
theorem dX8_where_50 : decode cX8_where 50 = .ok (.aload_n 0, 1) := by decide +kernel
theorem dX8_where_51 : decode cX8_where 51 = .ok (.invokevirtual 177, 3) := by decide +kernel
theorem dX8_where_54 : decode cX8_where 54 = .ok (.istore_n 2, 1) := by decide +kernel
theorem dX8_where_55 : decode cX8_where 55 = .ok (.iload_n 1, 1) := by decide +kernel
theorem dX8_where_56 : decode cX8_where 56 = .ok (.ifCond .ne 15, 3) := by decide +kernel
theorem dX8_where_59 : decode cX8_where 59 = .ok (.iload_n 2, 1) := by decide +kernel
theorem dX8_where_60 : decode cX8_where 60 = .ok (.bipush 41, 2) := by decide +kernel
theorem dX8_where_62 : decode cX8_where 62 = .ok (.if_icmp .ne 7, 3) := by decide +kernel
theorem dX8_where_65 : decode cX8_where 65 = .ok (.iconst (-1), 1) := by decide +kernel
theorem dX8_where_66 : decode cX8_where 66 = .ok (.goto 4, 3) := by decide +kernel
theorem dX8_where_69 : decode cX8_where 69 = .ok (.iload_n 2, 1) := by decide +kernel
theorem dX8_where_70 : decode cX8_where 70 = .ok (.ireturn, 1) := by decide +kernel
theorem dX8_where_71 : decode cX8_where 71 = .ok (.iload_n 2, 1) := by decide +kernel
theorem dX8_where_72 : decode cX8_where 72 = .ok (.iconst (-1), 1) := by decide +kernel
theorem dX8_where_73 : decode cX8_where 73 = .ok (.if_icmp .eq 14, 3) := by decide +kernel
theorem dX8_where_76 : decode cX8_where 76 = .ok (.iload_n 1, 1) := by decide +kernel
theorem dX8_where_77 : decode cX8_where 77 = .ok (.bipush 10, 2) := by decide +kernel
theorem dX8_where_79 : decode cX8_where 79 = .ok (.isub, 1) := by decide +kernel
theorem dX8_where_80 : decode cX8_where 80 = .ok (.aload_n 0, 1) := by decide +kernel
theorem dX8_where_81 : decode cX8_where 81 = .ok (.getfield 84, 3) := by decide +kernel
theorem dX8_where_84 : decode cX8_where 84 = .ok (.if_icmp .lt 7, 3) := by decide +kernel
theorem dX8_where_87 : decode cX8_where 87 = .ok (.iconst (-1), 1) := by decide +kernel
theorem dX8_where_88 : decode cX8_where 88 = .ok (.goto 12, 3) := by decide +kernel
theorem dX8_where_91 : decode cX8_where 91 = .ok (.aload_n 0, 1) := by decide +kernel
theorem dX8_where_92 : decode cX8_where 92 = .ok (.getfield 28, 3) := by decide +kernel
theorem dX8_where_95 : decode cX8_where 95 = .ok (.iload_n 1, 1) := by decide +kernel
theorem dX8_where_96 : decode cX8_where 96 = .ok (.bipush 10, 2) := by decide +kernel
theorem dX8_where_98 : decode cX8_where 98 = .ok (.isub, 1) := by decide +kernel
theorem dX8_where_99 : decode cX8_where 99 = .ok (.iaload, 1) := by decide +kernel
theorem dX8_where_100 : decode cX8_where 100 = .ok (.ireturn, 1) := by decide +kernel
theorem dX8_propsIn_0 : decode cX8_propsIn 0 = .ok (.aload_n 0, 1) := by decide +kernel
theorem dX8_propsIn_1 : decode cX8_propsIn 1 = .ok (.invokevirtual 121, 3) := by decide +kernel
theorem dX8_propsIn_4 : decode cX8_propsIn 4 = .ok (.iconst 0, 1) := by decide +kernel
theorem dX8_propsIn_5 : decode cX8_propsIn 5 = .ok (.istore_n 3, 1) := by decide +kernel
theorem dX8_propsIn_6 : decode cX8_propsIn 6 = .ok (.aload_n 0, 1) := by decide +kernel
theorem dX8_propsIn_7 : decode cX8_propsIn 7 = .ok (.getfield 13, 3) := by decide +kernel
theorem dX8_propsIn_10 : decode cX8_propsIn 10 = .ok (.iload_n 1, 1) := by decide +kernel
theorem dX8_propsIn_11 : decode cX8_propsIn 11 = .ok (.iaload, 1) := by decide +kernel
theorem dX8_propsIn_12 : decode cX8_propsIn 12 = .ok (.ifCond .le 33, 3) := by decide +kernel
theorem dX8_propsIn_15 : decode cX8_propsIn 15 = .ok (.aload_n 0, 1) := by decide +kernel
theorem dX8_propsIn_16 : decode cX8_propsIn 16 = .ok (.getfield 13, 3) := by decide +kernel
theorem dX8_propsIn_19 : decode cX8_propsIn 19 = .ok (.iload_n 1, 1) := by decide +kernel
theorem dX8_propsIn_20 : decode cX8_propsIn 20 = .ok (.iaload, 1) := by decide +kernel
theorem dX8_propsIn_21 : decode cX8_propsIn 21 = .ok (.iconst 3, 1) := by decide +kernel
theorem dX8_propsIn_22 : decode cX8_propsIn 22 = .ok (.iload_n 3, 1) := by decide +kernel
theorem dX8_propsIn_23 : decode cX8_propsIn 23 = .ok (.imul, 1) := by decide +kernel
theorem dX8_propsIn_24 : decode cX8_propsIn 24 = .ok (.iadd, 1) := by decide +kernel
theorem dX8_propsIn_25 : decode cX8_propsIn 25 = .ok (.iload_n 2, 1) := by decide +kernel
theorem dX8_propsIn_26 : decode cX8_propsIn 26 = .ok (.aload_n 0, 1) := by decide +kernel
theorem dX8_propsIn_27 : decode cX8_propsIn 27 = .ok (.iload_n 1, 1) := by decide +kernel
theorem dX8_propsIn_28 : decode cX8_propsIn 28 = .ok (.aload_n 0, 1) := by decide +kernel
theorem dX8_propsIn_29 : decode cX8_propsIn 29 = .ok (.getfield 22, 3) := by decide +kernel
theorem dX8_propsIn_32 : decode cX8_propsIn 32 = .ok (.invokevirtual 117, 3) := by decide +kernel
theorem dX8_propsIn_35 : decode cX8_propsIn 35 = .ok (.imul, 1) := by decide +kernel
theorem dX8_propsIn_36 : decode cX8_propsIn 36 = .ok (.if_icmp .gt 9, 3) := by decide +kernel
theorem dX8_propsIn_39 : decode cX8_propsIn 39 = .ok (.iinc 3 1, 3) := by decide +kernel
theorem dX8_propsIn_42 : decode cX8_propsIn 42 = .ok (.goto (-36), 3) := by decide +kernel
theorem dX8_propsIn_45 : decode cX8_propsIn 45 = .ok (.aload_n 0, 1) := by decide +kernel
theorem dX8_propsIn_46 : decode cX8_propsIn 46 = .ok (.getfield 13, 3) := by decide +kernel
theorem dX8_propsIn_49 : decode cX8_propsIn 49 = .ok (.iload_n 1, 1) := by decide +kernel
theorem dX8_propsIn_50 : decode cX8_propsIn 50 = .ok (.iaload, 1) := by decide +kernel
theorem dX8_propsIn_51 : decode cX8_propsIn 51 = .ok (.iconst 3, 1) := by decide +kernel
theorem dX8_propsIn_52 : decode cX8_propsIn 52 = .ok (.iload_n 3, 1) := by decide +kernel
theorem dX8_propsIn_53 : decode cX8_propsIn 53 = .ok (.imul, 1) := by decide +kernel
theorem dX8_propsIn_54 : decode cX8_propsIn 54 = .ok (.iadd, 1) := by decide +kernel
theorem dX8_propsIn_55 : decode cX8_propsIn 55 = .ok (.bipush 20, 2) := by decide +kernel
theorem dX8_propsIn_57 : decode cX8_propsIn 57 = .ok (.if_icmp .le 11, 3) := by decide +kernel
theorem dX8_propsIn_60 : decode cX8_propsIn 60 = .ok (.iload_n 3, 1) := by decide +kernel
theorem dX8_propsIn_61 : decode cX8_propsIn 61 = .ok (.ifCond .le 7, 3) := by decide +kernel
theorem dX8_propsIn_64 : decode cX8_propsIn 64 = .ok (.iconst (-1), 1) := by decide +kernel
theorem dX8_propsIn_65 : decode cX8_propsIn 65 = .ok (.goto 4, 3) := by decide +kernel
theorem dX8_propsIn_68 : decode cX8_propsIn 68 = .ok (.iload_n 3, 1) := by decide +kernel
theorem dX8_propsIn_69 : decode cX8_propsIn 69 = .ok (.ireturn, 1) := by decide +kernel
theorem dX8_propsOf_0 : decode cX8_propsOf 0 = .ok (.iconst 0, 1) := by decide +kernel
theorem dX8_propsOf_1 : decode cX8_propsOf 1 = .ok (.istore_n 3, 1) := by decide +kernel
theorem dX8_propsOf_2 : decode cX8_propsOf 2 = .ok (.iconst 1, 1) := by decide +kernel
theorem dX8_propsOf_3 : decode cX8_propsOf 3 = .ok (.istore 4, 2) := by decide +kernel
theorem dX8_propsOf_5 : decode cX8_propsOf 5 = .ok (.iconst 0, 1) := by decide +kernel
theorem dX8_propsOf_6 : decode cX8_propsOf 6 = .ok (.istore 5, 2) := by decide +kernel
theorem dX8_propsOf_8 : decode cX8_propsOf 8 = .ok (.iload 5, 2) := by decide +kernel
theorem dX8_propsOf_10 : decode cX8_propsOf 10 = .ok (.bipush 6, 2) := by decide +kernel
theorem dX8_propsOf_12 : decode cX8_propsOf 12 = .ok (.if_icmp .ge 41, 3) := by decide +kernel
theorem dX8_propsOf_15 : decode cX8_propsOf 15 = .ok (.aload_n 0, 1) := by decide +kernel
theorem dX8_propsOf_16 : decode cX8_propsOf 16 = .ok (.iload 5, 2) := by decide +kernel
theorem dX8_propsOf_18 : decode cX8_propsOf 18 = .ok (.iload_n 1, 1) := by decide +kernel
theorem dX8_propsOf_19 : decode cX8_propsOf 19 = .ok (.invokevirtual 180, 3) := by decide +kernel
theorem dX8_propsOf_22 : decode cX8_propsOf 22 = .ok (.istore 6, 2) := by decide +kernel
theorem dX8_propsOf_24 : decode cX8_propsOf 24 = .ok (.iload 4, 2) := by decide +kernel
theorem dX8_propsOf_26 : decode cX8_propsOf 26 = .ok (.ifCond .eq 13, 3) := by decide +kernel
theorem dX8_propsOf_29 : decode cX8_propsOf 29 = .ok (.iload 6, 2) := by decide +kernel
theorem dX8_propsOf_31 : decode cX8_propsOf 31 = .ok (.iconst (-1), 1) := by decide +kernel
theorem dX8_propsOf_32 : decode cX8_propsOf 32 = .ok (.if_icmp .eq 7, 3) := by decide +kernel
theorem dX8_propsOf_35 : decode cX8_propsOf 35 = .ok (.iconst 1, 1) := by decide +kernel
theorem dX8_propsOf_36 : decode cX8_propsOf 36 = .ok (.goto 4, 3) := by decide +kernel
theorem dX8_propsOf_39 : decode cX8_propsOf 39 = .ok (.iconst 0, 1) := by decide +kernel
theorem dX8_propsOf_40 : decode cX8_propsOf 40 = .ok (.istore 4, 2) := by decide +kernel
theorem dX8_propsOf_42 : decode cX8_propsOf 42 = .ok (.iload_n 3, 1) := by decide +kernel
theorem dX8_propsOf_43 : decode cX8_propsOf 43 = .ok (.iload 6, 2) := by decide +kernel
theorem dX8_propsOf_45 : decode cX8_propsOf 45 = .ok (.iadd, 1) := by decide +kernel
theorem dX8_propsOf_46 : decode cX8_propsOf 46 = .ok (.istore_n 3, 1) := by decide +kernel
theorem dX8_propsOf_47 : decode cX8_propsOf 47 = .ok (.iinc 5 1, 3) := by decide +kernel
theorem dX8_propsOf_50 : decode cX8_propsOf 50 = .ok (.goto (-42), 3) := by decide +kernel
theorem dX8_propsOf_53 : decode cX8_propsOf 53 = .ok (.iload 4, 2) := by decide +kernel
theorem dX8_propsOf_55 : decode cX8_propsOf 55 = .ok (.ifCond .ne 7, 3) := by decide +kernel
theorem dX8_propsOf_58 : decode cX8_propsOf 58 = .ok (.iconst (-1), 1) := by decide +kernel
theorem dX8_propsOf_59 : decode cX8_propsOf 59 = .ok (.goto 20, 3) := by decide +kernel
theorem dX8_propsOf_62 : decode cX8_propsOf 62 = .ok (.iload_n 2, 1) := by decide +kernel
theorem dX8_propsOf_63 : decode cX8_propsOf 63 = .ok (.ifCond .ne 7, 3) := by decide +kernel
theorem dX8_propsOf_66 : decode cX8_propsOf 66 = .ok (.iload_n 3, 1) := by decide +kernel
theorem dX8_propsOf_67 : decode cX8_propsOf 67 = .ok (.goto 12, 3) := by decide +kernel
theorem dX8_propsOf_70 : decode cX8_propsOf 70 = .ok (.aload_n 0, 1) := by decide +kernel
theorem dX8_propsOf_71 : decode cX8_propsOf 71 = .ok (.iload_n 2, 1) := by decide +kernel
theorem dX8_propsOf_72 : decode cX8_propsOf 72 = .ok (.bipush 10, 2) := by decide +kernel
theorem dX8_propsOf_74 : decode cX8_propsOf 74 = .ok (.isub, 1) := by decide +kernel
theorem dX8_propsOf_75 : decode cX8_propsOf 75 = .ok (.iload_n 1, 1) := by decide +kernel
theorem dX8_propsOf_76 : decode cX8_propsOf 76 = .ok (.invokevirtual 180, 3) := by decide +kernel
theorem dX8_propsOf_79 : decode cX8_propsOf 79 = .ok (.ireturn, 1) := by decide +kernel
theorem dX8_props_0 : decode cX8_props 0 = .ok (.iload_n 1, 1) := by decide +kernel
theorem dX8_props_1 : decode cX8_props 1 = .ok (.i2l, 1) := by decide +kernel
theorem dX8_props_2 : decode cX8_props 2 = .ok (.lconst 1, 1) := by decide +kernel
theorem dX8_props_3 : decode cX8_props 3 = .ok (.ldc2_w 183, 3) := by decide +kernel
theorem dX8_props_6 : decode cX8_props 6 = .ok (.invokestatic 52, 3) := by decide +kernel
theorem dX8_props_9 : decode cX8_props 9 = .ok (.ifCond .eq 21, 3) := by decide +kernel
theorem dX8_props_12 : decode cX8_props 12 = .ok (.iload_n 2, 1) := by decide +kernel
theorem dX8_props_13 : decode cX8_props 13 = .ok (.ifCond .eq 20, 3) := by decide +kernel
theorem dX8_props_16 : decode cX8_props 16 = .ok (.iload_n 2, 1) := by decide +kernel
theorem dX8_props_17 : decode cX8_props 17 = .ok (.i2l, 1) := by decide +kernel
theorem dX8_props_18 : decode cX8_props 18 = .ok (.ldc2_w 170, 3) := by decide +kernel
theorem dX8_props_21 : decode cX8_props 21 = .ok (.ldc2_w 185, 3) := by decide +kernel
theorem dX8_props_24 : decode cX8_props 24 = .ok (.invokestatic 52, 3) := by decide +kernel
theorem dX8_props_27 : decode cX8_props 27 = .ok (.ifCond .ne 6, 3) := by decide +kernel
theorem dX8_props_30 : decode cX8_props 30 = .ok (.bipush (-102), 2) := by decide +kernel
theorem dX8_props_32 : decode cX8_props 32 = .ok (.ireturn, 1) := by decide +kernel
theorem dX8_props_33 : decode cX8_props 33 = .ok (.aload_n 0, 1) := by decide +kernel
theorem dX8_props_34 : decode cX8_props 34 = .ok (.invokevirtual 96, 3) := by decide +kernel
theorem dX8_props_37 : decode cX8_props 37 = .ok (.ifCond .eq 8, 3) := by decide +kernel
theorem dX8_props_40 : decode cX8_props 40 = .ok (.bipush (-103), 2) := by decide +kernel
theorem dX8_props_42 : decode cX8_props 42 = .ok (.goto 9, 3) := by decide +kernel
theorem dX8_props_45 : decode cX8_props 45 = .ok (.aload_n 0, 1) := by decide +kernel
theorem dX8_props_46 : decode cX8_props 46 = .ok (.iload_n 1, 1) := by decide +kernel
theorem dX8_props_47 : decode cX8_props 47 = .ok (.iload_n 2, 1) := by decide +kernel
theorem dX8_props_48 : decode cX8_props 48 = .ok (.invokevirtual 187, 3) := by decide +kernel
theorem dX8_props_51 : decode cX8_props 51 = .ok (.ireturn, 1) := by decide +kernel
theorem dX8_outOf_0 : decode cX8_outOf 0 = .ok (.aload_n 0, 1) := by decide +kernel
theorem dX8_outOf_1 : decode cX8_outOf 1 = .ok (.invokevirtual 121, 3) := by decide +kernel
theorem dX8_outOf_4 : decode cX8_outOf 4 = .ok (.iconst 0, 1) := by decide +kernel
theorem dX8_outOf_5 : decode cX8_outOf 5 = .ok (.istore_n 1, 1) := by decide +kernel
theorem dX8_outOf_6 : decode cX8_outOf 6 = .ok (.iconst 0, 1) := by decide +kernel
theorem dX8_outOf_7 : decode cX8_outOf 7 = .ok (.istore_n 2, 1) := by decide +kernel
theorem dX8_outOf_8 : decode cX8_outOf 8 = .ok (.iload_n 2, 1) := by decide +kernel
theorem dX8_outOf_9 : decode cX8_outOf 9 = .ok (.aload_n 0, 1) := by decide +kernel
theorem dX8_outOf_10 : decode cX8_outOf 10 = .ok (.getfield 84, 3) := by decide +kernel
theorem dX8_outOf_13 : decode cX8_outOf 13 = .ok (.if_icmp .ge 25, 3) := by decide +kernel
theorem dX8_outOf_16 : decode cX8_outOf 16 = .ok (.iload_n 1, 1) := by decide +kernel
theorem dX8_outOf_17 : decode cX8_outOf 17 = .ok (.aload_n 0, 1) := by decide +kernel
theorem dX8_outOf_18 : decode cX8_outOf 18 = .ok (.iload_n 2, 1) := by decide +kernel
theorem dX8_outOf_19 : decode cX8_outOf 19 = .ok (.invokevirtual 146, 3) := by decide +kernel
theorem dX8_outOf_22 : decode cX8_outOf 22 = .ok (.ifCond .eq 7, 3) := by decide +kernel
theorem dX8_outOf_25 : decode cX8_outOf 25 = .ok (.iconst 0, 1) := by decide +kernel
theorem dX8_outOf_26 : decode cX8_outOf 26 = .ok (.goto 4, 3) := by decide +kernel
theorem dX8_outOf_29 : decode cX8_outOf 29 = .ok (.iconst 1, 1) := by decide +kernel
theorem dX8_outOf_30 : decode cX8_outOf 30 = .ok (.iadd, 1) := by decide +kernel
theorem dX8_outOf_31 : decode cX8_outOf 31 = .ok (.istore_n 1, 1) := by decide +kernel
theorem dX8_outOf_32 : decode cX8_outOf 32 = .ok (.iinc 2 1, 3) := by decide +kernel
theorem dX8_outOf_35 : decode cX8_outOf 35 = .ok (.goto (-27), 3) := by decide +kernel
theorem dX8_outOf_38 : decode cX8_outOf 38 = .ok (.iconst 0, 1) := by decide +kernel
theorem dX8_outOf_39 : decode cX8_outOf 39 = .ok (.istore_n 2, 1) := by decide +kernel
theorem dX8_outOf_40 : decode cX8_outOf 40 = .ok (.iconst 0, 1) := by decide +kernel
theorem dX8_outOf_41 : decode cX8_outOf 41 = .ok (.istore_n 3, 1) := by decide +kernel
theorem dX8_outOf_42 : decode cX8_outOf 42 = .ok (.iload_n 1, 1) := by decide +kernel
theorem dX8_outOf_43 : decode cX8_outOf 43 = .ok (.ifCond .le 85, 3) := by decide +kernel
theorem dX8_outOf_46 : decode cX8_outOf 46 = .ok (.iinc 2 1, 3) := by decide +kernel
theorem dX8_outOf_49 : decode cX8_outOf 49 = .ok (.iload_n 3, 1) := by decide +kernel
theorem dX8_outOf_50 : decode cX8_outOf 50 = .ok (.aload_n 0, 1) := by decide +kernel
theorem dX8_outOf_51 : decode cX8_outOf 51 = .ok (.getfield 72, 3) := by decide +kernel
theorem dX8_outOf_54 : decode cX8_outOf 54 = .ok (.if_icmp .ge 7, 3) := by decide +kernel
theorem dX8_outOf_57 : decode cX8_outOf 57 = .ok (.iload_n 3, 1) := by decide +kernel
theorem dX8_outOf_58 : decode cX8_outOf 58 = .ok (.goto 7, 3) := by decide +kernel
theorem dX8_outOf_61 : decode cX8_outOf 61 = .ok (.aload_n 0, 1) := by decide +kernel
theorem dX8_outOf_62 : decode cX8_outOf 62 = .ok (.getfield 72, 3) := by decide +kernel
theorem dX8_outOf_65 : decode cX8_outOf 65 = .ok (.istore 4, 2) := by decide +kernel
theorem dX8_outOf_67 : decode cX8_outOf 67 = .ok (.iload_n 3, 1) := by decide +kernel
theorem dX8_outOf_68 : decode cX8_outOf 68 = .ok (.iload 4, 2) := by decide +kernel
theorem dX8_outOf_70 : decode cX8_outOf 70 = .ok (.isub, 1) := by decide +kernel
theorem dX8_outOf_71 : decode cX8_outOf 71 = .ok (.istore_n 3, 1) := by decide +kernel
theorem dX8_outOf_72 : decode cX8_outOf 72 = .ok (.iload_n 1, 1) := by decide +kernel
theorem dX8_outOf_73 : decode cX8_outOf 73 = .ok (.iload 4, 2) := by decide +kernel
theorem dX8_outOf_75 : decode cX8_outOf 75 = .ok (.isub, 1) := by decide +kernel
theorem dX8_outOf_76 : decode cX8_outOf 76 = .ok (.istore_n 1, 1) := by decide +kernel
theorem dX8_outOf_77 : decode cX8_outOf 77 = .ok (.iconst 0, 1) := by decide +kernel
theorem dX8_outOf_78 : decode cX8_outOf 78 = .ok (.istore 5, 2) := by decide +kernel
theorem dX8_outOf_80 : decode cX8_outOf 80 = .ok (.iload 5, 2) := by decide +kernel
theorem dX8_outOf_82 : decode cX8_outOf 82 = .ok (.aload_n 0, 1) := by decide +kernel
theorem dX8_outOf_83 : decode cX8_outOf 83 = .ok (.getfield 84, 3) := by decide +kernel
theorem dX8_outOf_86 : decode cX8_outOf 86 = .ok (.if_icmp .ge 39, 3) := by decide +kernel
theorem dX8_outOf_89 : decode cX8_outOf 89 = .ok (.iload_n 3, 1) := by decide +kernel
theorem dX8_outOf_90 : decode cX8_outOf 90 = .ok (.aload_n 0, 1) := by decide +kernel
theorem dX8_outOf_91 : decode cX8_outOf 91 = .ok (.iload 5, 2) := by decide +kernel
theorem dX8_outOf_93 : decode cX8_outOf 93 = .ok (.invokevirtual 146, 3) := by decide +kernel
theorem dX8_outOf_96 : decode cX8_outOf 96 = .ok (.ifCond .ne 20, 3) := by decide +kernel
theorem dX8_outOf_99 : decode cX8_outOf 99 = .ok (.aload_n 0, 1) := by decide +kernel
theorem dX8_outOf_100 : decode cX8_outOf 100 = .ok (.getfield 19, 3) := by decide +kernel
theorem dX8_outOf_103 : decode cX8_outOf 103 = .ok (.iload 5, 2) := by decide +kernel
theorem dX8_outOf_105 : decode cX8_outOf 105 = .ok (.iaload, 1) := by decide +kernel
theorem dX8_outOf_106 : decode cX8_outOf 106 = .ok (.iconst 1, 1) := by decide +kernel
theorem dX8_outOf_107 : decode cX8_outOf 107 = .ok (.iadd, 1) := by decide +kernel
theorem dX8_outOf_108 : decode cX8_outOf 108 = .ok (.iload_n 2, 1) := by decide +kernel
theorem dX8_outOf_109 : decode cX8_outOf 109 = .ok (.if_icmp .ne 7, 3) := by decide +kernel
theorem dX8_outOf_112 : decode cX8_outOf 112 = .ok (.iconst 1, 1) := by decide +kernel
theorem dX8_outOf_113 : decode cX8_outOf 113 = .ok (.goto 4, 3) := by decide +kernel
theorem dX8_outOf_116 : decode cX8_outOf 116 = .ok (.iconst 0, 1) := by decide +kernel
theorem dX8_outOf_117 : decode cX8_outOf 117 = .ok (.iadd, 1) := by decide +kernel
theorem dX8_outOf_118 : decode cX8_outOf 118 = .ok (.istore_n 3, 1) := by decide +kernel
theorem dX8_outOf_119 : decode cX8_outOf 119 = .ok (.iinc 5 1, 3) := by decide +kernel
theorem dX8_outOf_122 : decode cX8_outOf 122 = .ok (.goto (-42), 3) := by decide +kernel
theorem dX8_outOf_125 : decode cX8_outOf 125 = .ok (.goto (-83), 3) := by decide +kernel
theorem dX8_outOf_128 : decode cX8_outOf 128 = .ok (.iload_n 2, 1) := by decide +kernel
theorem dX8_outOf_129 : decode cX8_outOf 129 = .ok (.ireturn, 1) := by decide +kernel
theorem dX8_out_0 : decode cX8_out 0 = .ok (.aload_n 0, 1) := by decide +kernel
theorem dX8_out_1 : decode cX8_out 1 = .ok (.invokevirtual 96, 3) := by decide +kernel
theorem dX8_out_4 : decode cX8_out 4 = .ok (.ifCond .eq 8, 3) := by decide +kernel
theorem dX8_out_7 : decode cX8_out 7 = .ok (.bipush (-103), 2) := by decide +kernel
theorem dX8_out_9 : decode cX8_out 9 = .ok (.goto 7, 3) := by decide +kernel
theorem dX8_out_12 : decode cX8_out 12 = .ok (.aload_n 0, 1) := by decide +kernel
theorem dX8_out_13 : decode cX8_out 13 = .ok (.invokevirtual 190, 3) := by decide +kernel
theorem dX8_out_16 : decode cX8_out 16 = .ok (.ireturn, 1) := by decide +kernel
theorem dX8_knock_0 : decode cX8_knock 0 = .ok (.aload_n 0, 1) := by decide +kernel
theorem dX8_knock_1 : decode cX8_knock 1 = .ok (.iload_n 1, 1) := by decide +kernel
theorem dX8_knock_2 : decode cX8_knock 2 = .ok (.invokevirtual 133, 3) := by decide +kernel
theorem dX8_knock_5 : decode cX8_knock 5 = .ok (.ifCond .ne 6, 3) := by decide +kernel
theorem dX8_knock_8 : decode cX8_knock 8 = .ok (.bipush (-101), 2) := by decide +kernel
theorem dX8_knock_10 : decode cX8_knock 10 = .ok (.ireturn, 1) := by decide +kernel
theorem dX8_knock_11 : decode cX8_knock 11 = .ok (.iload_n 2, 1) := by decide +kernel
theorem dX8_knock_12 : decode cX8_knock 12 = .ok (.i2l, 1) := by decide +kernel
theorem dX8_knock_13 : decode cX8_knock 13 = .ok (.lconst 0, 1) := by decide +kernel
theorem dX8_knock_14 : decode cX8_knock 14 = .ok (.ldc2_w 183, 3) := by decide +kernel
theorem dX8_knock_17 : decode cX8_knock 17 = .ok (.invokestatic 52, 3) := by decide +kernel
theorem dX8_knock_20 : decode cX8_knock 20 = .ok (.ifCond .ne 6, 3) := by decide +kernel
theorem dX8_knock_23 : decode cX8_knock 23 = .ok (.bipush (-102), 2) := by decide +kernel
theorem dX8_knock_25 : decode cX8_knock 25 = .ok (.ireturn, 1) := by decide +kernel
theorem dX8_knock_26 : decode cX8_knock 26 = .ok (.aload_n 0, 1) := by decide +kernel
theorem dX8_knock_27 : decode cX8_knock 27 = .ok (.getfield 87, 3) := by decide +kernel
theorem dX8_knock_30 : decode cX8_knock 30 = .ok (.bipush 8, 2) := by decide +kernel
theorem dX8_knock_32 : decode cX8_knock 32 = .ok (.if_icmp .ne 6, 3) := by decide +kernel
theorem dX8_knock_35 : decode cX8_knock 35 = .ok (.bipush (-104), 2) := by decide +kernel
theorem dX8_knock_37 : decode cX8_knock 37 = .ok (.ireturn, 1) := by decide +kernel
theorem dX8_knock_38 : decode cX8_knock 38 = .ok (.aload_n 0, 1) := by decide +kernel
theorem dX8_knock_39 : decode cX8_knock 39 = .ok (.getfield 31, 3) := by decide +kernel
theorem dX8_knock_42 : decode cX8_knock 42 = .ok (.iconst 3, 1) := by decide +kernel
theorem dX8_knock_43 : decode cX8_knock 43 = .ok (.aload_n 0, 1) := by decide +kernel
theorem dX8_knock_44 : decode cX8_knock 44 = .ok (.getfield 87, 3) := by decide +kernel
theorem dX8_knock_47 : decode cX8_knock 47 = .ok (.imul, 1) := by decide +kernel
theorem dX8_knock_48 : decode cX8_knock 48 = .ok (.iload_n 1, 1) := by decide +kernel
theorem dX8_knock_49 : decode cX8_knock 49 = .ok (.iastore, 1) := by decide +kernel
theorem dX8_knock_50 : decode cX8_knock 50 = .ok (.aload_n 0, 1) := by decide +kernel
theorem dX8_knock_51 : decode cX8_knock 51 = .ok (.getfield 31, 3) := by decide +kernel
theorem dX8_knock_54 : decode cX8_knock 54 = .ok (.iconst 3, 1) := by decide +kernel
theorem dX8_knock_55 : decode cX8_knock 55 = .ok (.aload_n 0, 1) := by decide +kernel
theorem dX8_knock_56 : decode cX8_knock 56 = .ok (.getfield 87, 3) := by decide +kernel
theorem dX8_knock_59 : decode cX8_knock 59 = .ok (.imul, 1) := by decide +kernel
theorem dX8_knock_60 : decode cX8_knock 60 = .ok (.iconst 1, 1) := by decide +kernel
theorem dX8_knock_61 : decode cX8_knock 61 = .ok (.iadd, 1) := by decide +kernel
theorem dX8_knock_62 : decode cX8_knock 62 = .ok (.iload_n 2, 1) := by decide +kernel
theorem dX8_knock_63 : decode cX8_knock 63 = .ok (.iastore, 1) := by decide +kernel
theorem dX8_knock_64 : decode cX8_knock 64 = .ok (.aload_n 0, 1) := by decide +kernel
theorem dX8_knock_65 : decode cX8_knock 65 = .ok (.getfield 31, 3) := by decide +kernel
theorem dX8_knock_68 : decode cX8_knock 68 = .ok (.iconst 3, 1) := by decide +kernel
theorem dX8_knock_69 : decode cX8_knock 69 = .ok (.aload_n 0, 1) := by decide +kernel
theorem dX8_knock_70 : decode cX8_knock 70 = .ok (.getfield 87, 3) := by decide +kernel
theorem dX8_knock_73 : decode cX8_knock 73 = .ok (.imul, 1) := by decide +kernel
