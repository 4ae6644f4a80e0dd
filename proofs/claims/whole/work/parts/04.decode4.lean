theorem dX8_knock_74 : decode cX8_knock 74 = .ok (.iconst 2, 1) := by decide +kernel
theorem dX8_knock_75 : decode cX8_knock 75 = .ok (.iadd, 1) := by decide +kernel
theorem dX8_knock_76 : decode cX8_knock 76 = .ok (.iload_n 3, 1) := by decide +kernel
theorem dX8_knock_77 : decode cX8_knock 77 = .ok (.ifCond .eq 7, 3) := by decide +kernel
theorem dX8_knock_80 : decode cX8_knock 80 = .ok (.iconst 1, 1) := by decide +kernel
theorem dX8_knock_81 : decode cX8_knock 81 = .ok (.goto 4, 3) := by decide +kernel
theorem dX8_knock_84 : decode cX8_knock 84 = .ok (.iconst 0, 1) := by decide +kernel
theorem dX8_knock_85 : decode cX8_knock 85 = .ok (.iastore, 1) := by decide +kernel
theorem dX8_knock_86 : decode cX8_knock 86 = .ok (.aload_n 0, 1) := by decide +kernel
theorem dX8_knock_87 : decode cX8_knock 87 = .ok (.dup, 1) := by decide +kernel
theorem dX8_knock_88 : decode cX8_knock 88 = .ok (.getfield 87, 3) := by decide +kernel
theorem dX8_knock_91 : decode cX8_knock 91 = .ok (.iconst 1, 1) := by decide +kernel
theorem dX8_knock_92 : decode cX8_knock 92 = .ok (.iadd, 1) := by decide +kernel
theorem dX8_knock_93 : decode cX8_knock 93 = .ok (.putfield 87, 3) := by decide +kernel
theorem dX8_knock_96 : decode cX8_knock 96 = .ok (.aload_n 0, 1) := by decide +kernel
theorem dX8_knock_97 : decode cX8_knock 97 = .ok (.getfield 87, 3) := by decide +kernel
theorem dX8_knock_100 : decode cX8_knock 100 = .ok (.ireturn, 1) := by decide +kernel
theorem dX8_forget_0 : decode cX8_forget 0 = .ok (.aload_n 0, 1) := by decide +kernel
theorem dX8_forget_1 : decode cX8_forget 1 = .ok (.getfield 87, 3) := by decide +kernel
theorem dX8_forget_4 : decode cX8_forget 4 = .ok (.istore_n 1, 1) := by decide +kernel
theorem dX8_forget_5 : decode cX8_forget 5 = .ok (.aload_n 0, 1) := by decide +kernel
theorem dX8_forget_6 : decode cX8_forget 6 = .ok (.iconst 0, 1) := by decide +kernel
theorem dX8_forget_7 : decode cX8_forget 7 = .ok (.putfield 87, 3) := by decide +kernel
theorem dX8_forget_10 : decode cX8_forget 10 = .ok (.iload_n 1, 1) := by decide +kernel
theorem dX8_forget_11 : decode cX8_forget 11 = .ok (.ireturn, 1) := by decide +kernel
theorem dX8_isKnocked_0 : decode cX8_isKnocked 0 = .ok (.aload_n 0, 1) := by decide +kernel
theorem dX8_isKnocked_1 : decode cX8_isKnocked 1 = .ok (.invokevirtual 121, 3) := by decide +kernel
theorem dX8_isKnocked_4 : decode cX8_isKnocked 4 = .ok (.aload_n 0, 1) := by decide +kernel
theorem dX8_isKnocked_5 : decode cX8_isKnocked 5 = .ok (.getfield 22, 3) := by decide +kernel
theorem dX8_isKnocked_8 : decode cX8_isKnocked 8 = .ok (.iload_n 1, 1) := by decide +kernel
theorem dX8_isKnocked_9 : decode cX8_isKnocked 9 = .ok (.iload_n 2, 1) := by decide +kernel
theorem dX8_isKnocked_10 : decode cX8_isKnocked 10 = .ok (.iastore, 1) := by decide +kernel
theorem dX8_isKnocked_11 : decode cX8_isKnocked 11 = .ok (.iconst 1, 1) := by decide +kernel
theorem dX8_isKnocked_12 : decode cX8_isKnocked 12 = .ok (.istore_n 3, 1) := by decide +kernel
theorem dX8_isKnocked_13 : decode cX8_isKnocked 13 = .ok (.iconst 0, 1) := by decide +kernel
theorem dX8_isKnocked_14 : decode cX8_isKnocked 14 = .ok (.istore 4, 2) := by decide +kernel
theorem dX8_isKnocked_16 : decode cX8_isKnocked 16 = .ok (.iload 4, 2) := by decide +kernel
theorem dX8_isKnocked_18 : decode cX8_isKnocked 18 = .ok (.bipush 21, 2) := by decide +kernel
theorem dX8_isKnocked_20 : decode cX8_isKnocked 20 = .ok (.if_icmp .ge 99, 3) := by decide +kernel
theorem dX8_isKnocked_23 : decode cX8_isKnocked 23 = .ok (.iconst 0, 1) := by decide +kernel
theorem dX8_isKnocked_24 : decode cX8_isKnocked 24 = .ok (.istore 5, 2) := by decide +kernel
theorem dX8_isKnocked_26 : decode cX8_isKnocked 26 = .ok (.iload 5, 2) := by decide +kernel
theorem dX8_isKnocked_28 : decode cX8_isKnocked 28 = .ok (.aload_n 0, 1) := by decide +kernel
theorem dX8_isKnocked_29 : decode cX8_isKnocked 29 = .ok (.getfield 87, 3) := by decide +kernel
theorem dX8_isKnocked_32 : decode cX8_isKnocked 32 = .ok (.if_icmp .ge 75, 3) := by decide +kernel
theorem dX8_isKnocked_35 : decode cX8_isKnocked 35 = .ok (.aload_n 0, 1) := by decide +kernel
theorem dX8_isKnocked_36 : decode cX8_isKnocked 36 = .ok (.getfield 22, 3) := by decide +kernel
theorem dX8_isKnocked_39 : decode cX8_isKnocked 39 = .ok (.aload_n 0, 1) := by decide +kernel
theorem dX8_isKnocked_40 : decode cX8_isKnocked 40 = .ok (.getfield 31, 3) := by decide +kernel
theorem dX8_isKnocked_43 : decode cX8_isKnocked 43 = .ok (.iconst 3, 1) := by decide +kernel
theorem dX8_isKnocked_44 : decode cX8_isKnocked 44 = .ok (.iload 5, 2) := by decide +kernel
theorem dX8_isKnocked_46 : decode cX8_isKnocked 46 = .ok (.imul, 1) := by decide +kernel
theorem dX8_isKnocked_47 : decode cX8_isKnocked 47 = .ok (.iaload, 1) := by decide +kernel
theorem dX8_isKnocked_48 : decode cX8_isKnocked 48 = .ok (.iaload, 1) := by decide +kernel
theorem dX8_isKnocked_49 : decode cX8_isKnocked 49 = .ok (.ifCond .le 7, 3) := by decide +kernel
theorem dX8_isKnocked_52 : decode cX8_isKnocked 52 = .ok (.iconst 1, 1) := by decide +kernel
theorem dX8_isKnocked_53 : decode cX8_isKnocked 53 = .ok (.goto 4, 3) := by decide +kernel
theorem dX8_isKnocked_56 : decode cX8_isKnocked 56 = .ok (.iconst 0, 1) := by decide +kernel
theorem dX8_isKnocked_57 : decode cX8_isKnocked 57 = .ok (.istore 6, 2) := by decide +kernel
theorem dX8_isKnocked_59 : decode cX8_isKnocked 59 = .ok (.iload_n 3, 1) := by decide +kernel
theorem dX8_isKnocked_60 : decode cX8_isKnocked 60 = .ok (.ifCond .eq 39, 3) := by decide +kernel
theorem dX8_isKnocked_63 : decode cX8_isKnocked 63 = .ok (.aload_n 0, 1) := by decide +kernel
theorem dX8_isKnocked_64 : decode cX8_isKnocked 64 = .ok (.getfield 31, 3) := by decide +kernel
theorem dX8_isKnocked_67 : decode cX8_isKnocked 67 = .ok (.iconst 3, 1) := by decide +kernel
theorem dX8_isKnocked_68 : decode cX8_isKnocked 68 = .ok (.iload 5, 2) := by decide +kernel
theorem dX8_isKnocked_70 : decode cX8_isKnocked 70 = .ok (.imul, 1) := by decide +kernel
theorem dX8_isKnocked_71 : decode cX8_isKnocked 71 = .ok (.iconst 1, 1) := by decide +kernel
theorem dX8_isKnocked_72 : decode cX8_isKnocked 72 = .ok (.iadd, 1) := by decide +kernel
theorem dX8_isKnocked_73 : decode cX8_isKnocked 73 = .ok (.iaload, 1) := by decide +kernel
theorem dX8_isKnocked_74 : decode cX8_isKnocked 74 = .ok (.iload 4, 2) := by decide +kernel
theorem dX8_isKnocked_76 : decode cX8_isKnocked 76 = .ok (.if_icmp .ne 19, 3) := by decide +kernel
theorem dX8_isKnocked_79 : decode cX8_isKnocked 79 = .ok (.iload 6, 2) := by decide +kernel
theorem dX8_isKnocked_81 : decode cX8_isKnocked 81 = .ok (.aload_n 0, 1) := by decide +kernel
theorem dX8_isKnocked_82 : decode cX8_isKnocked 82 = .ok (.getfield 31, 3) := by decide +kernel
theorem dX8_isKnocked_85 : decode cX8_isKnocked 85 = .ok (.iconst 3, 1) := by decide +kernel
theorem dX8_isKnocked_86 : decode cX8_isKnocked 86 = .ok (.iload 5, 2) := by decide +kernel
theorem dX8_isKnocked_88 : decode cX8_isKnocked 88 = .ok (.imul, 1) := by decide +kernel
theorem dX8_isKnocked_89 : decode cX8_isKnocked 89 = .ok (.iconst 2, 1) := by decide +kernel
theorem dX8_isKnocked_90 : decode cX8_isKnocked 90 = .ok (.iadd, 1) := by decide +kernel
theorem dX8_isKnocked_91 : decode cX8_isKnocked 91 = .ok (.iaload, 1) := by decide +kernel
theorem dX8_isKnocked_92 : decode cX8_isKnocked 92 = .ok (.if_icmp .ne 7, 3) := by decide +kernel
theorem dX8_isKnocked_95 : decode cX8_isKnocked 95 = .ok (.iconst 1, 1) := by decide +kernel
theorem dX8_isKnocked_96 : decode cX8_isKnocked 96 = .ok (.goto 4, 3) := by decide +kernel
theorem dX8_isKnocked_99 : decode cX8_isKnocked 99 = .ok (.iconst 0, 1) := by decide +kernel
theorem dX8_isKnocked_100 : decode cX8_isKnocked 100 = .ok (.istore_n 3, 1) := by decide +kernel
theorem dX8_isKnocked_101 : decode cX8_isKnocked 101 = .ok (.iinc 5 1, 3) := by decide +kernel
theorem dX8_isKnocked_104 : decode cX8_isKnocked 104 = .ok (.goto (-78), 3) := by decide +kernel
theorem dX8_isKnocked_107 : decode cX8_isKnocked 107 = .ok (.aload_n 0, 1) := by decide +kernel
theorem dX8_isKnocked_108 : decode cX8_isKnocked 108 = .ok (.invokevirtual 158, 3) := by decide +kernel
theorem dX8_isKnocked_111 : decode cX8_isKnocked 111 = .ok (.istore 5, 2) := by decide +kernel
theorem dX8_isKnocked_113 : decode cX8_isKnocked 113 = .ok (.iinc 4 1, 3) := by decide +kernel
theorem dX8_isKnocked_116 : decode cX8_isKnocked 116 = .ok (.goto (-100), 3) := by decide +kernel
theorem dX8_isKnocked_119 : decode cX8_isKnocked 119 = .ok (.iload_n 3, 1) := by decide +kernel
theorem dX8_isKnocked_120 : decode cX8_isKnocked 120 = .ok (.ireturn, 1) := by decide +kernel
theorem dX8_strongOf_0 : decode cX8_strongOf 0 = .ok (.iconst 0, 1) := by decide +kernel
theorem dX8_strongOf_1 : decode cX8_strongOf 1 = .ok (.istore_n 2, 1) := by decide +kernel
theorem dX8_strongOf_2 : decode cX8_strongOf 2 = .ok (.iconst 0, 1) := by decide +kernel
theorem dX8_strongOf_3 : decode cX8_strongOf 3 = .ok (.istore_n 3, 1) := by decide +kernel
theorem dX8_strongOf_4 : decode cX8_strongOf 4 = .ok (.iload_n 3, 1) := by decide +kernel
theorem dX8_strongOf_5 : decode cX8_strongOf 5 = .ok (.bipush 10, 2) := by decide +kernel
theorem dX8_strongOf_7 : decode cX8_strongOf 7 = .ok (.if_icmp .ge 28, 3) := by decide +kernel
theorem dX8_strongOf_10 : decode cX8_strongOf 10 = .ok (.iload_n 2, 1) := by decide +kernel
theorem dX8_strongOf_11 : decode cX8_strongOf 11 = .ok (.aload_n 0, 1) := by decide +kernel
theorem dX8_strongOf_12 : decode cX8_strongOf 12 = .ok (.iload_n 1, 1) := by decide +kernel
theorem dX8_strongOf_13 : decode cX8_strongOf 13 = .ok (.iload_n 3, 1) := by decide +kernel
theorem dX8_strongOf_14 : decode cX8_strongOf 14 = .ok (.invokevirtual 193, 3) := by decide +kernel
theorem dX8_strongOf_17 : decode cX8_strongOf 17 = .ok (.ifCond .eq 9, 3) := by decide +kernel
theorem dX8_strongOf_20 : decode cX8_strongOf 20 = .ok (.iconst 1, 1) := by decide +kernel
theorem dX8_strongOf_21 : decode cX8_strongOf 21 = .ok (.iload_n 3, 1) := by decide +kernel
theorem dX8_strongOf_22 : decode cX8_strongOf 22 = .ok (.ishl, 1) := by decide +kernel
theorem dX8_strongOf_23 : decode cX8_strongOf 23 = .ok (.goto 4, 3) := by decide +kernel
theorem dX8_strongOf_26 : decode cX8_strongOf 26 = .ok (.iconst 0, 1) := by decide +kernel
theorem dX8_strongOf_27 : decode cX8_strongOf 27 = .ok (.ior, 1) := by decide +kernel
theorem dX8_strongOf_28 : decode cX8_strongOf 28 = .ok (.istore_n 2, 1) := by decide +kernel
theorem dX8_strongOf_29 : decode cX8_strongOf 29 = .ok (.iinc 3 1, 3) := by decide +kernel
theorem dX8_strongOf_32 : decode cX8_strongOf 32 = .ok (.goto (-28), 3) := by decide +kernel
theorem dX8_strongOf_35 : decode cX8_strongOf 35 = .ok (.iload_n 2, 1) := by decide +kernel
theorem dX8_strongOf_36 : decode cX8_strongOf 36 = .ok (.ireturn, 1) := by decide +kernel
theorem dX8_knockOf_0 : decode cX8_knockOf 0 = .ok (.aload_n 0, 1) := by decide +kernel
theorem dX8_knockOf_1 : decode cX8_knockOf 1 = .ok (.iload_n 1, 1) := by decide +kernel
theorem dX8_knockOf_2 : decode cX8_knockOf 2 = .ok (.invokevirtual 127, 3) := by decide +kernel
theorem dX8_knockOf_5 : decode cX8_knockOf 5 = .ok (.istore_n 2, 1) := by decide +kernel
theorem dX8_knockOf_6 : decode cX8_knockOf 6 = .ok (.iconst 0, 1) := by decide +kernel
theorem dX8_knockOf_7 : decode cX8_knockOf 7 = .ok (.istore_n 3, 1) := by decide +kernel
theorem dX8_knockOf_8 : decode cX8_knockOf 8 = .ok (.iconst 0, 1) := by decide +kernel
theorem dX8_knockOf_9 : decode cX8_knockOf 9 = .ok (.istore 4, 2) := by decide +kernel
theorem dX8_knockOf_11 : decode cX8_knockOf 11 = .ok (.iload 4, 2) := by decide +kernel
theorem dX8_knockOf_13 : decode cX8_knockOf 13 = .ok (.bipush 11, 2) := by decide +kernel
theorem dX8_knockOf_15 : decode cX8_knockOf 15 = .ok (.if_icmp .ge 17, 3) := by decide +kernel
theorem dX8_knockOf_18 : decode cX8_knockOf 18 = .ok (.aload_n 0, 1) := by decide +kernel
theorem dX8_knockOf_19 : decode cX8_knockOf 19 = .ok (.getfield 34, 3) := by decide +kernel
theorem dX8_knockOf_22 : decode cX8_knockOf 22 = .ok (.iload 4, 2) := by decide +kernel
theorem dX8_knockOf_24 : decode cX8_knockOf 24 = .ok (.iconst 0, 1) := by decide +kernel
theorem dX8_knockOf_25 : decode cX8_knockOf 25 = .ok (.iastore, 1) := by decide +kernel
theorem dX8_knockOf_26 : decode cX8_knockOf 26 = .ok (.iinc 4 1, 3) := by decide +kernel
theorem dX8_knockOf_29 : decode cX8_knockOf 29 = .ok (.goto (-18), 3) := by decide +kernel
theorem dX8_knockOf_32 : decode cX8_knockOf 32 = .ok (.iconst 0, 1) := by decide +kernel
theorem dX8_knockOf_33 : decode cX8_knockOf 33 = .ok (.istore 4, 2) := by decide +kernel
theorem dX8_knockOf_35 : decode cX8_knockOf 35 = .ok (.iload 4, 2) := by decide +kernel
theorem dX8_knockOf_37 : decode cX8_knockOf 37 = .ok (.bipush 10, 2) := by decide +kernel
theorem dX8_knockOf_39 : decode cX8_knockOf 39 = .ok (.if_icmp .ge 80, 3) := by decide +kernel
theorem dX8_knockOf_42 : decode cX8_knockOf 42 = .ok (.iload_n 2, 1) := by decide +kernel
theorem dX8_knockOf_43 : decode cX8_knockOf 43 = .ok (.iload 4, 2) := by decide +kernel
theorem dX8_knockOf_45 : decode cX8_knockOf 45 = .ok (.ishr, 1) := by decide +kernel
theorem dX8_knockOf_46 : decode cX8_knockOf 46 = .ok (.iconst 1, 1) := by decide +kernel
theorem dX8_knockOf_47 : decode cX8_knockOf 47 = .ok (.iand, 1) := by decide +kernel
theorem dX8_knockOf_48 : decode cX8_knockOf 48 = .ok (.iconst 1, 1) := by decide +kernel
theorem dX8_knockOf_49 : decode cX8_knockOf 49 = .ok (.if_icmp .ne 64, 3) := by decide +kernel
theorem dX8_knockOf_52 : decode cX8_knockOf 52 = .ok (.iinc 3 1, 3) := by decide +kernel
theorem dX8_knockOf_55 : decode cX8_knockOf 55 = .ok (.aload_n 0, 1) := by decide +kernel
theorem dX8_knockOf_56 : decode cX8_knockOf 56 = .ok (.invokevirtual 121, 3) := by decide +kernel
theorem dX8_knockOf_59 : decode cX8_knockOf 59 = .ok (.aload_n 0, 1) := by decide +kernel
theorem dX8_knockOf_60 : decode cX8_knockOf 60 = .ok (.getfield 22, 3) := by decide +kernel
theorem dX8_knockOf_63 : decode cX8_knockOf 63 = .ok (.iload_n 1, 1) := by decide +kernel
theorem dX8_knockOf_64 : decode cX8_knockOf 64 = .ok (.iload 4, 2) := by decide +kernel
theorem dX8_knockOf_66 : decode cX8_knockOf 66 = .ok (.iastore, 1) := by decide +kernel
theorem dX8_knockOf_67 : decode cX8_knockOf 67 = .ok (.iconst 1, 1) := by decide +kernel
theorem dX8_knockOf_68 : decode cX8_knockOf 68 = .ok (.istore 5, 2) := by decide +kernel
theorem dX8_knockOf_70 : decode cX8_knockOf 70 = .ok (.iload 5, 2) := by decide +kernel
theorem dX8_knockOf_72 : decode cX8_knockOf 72 = .ok (.bipush 11, 2) := by decide +kernel
theorem dX8_knockOf_74 : decode cX8_knockOf 74 = .ok (.if_icmp .ge 39, 3) := by decide +kernel
theorem dX8_knockOf_77 : decode cX8_knockOf 77 = .ok (.aload_n 0, 1) := by decide +kernel
theorem dX8_knockOf_78 : decode cX8_knockOf 78 = .ok (.invokevirtual 158, 3) := by decide +kernel
theorem dX8_knockOf_81 : decode cX8_knockOf 81 = .ok (.istore 6, 2) := by decide +kernel
theorem dX8_knockOf_83 : decode cX8_knockOf 83 = .ok (.aload_n 0, 1) := by decide +kernel
theorem dX8_knockOf_84 : decode cX8_knockOf 84 = .ok (.getfield 34, 3) := by decide +kernel
theorem dX8_knockOf_87 : decode cX8_knockOf 87 = .ok (.iload 5, 2) := by decide +kernel
theorem dX8_knockOf_89 : decode cX8_knockOf 89 = .ok (.dup2, 1) := by decide +kernel
theorem dX8_knockOf_90 : decode cX8_knockOf 90 = .ok (.iaload, 1) := by decide +kernel
theorem dX8_knockOf_91 : decode cX8_knockOf 91 = .ok (.aload_n 0, 1) := by decide +kernel
theorem dX8_knockOf_92 : decode cX8_knockOf 92 = .ok (.getfield 22, 3) := by decide +kernel
theorem dX8_knockOf_95 : decode cX8_knockOf 95 = .ok (.iload_n 1, 1) := by decide +kernel
theorem dX8_knockOf_96 : decode cX8_knockOf 96 = .ok (.iaload, 1) := by decide +kernel
theorem dX8_knockOf_97 : decode cX8_knockOf 97 = .ok (.ifCond .le 7, 3) := by decide +kernel
theorem dX8_knockOf_100 : decode cX8_knockOf 100 = .ok (.iconst 1, 1) := by decide +kernel
theorem dX8_knockOf_101 : decode cX8_knockOf 101 = .ok (.goto 4, 3) := by decide +kernel
theorem dX8_knockOf_104 : decode cX8_knockOf 104 = .ok (.iconst 0, 1) := by decide +kernel
theorem dX8_knockOf_105 : decode cX8_knockOf 105 = .ok (.iadd, 1) := by decide +kernel
theorem dX8_knockOf_106 : decode cX8_knockOf 106 = .ok (.iastore, 1) := by decide +kernel
theorem dX8_knockOf_107 : decode cX8_knockOf 107 = .ok (.iinc 5 1, 3) := by decide +kernel
theorem dX8_knockOf_110 : decode cX8_knockOf 110 = .ok (.goto (-40), 3) := by decide +kernel
theorem dX8_knockOf_113 : decode cX8_knockOf 113 = .ok (.iinc 4 1, 3) := by decide +kernel
theorem dX8_knockOf_116 : decode cX8_knockOf 116 = .ok (.goto (-81), 3) := by decide +kernel
theorem dX8_knockOf_119 : decode cX8_knockOf 119 = .ok (.iconst (-1), 1) := by decide +kernel
theorem dX8_knockOf_120 : decode cX8_knockOf 120 = .ok (.istore 4, 2) := by decide +kernel
theorem dX8_knockOf_122 : decode cX8_knockOf 122 = .ok (.bipush 11, 2) := by decide +kernel
theorem dX8_knockOf_124 : decode cX8_knockOf 124 = .ok (.istore 5, 2) := by decide +kernel
theorem dX8_knockOf_126 : decode cX8_knockOf 126 = .ok (.iconst 1, 1) := by decide +kernel
theorem dX8_knockOf_127 : decode cX8_knockOf 127 = .ok (.istore 6, 2) := by decide +kernel
theorem dX8_knockOf_129 : decode cX8_knockOf 129 = .ok (.iload 6, 2) := by decide +kernel
theorem dX8_knockOf_131 : decode cX8_knockOf 131 = .ok (.bipush 11, 2) := by decide +kernel
theorem dX8_knockOf_133 : decode cX8_knockOf 133 = .ok (.if_icmp .ge 85, 3) := by decide +kernel
theorem dX8_knockOf_136 : decode cX8_knockOf 136 = .ok (.iload_n 3, 1) := by decide +kernel
theorem dX8_knockOf_137 : decode cX8_knockOf 137 = .ok (.ifCond .le 81, 3) := by decide +kernel
theorem dX8_knockOf_140 : decode cX8_knockOf 140 = .ok (.aload_n 0, 1) := by decide +kernel
theorem dX8_knockOf_141 : decode cX8_knockOf 141 = .ok (.getfield 34, 3) := by decide +kernel
theorem dX8_knockOf_144 : decode cX8_knockOf 144 = .ok (.iload 6, 2) := by decide +kernel
theorem dX8_knockOf_146 : decode cX8_knockOf 146 = .ok (.iaload, 1) := by decide +kernel
theorem dX8_knockOf_147 : decode cX8_knockOf 147 = .ok (.iload_n 3, 1) := by decide +kernel
theorem dX8_knockOf_148 : decode cX8_knockOf 148 = .ok (.aload_n 0, 1) := by decide +kernel
theorem dX8_knockOf_149 : decode cX8_knockOf 149 = .ok (.getfield 34, 3) := by decide +kernel
theorem dX8_knockOf_152 : decode cX8_knockOf 152 = .ok (.iload 6, 2) := by decide +kernel
theorem dX8_knockOf_154 : decode cX8_knockOf 154 = .ok (.iaload, 1) := by decide +kernel
theorem dX8_knockOf_155 : decode cX8_knockOf 155 = .ok (.isub, 1) := by decide +kernel
theorem dX8_knockOf_156 : decode cX8_knockOf 156 = .ok (.if_icmp .le 13, 3) := by decide +kernel
theorem dX8_knockOf_159 : decode cX8_knockOf 159 = .ok (.aload_n 0, 1) := by decide +kernel
theorem dX8_knockOf_160 : decode cX8_knockOf 160 = .ok (.getfield 34, 3) := by decide +kernel
theorem dX8_knockOf_163 : decode cX8_knockOf 163 = .ok (.iload 6, 2) := by decide +kernel
theorem dX8_knockOf_165 : decode cX8_knockOf 165 = .ok (.iaload, 1) := by decide +kernel
theorem dX8_knockOf_166 : decode cX8_knockOf 166 = .ok (.goto 12, 3) := by decide +kernel
theorem dX8_knockOf_169 : decode cX8_knockOf 169 = .ok (.iload_n 3, 1) := by decide +kernel
theorem dX8_knockOf_170 : decode cX8_knockOf 170 = .ok (.aload_n 0, 1) := by decide +kernel
theorem dX8_knockOf_171 : decode cX8_knockOf 171 = .ok (.getfield 34, 3) := by decide +kernel
theorem dX8_knockOf_174 : decode cX8_knockOf 174 = .ok (.iload 6, 2) := by decide +kernel
theorem dX8_knockOf_176 : decode cX8_knockOf 176 = .ok (.iaload, 1) := by decide +kernel
theorem dX8_knockOf_177 : decode cX8_knockOf 177 = .ok (.isub, 1) := by decide +kernel
theorem dX8_knockOf_178 : decode cX8_knockOf 178 = .ok (.istore 7, 2) := by decide +kernel
theorem dX8_knockOf_180 : decode cX8_knockOf 180 = .ok (.iload 7, 2) := by decide +kernel
theorem dX8_knockOf_182 : decode cX8_knockOf 182 = .ok (.iload 5, 2) := by decide +kernel
theorem dX8_knockOf_184 : decode cX8_knockOf 184 = .ok (.if_icmp .ge 8, 3) := by decide +kernel
theorem dX8_knockOf_187 : decode cX8_knockOf 187 = .ok (.iload 6, 2) := by decide +kernel
theorem dX8_knockOf_189 : decode cX8_knockOf 189 = .ok (.goto 5, 3) := by decide +kernel
theorem dX8_knockOf_192 : decode cX8_knockOf 192 = .ok (.iload 4, 2) := by decide +kernel
theorem dX8_knockOf_194 : decode cX8_knockOf 194 = .ok (.istore 4, 2) := by decide +kernel
theorem dX8_knockOf_196 : decode cX8_knockOf 196 = .ok (.iload 7, 2) := by decide +kernel
theorem dX8_knockOf_198 : decode cX8_knockOf 198 = .ok (.iload 5, 2) := by decide +kernel
theorem dX8_knockOf_200 : decode cX8_knockOf 200 = .ok (.if_icmp .ge 8, 3) := by decide +kernel
theorem dX8_knockOf_203 : decode cX8_knockOf 203 = .ok (.iload 7, 2) := by decide +kernel
theorem dX8_knockOf_205 : decode cX8_knockOf 205 = .ok (.goto 5, 3) := by decide +kernel
theorem dX8_knockOf_208 : decode cX8_knockOf 208 = .ok (.iload 5, 2) := by decide +kernel
theorem dX8_knockOf_210 : decode cX8_knockOf 210 = .ok (.istore 5, 2) := by decide +kernel
theorem dX8_knockOf_212 : decode cX8_knockOf 212 = .ok (.iinc 6 1, 3) := by decide +kernel
theorem dX8_knockOf_215 : decode cX8_knockOf 215 = .ok (.goto (-86), 3) := by decide +kernel
theorem dX8_knockOf_218 : decode cX8_knockOf 218 = .ok (.iload 4, 2) := by decide +kernel
theorem dX8_knockOf_220 : decode cX8_knockOf 220 = .ok (.ireturn, 1) := by decide +kernel
theorem dX8_draw_0 : decode cX8_draw 0 = .ok (.aload_n 0, 1) := by decide +kernel
theorem dX8_draw_1 : decode cX8_draw 1 = .ok (.ldc2_w 196, 3) := by decide +kernel
theorem dX8_draw_4 : decode cX8_draw 4 = .ok (.aload_n 0, 1) := by decide +kernel
theorem dX8_draw_5 : decode cX8_draw 5 = .ok (.getfield 198, 3) := by decide +kernel
theorem dX8_draw_8 : decode cX8_draw 8 = .ok (.i2l, 1) := by decide +kernel
theorem dX8_draw_9 : decode cX8_draw 9 = .ok (.lmul, 1) := by decide +kernel
theorem dX8_draw_10 : decode cX8_draw 10 = .ok (.ldc2_w 201, 3) := by decide +kernel
theorem dX8_draw_13 : decode cX8_draw 13 = .ok (.ladd, 1) := by decide +kernel
theorem dX8_draw_14 : decode cX8_draw 14 = .ok (.ldc2_w 203, 3) := by decide +kernel
theorem dX8_draw_17 : decode cX8_draw 17 = .ok (.land, 1) := by decide +kernel
theorem dX8_draw_18 : decode cX8_draw 18 = .ok (.l2i, 1) := by decide +kernel
theorem dX8_draw_19 : decode cX8_draw 19 = .ok (.putfield 198, 3) := by decide +kernel
theorem dX8_draw_22 : decode cX8_draw 22 = .ok (.aload_n 0, 1) := by decide +kernel
theorem dX8_draw_23 : decode cX8_draw 23 = .ok (.getfield 198, 3) := by decide +kernel
theorem dX8_draw_26 : decode cX8_draw 26 = .ok (.ldc 205, 2) := by decide +kernel
theorem dX8_draw_28 : decode cX8_draw 28 = .ok (.idiv, 1) := by decide +kernel
theorem dX8_draw_29 : decode cX8_draw 29 = .ok (.iload_n 1, 1) := by decide +kernel
theorem dX8_draw_30 : decode cX8_draw 30 = .ok (.irem, 1) := by decide +kernel
theorem dX8_draw_31 : decode cX8_draw 31 = .ok (.ireturn, 1) := by decide +kernel
theorem dX8_years_0 : decode cX8_years 0 = .ok (.iload_n 1, 1) := by decide +kernel
theorem dX8_years_1 : decode cX8_years 1 = .ok (.i2l, 1) := by decide +kernel
theorem dX8_years_2 : decode cX8_years 2 = .ok (.lconst 1, 1) := by decide +kernel
theorem dX8_years_3 : decode cX8_years 3 = .ok (.ldc2_w 206, 3) := by decide +kernel
theorem dX8_years_6 : decode cX8_years 6 = .ok (.invokestatic 52, 3) := by decide +kernel
theorem dX8_years_9 : decode cX8_years 9 = .ok (.ifCond .eq 19, 3) := by decide +kernel
theorem dX8_years_12 : decode cX8_years 12 = .ok (.iload_n 2, 1) := by decide +kernel
theorem dX8_years_13 : decode cX8_years 13 = .ok (.ifCond .lt 15, 3) := by decide +kernel
theorem dX8_years_16 : decode cX8_years 16 = .ok (.iload_n 3, 1) := by decide +kernel
theorem dX8_years_17 : decode cX8_years 17 = .ok (.i2l, 1) := by decide +kernel
theorem dX8_years_18 : decode cX8_years 18 = .ok (.lconst 0, 1) := by decide +kernel
theorem dX8_years_19 : decode cX8_years 19 = .ok (.ldc2_w 208, 3) := by decide +kernel
theorem dX8_years_22 : decode cX8_years 22 = .ok (.invokestatic 52, 3) := by decide +kernel
theorem dX8_years_25 : decode cX8_years 25 = .ok (.ifCond .ne 6, 3) := by decide +kernel
theorem dX8_years_28 : decode cX8_years 28 = .ok (.bipush (-102), 2) := by decide +kernel
theorem dX8_years_30 : decode cX8_years 30 = .ok (.ireturn, 1) := by decide +kernel
theorem dX8_years_31 : decode cX8_years 31 = .ok (.aload_n 0, 1) := by decide +kernel
theorem dX8_years_32 : decode cX8_years 32 = .ok (.getfield 84, 3) := by decide +kernel
theorem dX8_years_35 : decode cX8_years 35 = .ok (.ifCond .ne 6, 3) := by decide +kernel
theorem dX8_years_38 : decode cX8_years 38 = .ok (.bipush (-103), 2) := by decide +kernel
theorem dX8_years_40 : decode cX8_years 40 = .ok (.ireturn, 1) := by decide +kernel
theorem dX8_years_41 : decode cX8_years 41 = .ok (.aload_n 0, 1) := by decide +kernel
theorem dX8_years_42 : decode cX8_years 42 = .ok (.invokevirtual 121, 3) := by decide +kernel
theorem dX8_years_45 : decode cX8_years 45 = .ok (.aload_n 0, 1) := by decide +kernel
theorem dX8_years_46 : decode cX8_years 46 = .ok (.iload_n 2, 1) := by decide +kernel
theorem dX8_years_47 : decode cX8_years 47 = .ok (.putfield 198, 3) := by decide +kernel
theorem dX8_years_50 : decode cX8_years 50 = .ok (.iconst 0, 1) := by decide +kernel
theorem dX8_years_51 : decode cX8_years 51 = .ok (.istore 4, 2) := by decide +kernel
theorem dX8_years_53 : decode cX8_years 53 = .ok (.iconst 0, 1) := by decide +kernel
theorem dX8_years_54 : decode cX8_years 54 = .ok (.istore 5, 2) := by decide +kernel
theorem dX8_years_56 : decode cX8_years 56 = .ok (.iload 5, 2) := by decide +kernel
theorem dX8_years_58 : decode cX8_years 58 = .ok (.iload_n 1, 1) := by decide +kernel
theorem dX8_years_59 : decode cX8_years 59 = .ok (.if_icmp .ge 74, 3) := by decide +kernel
theorem dX8_years_62 : decode cX8_years 62 = .ok (.aload_n 0, 1) := by decide +kernel
theorem dX8_years_63 : decode cX8_years 63 = .ok (.aload_n 0, 1) := by decide +kernel
theorem dX8_years_64 : decode cX8_years 64 = .ok (.getfield 84, 3) := by decide +kernel
theorem dX8_years_67 : decode cX8_years 67 = .ok (.invokevirtual 210, 3) := by decide +kernel
theorem dX8_years_70 : decode cX8_years 70 = .ok (.istore 6, 2) := by decide +kernel
theorem dX8_years_72 : decode cX8_years 72 = .ok (.aload_n 0, 1) := by decide +kernel
theorem dX8_years_73 : decode cX8_years 73 = .ok (.bipush 6, 2) := by decide +kernel
theorem dX8_years_75 : decode cX8_years 75 = .ok (.invokevirtual 210, 3) := by decide +kernel
theorem dX8_years_78 : decode cX8_years 78 = .ok (.istore 7, 2) := by decide +kernel
theorem dX8_years_80 : decode cX8_years 80 = .ok (.aload_n 0, 1) := by decide +kernel
theorem dX8_years_81 : decode cX8_years 81 = .ok (.getfield 19, 3) := by decide +kernel
theorem dX8_years_84 : decode cX8_years 84 = .ok (.iload 6, 2) := by decide +kernel
theorem dX8_years_86 : decode cX8_years 86 = .ok (.aload_n 0, 1) := by decide +kernel
theorem dX8_years_87 : decode cX8_years 87 = .ok (.getfield 22, 3) := by decide +kernel
theorem dX8_years_90 : decode cX8_years 90 = .ok (.iload 7, 2) := by decide +kernel
theorem dX8_years_92 : decode cX8_years 92 = .ok (.iaload, 1) := by decide +kernel
theorem dX8_years_93 : decode cX8_years 93 = .ok (.ifCond .le 17, 3) := by decide +kernel
theorem dX8_years_96 : decode cX8_years 96 = .ok (.aload_n 0, 1) := by decide +kernel
theorem dX8_years_97 : decode cX8_years 97 = .ok (.iload 6, 2) := by decide +kernel
theorem dX8_years_99 : decode cX8_years 99 = .ok (.invokevirtual 146, 3) := by decide +kernel
theorem dX8_years_102 : decode cX8_years 102 = .ok (.ifCond .ne 8, 3) := by decide +kernel
theorem dX8_years_105 : decode cX8_years 105 = .ok (.iload 7, 2) := by decide +kernel
theorem dX8_years_107 : decode cX8_years 107 = .ok (.goto 10, 3) := by decide +kernel
theorem dX8_years_110 : decode cX8_years 110 = .ok (.aload_n 0, 1) := by decide +kernel
theorem dX8_years_111 : decode cX8_years 111 = .ok (.getfield 19, 3) := by decide +kernel
theorem dX8_years_114 : decode cX8_years 114 = .ok (.iload 6, 2) := by decide +kernel
theorem dX8_years_116 : decode cX8_years 116 = .ok (.iaload, 1) := by decide +kernel
theorem dX8_years_117 : decode cX8_years 117 = .ok (.iastore, 1) := by decide +kernel
theorem dX8_years_118 : decode cX8_years 118 = .ok (.iload 4, 2) := by decide +kernel
theorem dX8_years_120 : decode cX8_years 120 = .ok (.aload_n 0, 1) := by decide +kernel
theorem dX8_years_121 : decode cX8_years 121 = .ok (.invokevirtual 158, 3) := by decide +kernel
theorem dX8_years_124 : decode cX8_years 124 = .ok (.iadd, 1) := by decide +kernel
theorem dX8_years_125 : decode cX8_years 125 = .ok (.istore 4, 2) := by decide +kernel
theorem dX8_years_127 : decode cX8_years 127 = .ok (.iinc 5 1, 3) := by decide +kernel
theorem dX8_years_130 : decode cX8_years 130 = .ok (.goto (-74), 3) := by decide +kernel
theorem dX8_years_133 : decode cX8_years 133 = .ok (.aload_n 0, 1) := by decide +kernel
theorem dX8_years_134 : decode cX8_years 134 = .ok (.invokevirtual 149, 3) := by decide +kernel
theorem dX8_years_137 : decode cX8_years 137 = .ok (.istore 5, 2) := by decide +kernel
theorem dX8_years_139 : decode cX8_years 139 = .ok (.iconst 0, 1) := by decide +kernel
theorem dX8_years_140 : decode cX8_years 140 = .ok (.istore 6, 2) := by decide +kernel
theorem dX8_years_142 : decode cX8_years 142 = .ok (.iconst 0, 1) := by decide +kernel
theorem dX8_years_143 : decode cX8_years 143 = .ok (.istore 7, 2) := by decide +kernel
theorem dX8_years_145 : decode cX8_years 145 = .ok (.iload 7, 2) := by decide +kernel
theorem dX8_years_147 : decode cX8_years 147 = .ok (.aload_n 0, 1) := by decide +kernel
theorem dX8_years_148 : decode cX8_years 148 = .ok (.getfield 84, 3) := by decide +kernel
theorem dX8_years_151 : decode cX8_years 151 = .ok (.if_icmp .ge 21, 3) := by decide +kernel
theorem dX8_years_154 : decode cX8_years 154 = .ok (.iload 6, 2) := by decide +kernel
theorem dX8_years_156 : decode cX8_years 156 = .ok (.iload 5, 2) := by decide +kernel
theorem dX8_years_158 : decode cX8_years 158 = .ok (.iload 7, 2) := by decide +kernel
theorem dX8_years_160 : decode cX8_years 160 = .ok (.ishr, 1) := by decide +kernel
theorem dX8_years_161 : decode cX8_years 161 = .ok (.iconst 1, 1) := by decide +kernel
theorem dX8_years_162 : decode cX8_years 162 = .ok (.iand, 1) := by decide +kernel
theorem dX8_years_163 : decode cX8_years 163 = .ok (.iadd, 1) := by decide +kernel
theorem dX8_years_164 : decode cX8_years 164 = .ok (.istore 6, 2) := by decide +kernel
theorem dX8_years_166 : decode cX8_years 166 = .ok (.iinc 7 1, 3) := by decide +kernel
theorem dX8_years_169 : decode cX8_years 169 = .ok (.goto (-24), 3) := by decide +kernel
theorem dX8_years_172 : decode cX8_years 172 = .ok (.iload_n 3, 1) := by decide +kernel
theorem dX8_years_173 : decode cX8_years 173 = .ok (.ifCond .ne 8, 3) := by decide +kernel
theorem dX8_years_176 : decode cX8_years 176 = .ok (.iload 4, 2) := by decide +kernel
theorem dX8_years_178 : decode cX8_years 178 = .ok (.goto 17, 3) := by decide +kernel
theorem dX8_years_181 : decode cX8_years 181 = .ok (.iload_n 3, 1) := by decide +kernel
theorem dX8_years_182 : decode cX8_years 182 = .ok (.iconst 1, 1) := by decide +kernel
theorem dX8_years_183 : decode cX8_years 183 = .ok (.if_icmp .ne 8, 3) := by decide +kernel
theorem dX8_years_186 : decode cX8_years 186 = .ok (.iload 6, 2) := by decide +kernel
theorem dX8_years_188 : decode cX8_years 188 = .ok (.goto 7, 3) := by decide +kernel
theorem dX8_years_191 : decode cX8_years 191 = .ok (.aload_n 0, 1) := by decide +kernel
theorem dX8_years_192 : decode cX8_years 192 = .ok (.getfield 198, 3) := by decide +kernel
theorem dX8_years_195 : decode cX8_years 195 = .ok (.ireturn, 1) := by decide +kernel
theorem dX8_image_0 : decode cX8_image 0 = .ok (.aload_n 0, 1) := by decide +kernel
theorem dX8_image_1 : decode cX8_image 1 = .ok (.invokevirtual 96, 3) := by decide +kernel
theorem dX8_image_4 : decode cX8_image 4 = .ok (.ifCond .eq 6, 3) := by decide +kernel
theorem dX8_image_7 : decode cX8_image 7 = .ok (.bipush (-103), 2) := by decide +kernel
theorem dX8_image_9 : decode cX8_image 9 = .ok (.ireturn, 1) := by decide +kernel
theorem dX8_image_10 : decode cX8_image 10 = .ok (.aload_n 0, 1) := by decide +kernel
theorem dX8_image_11 : decode cX8_image 11 = .ok (.getfield 13, 3) := by decide +kernel
theorem dX8_image_14 : decode cX8_image 14 = .ok (.aload_n 0, 1) := by decide +kernel
theorem dX8_image_15 : decode cX8_image 15 = .ok (.getfield 37, 3) := by decide +kernel
theorem dX8_image_18 : decode cX8_image 18 = .ok (.invokestatic 102, 3) := by decide +kernel
theorem dX8_image_21 : decode cX8_image 21 = .ok (.aload_n 0, 1) := by decide +kernel
theorem dX8_image_22 : decode cX8_image 22 = .ok (.getfield 16, 3) := by decide +kernel
theorem dX8_image_25 : decode cX8_image 25 = .ok (.aload_n 0, 1) := by decide +kernel
theorem dX8_image_26 : decode cX8_image 26 = .ok (.getfield 40, 3) := by decide +kernel
theorem dX8_image_29 : decode cX8_image 29 = .ok (.invokestatic 102, 3) := by decide +kernel
theorem dX8_image_32 : decode cX8_image 32 = .ok (.aload_n 0, 1) := by decide +kernel
theorem dX8_image_33 : decode cX8_image 33 = .ok (.getfield 31, 3) := by decide +kernel
theorem dX8_image_36 : decode cX8_image 36 = .ok (.aload_n 0, 1) := by decide +kernel
theorem dX8_image_37 : decode cX8_image 37 = .ok (.getfield 43, 3) := by decide +kernel
theorem dX8_image_40 : decode cX8_image 40 = .ok (.invokestatic 102, 3) := by decide +kernel
theorem dX8_image_43 : decode cX8_image 43 = .ok (.aload_n 0, 1) := by decide +kernel
theorem dX8_image_44 : decode cX8_image 44 = .ok (.aload_n 0, 1) := by decide +kernel
theorem dX8_image_45 : decode cX8_image 45 = .ok (.getfield 84, 3) := by decide +kernel
theorem dX8_image_48 : decode cX8_image 48 = .ok (.putfield 213, 3) := by decide +kernel
theorem dX8_image_51 : decode cX8_image 51 = .ok (.aload_n 0, 1) := by decide +kernel
theorem dX8_image_52 : decode cX8_image 52 = .ok (.aload_n 0, 1) := by decide +kernel
theorem dX8_image_53 : decode cX8_image 53 = .ok (.getfield 75, 3) := by decide +kernel
theorem dX8_image_56 : decode cX8_image 56 = .ok (.putfield 216, 3) := by decide +kernel
theorem dX8_image_59 : decode cX8_image 59 = .ok (.aload_n 0, 1) := by decide +kernel
theorem dX8_image_60 : decode cX8_image 60 = .ok (.aload_n 0, 1) := by decide +kernel
theorem dX8_image_61 : decode cX8_image 61 = .ok (.getfield 78, 3) := by decide +kernel
theorem dX8_image_64 : decode cX8_image 64 = .ok (.putfield 219, 3) := by decide +kernel
theorem dX8_image_67 : decode cX8_image 67 = .ok (.aload_n 0, 1) := by decide +kernel
theorem dX8_image_68 : decode cX8_image 68 = .ok (.aload_n 0, 1) := by decide +kernel
theorem dX8_image_69 : decode cX8_image 69 = .ok (.getfield 81, 3) := by decide +kernel
theorem dX8_image_72 : decode cX8_image 72 = .ok (.putfield 222, 3) := by decide +kernel
theorem dX8_image_75 : decode cX8_image 75 = .ok (.aload_n 0, 1) := by decide +kernel
theorem dX8_image_76 : decode cX8_image 76 = .ok (.aload_n 0, 1) := by decide +kernel
theorem dX8_image_77 : decode cX8_image 77 = .ok (.getfield 87, 3) := by decide +kernel
theorem dX8_image_80 : decode cX8_image 80 = .ok (.putfield 225, 3) := by decide +kernel
theorem dX8_image_83 : decode cX8_image 83 = .ok (.aload_n 0, 1) := by decide +kernel
theorem dX8_image_84 : decode cX8_image 84 = .ok (.aload_n 0, 1) := by decide +kernel
theorem dX8_image_85 : decode cX8_image 85 = .ok (.getfield 90, 3) := by decide +kernel
theorem dX8_image_88 : decode cX8_image 88 = .ok (.putfield 46, 3) := by decide +kernel
theorem dX8_image_91 : decode cX8_image 91 = .ok (.aload_n 0, 1) := by decide +kernel
theorem dX8_image_92 : decode cX8_image 92 = .ok (.getfield 75, 3) := by decide +kernel
theorem dX8_image_95 : decode cX8_image 95 = .ok (.ireturn, 1) := by decide +kernel
theorem dX8_restore_0 : decode cX8_restore 0 = .ok (.aload_n 0, 1) := by decide +kernel
theorem dX8_restore_1 : decode cX8_restore 1 = .ok (.getfield 46, 3) := by decide +kernel
theorem dX8_restore_4 : decode cX8_restore 4 = .ok (.aload_n 0, 1) := by decide +kernel
theorem dX8_restore_5 : decode cX8_restore 5 = .ok (.getfield 90, 3) := by decide +kernel
theorem dX8_restore_8 : decode cX8_restore 8 = .ok (.if_icmp .eq 6, 3) := by decide +kernel
theorem dX8_restore_11 : decode cX8_restore 11 = .ok (.bipush (-103), 2) := by decide +kernel
theorem dX8_restore_13 : decode cX8_restore 13 = .ok (.ireturn, 1) := by decide +kernel
theorem dX8_restore_14 : decode cX8_restore 14 = .ok (.aload_n 0, 1) := by decide +kernel
theorem dX8_restore_15 : decode cX8_restore 15 = .ok (.getfield 37, 3) := by decide +kernel
theorem dX8_restore_18 : decode cX8_restore 18 = .ok (.aload_n 0, 1) := by decide +kernel
theorem dX8_restore_19 : decode cX8_restore 19 = .ok (.getfield 13, 3) := by decide +kernel
theorem dX8_restore_22 : decode cX8_restore 22 = .ok (.invokestatic 102, 3) := by decide +kernel
theorem dX8_restore_25 : decode cX8_restore 25 = .ok (.aload_n 0, 1) := by decide +kernel
theorem dX8_restore_26 : decode cX8_restore 26 = .ok (.getfield 40, 3) := by decide +kernel
theorem dX8_restore_29 : decode cX8_restore 29 = .ok (.aload_n 0, 1) := by decide +kernel
theorem dX8_restore_30 : decode cX8_restore 30 = .ok (.getfield 16, 3) := by decide +kernel
theorem dX8_restore_33 : decode cX8_restore 33 = .ok (.invokestatic 102, 3) := by decide +kernel
theorem dX8_restore_36 : decode cX8_restore 36 = .ok (.aload_n 0, 1) := by decide +kernel
theorem dX8_restore_37 : decode cX8_restore 37 = .ok (.getfield 43, 3) := by decide +kernel
theorem dX8_restore_40 : decode cX8_restore 40 = .ok (.aload_n 0, 1) := by decide +kernel
theorem dX8_restore_41 : decode cX8_restore 41 = .ok (.getfield 31, 3) := by decide +kernel
theorem dX8_restore_44 : decode cX8_restore 44 = .ok (.invokestatic 102, 3) := by decide +kernel
theorem dX8_restore_47 : decode cX8_restore 47 = .ok (.aload_n 0, 1) := by decide +kernel
theorem dX8_restore_48 : decode cX8_restore 48 = .ok (.aload_n 0, 1) := by decide +kernel
theorem dX8_restore_49 : decode cX8_restore 49 = .ok (.getfield 213, 3) := by decide +kernel
theorem dX8_restore_52 : decode cX8_restore 52 = .ok (.putfield 84, 3) := by decide +kernel
theorem dX8_restore_55 : decode cX8_restore 55 = .ok (.aload_n 0, 1) := by decide +kernel
theorem dX8_restore_56 : decode cX8_restore 56 = .ok (.aload_n 0, 1) := by decide +kernel
theorem dX8_restore_57 : decode cX8_restore 57 = .ok (.getfield 216, 3) := by decide +kernel
theorem dX8_restore_60 : decode cX8_restore 60 = .ok (.putfield 75, 3) := by decide +kernel
theorem dX8_restore_63 : decode cX8_restore 63 = .ok (.aload_n 0, 1) := by decide +kernel
theorem dX8_restore_64 : decode cX8_restore 64 = .ok (.aload_n 0, 1) := by decide +kernel
theorem dX8_restore_65 : decode cX8_restore 65 = .ok (.getfield 219, 3) := by decide +kernel
theorem dX8_restore_68 : decode cX8_restore 68 = .ok (.putfield 78, 3) := by decide +kernel
theorem dX8_restore_71 : decode cX8_restore 71 = .ok (.aload_n 0, 1) := by decide +kernel
theorem dX8_restore_72 : decode cX8_restore 72 = .ok (.aload_n 0, 1) := by decide +kernel
theorem dX8_restore_73 : decode cX8_restore 73 = .ok (.getfield 222, 3) := by decide +kernel
theorem dX8_restore_76 : decode cX8_restore 76 = .ok (.putfield 81, 3) := by decide +kernel
theorem dX8_restore_79 : decode cX8_restore 79 = .ok (.aload_n 0, 1) := by decide +kernel
theorem dX8_restore_80 : decode cX8_restore 80 = .ok (.aload_n 0, 1) := by decide +kernel
theorem dX8_restore_81 : decode cX8_restore 81 = .ok (.getfield 225, 3) := by decide +kernel
theorem dX8_restore_84 : decode cX8_restore 84 = .ok (.putfield 87, 3) := by decide +kernel
theorem dX8_restore_87 : decode cX8_restore 87 = .ok (.aload_n 0, 1) := by decide +kernel
theorem dX8_restore_88 : decode cX8_restore 88 = .ok (.getfield 75, 3) := by decide +kernel
theorem dX8_restore_91 : decode cX8_restore 91 = .ok (.ireturn, 1) := by decide +kernel
theorem dX8_sumBy_0 : decode cX8_sumBy 0 = .ok (.iconst 0, 1) := by decide +kernel
theorem dX8_sumBy_1 : decode cX8_sumBy 1 = .ok (.istore_n 2, 1) := by decide +kernel
theorem dX8_sumBy_2 : decode cX8_sumBy 2 = .ok (.iconst 0, 1) := by decide +kernel
theorem dX8_sumBy_3 : decode cX8_sumBy 3 = .ok (.istore_n 3, 1) := by decide +kernel
theorem dX8_sumBy_4 : decode cX8_sumBy 4 = .ok (.iload_n 3, 1) := by decide +kernel
theorem dX8_sumBy_5 : decode cX8_sumBy 5 = .ok (.aload_n 0, 1) := by decide +kernel
theorem dX8_sumBy_6 : decode cX8_sumBy 6 = .ok (.getfield 84, 3) := by decide +kernel
theorem dX8_sumBy_9 : decode cX8_sumBy 9 = .ok (.if_icmp .ge 18, 3) := by decide +kernel
theorem dX8_sumBy_12 : decode cX8_sumBy 12 = .ok (.iload_n 2, 1) := by decide +kernel
theorem dX8_sumBy_13 : decode cX8_sumBy 13 = .ok (.aload_n 0, 1) := by decide +kernel
theorem dX8_sumBy_14 : decode cX8_sumBy 14 = .ok (.iload_n 3, 1) := by decide +kernel
theorem dX8_sumBy_15 : decode cX8_sumBy 15 = .ok (.iload_n 1, 1) := by decide +kernel
theorem dX8_sumBy_16 : decode cX8_sumBy 16 = .ok (.invokevirtual 155, 3) := by decide +kernel
theorem dX8_sumBy_19 : decode cX8_sumBy 19 = .ok (.iadd, 1) := by decide +kernel
theorem dX8_sumBy_20 : decode cX8_sumBy 20 = .ok (.istore_n 2, 1) := by decide +kernel
theorem dX8_sumBy_21 : decode cX8_sumBy 21 = .ok (.iinc 3 1, 3) := by decide +kernel
theorem dX8_sumBy_24 : decode cX8_sumBy 24 = .ok (.goto (-20), 3) := by decide +kernel
theorem dX8_sumBy_27 : decode cX8_sumBy 27 = .ok (.iload_n 2, 1) := by decide +kernel
theorem dX8_sumBy_28 : decode cX8_sumBy 28 = .ok (.ireturn, 1) := by decide +kernel
theorem dX8_countOf_0 : decode cX8_countOf 0 = .ok (.iload_n 1, 1) := by decide +kernel
theorem dX8_countOf_1 : decode cX8_countOf 1 = .ok (.tableswitch 134 0 12 #[67, 72, 77, 82, 87, 93, 99, 104, 109, 114, 119, 124, 129], 67) := by decide +kernel
theorem dX8_countOf_68 : decode cX8_countOf 68 = .ok (.aload_n 0, 1) := by decide +kernel
theorem dX8_countOf_69 : decode cX8_countOf 69 = .ok (.invokevirtual 93, 3) := by decide +kernel
theorem dX8_countOf_72 : decode cX8_countOf 72 = .ok (.ireturn, 1) := by decide +kernel
theorem dX8_countOf_73 : decode cX8_countOf 73 = .ok (.aload_n 0, 1) := by decide +kernel
theorem dX8_countOf_74 : decode cX8_countOf 74 = .ok (.getfield 69, 3) := by decide +kernel
theorem dX8_countOf_77 : decode cX8_countOf 77 = .ok (.ireturn, 1) := by decide +kernel
theorem dX8_countOf_78 : decode cX8_countOf 78 = .ok (.aload_n 0, 1) := by decide +kernel
theorem dX8_countOf_79 : decode cX8_countOf 79 = .ok (.getfield 72, 3) := by decide +kernel
theorem dX8_countOf_82 : decode cX8_countOf 82 = .ok (.ireturn, 1) := by decide +kernel
theorem dX8_countOf_83 : decode cX8_countOf 83 = .ok (.aload_n 0, 1) := by decide +kernel
theorem dX8_countOf_84 : decode cX8_countOf 84 = .ok (.getfield 84, 3) := by decide +kernel
theorem dX8_countOf_87 : decode cX8_countOf 87 = .ok (.ireturn, 1) := by decide +kernel
theorem dX8_countOf_88 : decode cX8_countOf 88 = .ok (.aload_n 0, 1) := by decide +kernel
theorem dX8_countOf_89 : decode cX8_countOf 89 = .ok (.iconst 4, 1) := by decide +kernel
theorem dX8_countOf_90 : decode cX8_countOf 90 = .ok (.invokevirtual 228, 3) := by decide +kernel
theorem dX8_countOf_93 : decode cX8_countOf 93 = .ok (.ireturn, 1) := by decide +kernel
theorem dX8_countOf_94 : decode cX8_countOf 94 = .ok (.aload_n 0, 1) := by decide +kernel
theorem dX8_countOf_95 : decode cX8_countOf 95 = .ok (.iconst 5, 1) := by decide +kernel
theorem dX8_countOf_96 : decode cX8_countOf 96 = .ok (.invokevirtual 228, 3) := by decide +kernel
theorem dX8_countOf_99 : decode cX8_countOf 99 = .ok (.ireturn, 1) := by decide +kernel
theorem dX8_countOf_100 : decode cX8_countOf 100 = .ok (.aload_n 0, 1) := by decide +kernel
theorem dX8_countOf_101 : decode cX8_countOf 101 = .ok (.getfield 75, 3) := by decide +kernel
theorem dX8_countOf_104 : decode cX8_countOf 104 = .ok (.ireturn, 1) := by decide +kernel
theorem dX8_countOf_105 : decode cX8_countOf 105 = .ok (.aload_n 0, 1) := by decide +kernel
theorem dX8_countOf_106 : decode cX8_countOf 106 = .ok (.getfield 78, 3) := by decide +kernel
theorem dX8_countOf_109 : decode cX8_countOf 109 = .ok (.ireturn, 1) := by decide +kernel
theorem dX8_countOf_110 : decode cX8_countOf 110 = .ok (.aload_n 0, 1) := by decide +kernel
theorem dX8_countOf_111 : decode cX8_countOf 111 = .ok (.getfield 81, 3) := by decide +kernel
theorem dX8_countOf_114 : decode cX8_countOf 114 = .ok (.ireturn, 1) := by decide +kernel
theorem dX8_countOf_115 : decode cX8_countOf 115 = .ok (.aload_n 0, 1) := by decide +kernel
theorem dX8_countOf_116 : decode cX8_countOf 116 = .ok (.getfield 87, 3) := by decide +kernel
theorem dX8_countOf_119 : decode cX8_countOf 119 = .ok (.ireturn, 1) := by decide +kernel
theorem dX8_countOf_120 : decode cX8_countOf 120 = .ok (.aload_n 0, 1) := by decide +kernel
theorem dX8_countOf_121 : decode cX8_countOf 121 = .ok (.getfield 56, 3) := by decide +kernel
theorem dX8_countOf_124 : decode cX8_countOf 124 = .ok (.ireturn, 1) := by decide +kernel
theorem dX8_countOf_125 : decode cX8_countOf 125 = .ok (.aload_n 0, 1) := by decide +kernel
theorem dX8_countOf_126 : decode cX8_countOf 126 = .ok (.getfield 90, 3) := by decide +kernel
theorem dX8_countOf_129 : decode cX8_countOf 129 = .ok (.ireturn, 1) := by decide +kernel
theorem dX8_countOf_130 : decode cX8_countOf 130 = .ok (.aload_n 0, 1) := by decide +kernel
theorem dX8_countOf_131 : decode cX8_countOf 131 = .ok (.getfield 174, 3) := by decide +kernel
theorem dX8_countOf_134 : decode cX8_countOf 134 = .ok (.ireturn, 1) := by decide +kernel
theorem dX8_countOf_135 : decode cX8_countOf 135 = .ok (.bipush (-102), 2) := by decide +kernel
theorem dX8_countOf_137 : decode cX8_countOf 137 = .ok (.ireturn, 1) := by decide +kernel
theorem dX8_count_0 : decode cX8_count 0 = .ok (.aload_n 0, 1) := by decide +kernel
theorem dX8_count_1 : decode cX8_count 1 = .ok (.iload_n 1, 1) := by decide +kernel
theorem dX8_count_2 : decode cX8_count 2 = .ok (.invokevirtual 231, 3) := by decide +kernel
theorem dX8_count_5 : decode cX8_count 5 = .ok (.ireturn, 1) := by decide +kernel
theorem dX8_say_0 : decode cX8_say 0 = .ok (.aload_n 0, 1) := by decide +kernel
theorem dX8_say_1 : decode cX8_say 1 = .ok (.ldc2_w 234, 3) := by decide +kernel
theorem dX8_say_4 : decode cX8_say 4 = .ok (.aload_n 0, 1) := by decide +kernel
theorem dX8_say_5 : decode cX8_say 5 = .ok (.getfield 236, 3) := by decide +kernel
theorem dX8_say_8 : decode cX8_say 8 = .ok (.lmul, 1) := by decide +kernel
theorem dX8_say_9 : decode cX8_say 9 = .ok (.lload_n 1, 1) := by decide +kernel
theorem dX8_say_10 : decode cX8_say 10 = .ok (.ladd, 1) := by decide +kernel
theorem dX8_say_11 : decode cX8_say 11 = .ok (.putfield 236, 3) := by decide +kernel
theorem dX8_say_14 : decode cX8_say 14 = .ok (.return_, 1) := by decide +kernel
theorem dX8_sayGallery_0 : decode cX8_sayGallery 0 = .ok (.aload_n 0, 1) := by decide +kernel
theorem dX8_sayGallery_1 : decode cX8_sayGallery 1 = .ok (.aload_n 0, 1) := by decide +kernel
theorem dX8_sayGallery_2 : decode cX8_sayGallery 2 = .ok (.invokevirtual 164, 3) := by decide +kernel
theorem dX8_sayGallery_5 : decode cX8_sayGallery 5 = .ok (.i2l, 1) := by decide +kernel
theorem dX8_sayGallery_6 : decode cX8_sayGallery 6 = .ok (.invokevirtual 240, 3) := by decide +kernel
theorem dX8_sayGallery_9 : decode cX8_sayGallery 9 = .ok (.aload_n 0, 1) := by decide +kernel
theorem dX8_sayGallery_10 : decode cX8_sayGallery 10 = .ok (.aload_n 0, 1) := by decide +kernel
theorem dX8_sayGallery_11 : decode cX8_sayGallery 11 = .ok (.invokevirtual 190, 3) := by decide +kernel
theorem dX8_sayGallery_14 : decode cX8_sayGallery 14 = .ok (.i2l, 1) := by decide +kernel
theorem dX8_sayGallery_15 : decode cX8_sayGallery 15 = .ok (.invokevirtual 240, 3) := by decide +kernel
theorem dX8_sayGallery_18 : decode cX8_sayGallery 18 = .ok (.aload_n 0, 1) := by decide +kernel
theorem dX8_sayGallery_19 : decode cX8_sayGallery 19 = .ok (.aload_n 0, 1) := by decide +kernel
theorem dX8_sayGallery_20 : decode cX8_sayGallery 20 = .ok (.iconst 5, 1) := by decide +kernel
theorem dX8_sayGallery_21 : decode cX8_sayGallery 21 = .ok (.iconst 0, 1) := by decide +kernel
theorem dX8_sayGallery_22 : decode cX8_sayGallery 22 = .ok (.invokevirtual 187, 3) := by decide +kernel
theorem dX8_sayGallery_25 : decode cX8_sayGallery 25 = .ok (.i2l, 1) := by decide +kernel
theorem dX8_sayGallery_26 : decode cX8_sayGallery 26 = .ok (.invokevirtual 240, 3) := by decide +kernel
theorem dX8_sayGallery_29 : decode cX8_sayGallery 29 = .ok (.bipush 10, 2) := by decide +kernel
theorem dX8_sayGallery_31 : decode cX8_sayGallery 31 = .ok (.istore_n 1, 1) := by decide +kernel
theorem dX8_sayGallery_32 : decode cX8_sayGallery 32 = .ok (.iload_n 1, 1) := by decide +kernel
theorem dX8_sayGallery_33 : decode cX8_sayGallery 33 = .ok (.bipush 16, 2) := by decide +kernel
theorem dX8_sayGallery_35 : decode cX8_sayGallery 35 = .ok (.if_icmp .ge 20, 3) := by decide +kernel
theorem dX8_sayGallery_38 : decode cX8_sayGallery 38 = .ok (.aload_n 0, 1) := by decide +kernel
theorem dX8_sayGallery_39 : decode cX8_sayGallery 39 = .ok (.aload_n 0, 1) := by decide +kernel
theorem dX8_sayGallery_40 : decode cX8_sayGallery 40 = .ok (.iconst 5, 1) := by decide +kernel
theorem dX8_sayGallery_41 : decode cX8_sayGallery 41 = .ok (.iload_n 1, 1) := by decide +kernel
theorem dX8_sayGallery_42 : decode cX8_sayGallery 42 = .ok (.invokevirtual 187, 3) := by decide +kernel
theorem dX8_sayGallery_45 : decode cX8_sayGallery 45 = .ok (.i2l, 1) := by decide +kernel
theorem dX8_sayGallery_46 : decode cX8_sayGallery 46 = .ok (.invokevirtual 240, 3) := by decide +kernel
theorem dX8_sayGallery_49 : decode cX8_sayGallery 49 = .ok (.iinc 1 1, 3) := by decide +kernel
theorem dX8_sayGallery_52 : decode cX8_sayGallery 52 = .ok (.goto (-20), 3) := by decide +kernel
theorem dX8_sayGallery_55 : decode cX8_sayGallery 55 = .ok (.return_, 1) := by decide +kernel
theorem dX8_digest_0 : decode cX8_digest 0 = .ok (.aload_n 0, 1) := by decide +kernel
theorem dX8_digest_1 : decode cX8_digest 1 = .ok (.ldc2_w 244, 3) := by decide +kernel
theorem dX8_digest_4 : decode cX8_digest 4 = .ok (.putfield 236, 3) := by decide +kernel
theorem dX8_digest_7 : decode cX8_digest 7 = .ok (.iconst 0, 1) := by decide +kernel
theorem dX8_digest_8 : decode cX8_digest 8 = .ok (.istore_n 1, 1) := by decide +kernel
theorem dX8_digest_9 : decode cX8_digest 9 = .ok (.iload_n 1, 1) := by decide +kernel
theorem dX8_digest_10 : decode cX8_digest 10 = .ok (.bipush 6, 2) := by decide +kernel
theorem dX8_digest_12 : decode cX8_digest 12 = .ok (.if_icmp .ge 41, 3) := by decide +kernel
theorem dX8_digest_15 : decode cX8_digest 15 = .ok (.aload_n 0, 1) := by decide +kernel
theorem dX8_digest_16 : decode cX8_digest 16 = .ok (.invokevirtual 96, 3) := by decide +kernel
theorem dX8_digest_19 : decode cX8_digest 19 = .ok (.ifCond .ne 34, 3) := by decide +kernel
theorem dX8_digest_22 : decode cX8_digest 22 = .ok (.iconst 0, 1) := by decide +kernel
theorem dX8_digest_23 : decode cX8_digest 23 = .ok (.istore_n 2, 1) := by decide +kernel
theorem dX8_digest_24 : decode cX8_digest 24 = .ok (.iload_n 2, 1) := by decide +kernel
theorem dX8_digest_25 : decode cX8_digest 25 = .ok (.bipush 6, 2) := by decide +kernel
theorem dX8_digest_27 : decode cX8_digest 27 = .ok (.if_icmp .ge 20, 3) := by decide +kernel
theorem dX8_digest_30 : decode cX8_digest 30 = .ok (.aload_n 0, 1) := by decide +kernel
theorem dX8_digest_31 : decode cX8_digest 31 = .ok (.aload_n 0, 1) := by decide +kernel
theorem dX8_digest_32 : decode cX8_digest 32 = .ok (.iload_n 1, 1) := by decide +kernel
theorem dX8_digest_33 : decode cX8_digest 33 = .ok (.iload_n 2, 1) := by decide +kernel
theorem dX8_digest_34 : decode cX8_digest 34 = .ok (.invokevirtual 137, 3) := by decide +kernel
theorem dX8_digest_37 : decode cX8_digest 37 = .ok (.i2l, 1) := by decide +kernel
theorem dX8_digest_38 : decode cX8_digest 38 = .ok (.invokevirtual 240, 3) := by decide +kernel
theorem dX8_digest_41 : decode cX8_digest 41 = .ok (.iinc 2 1, 3) := by decide +kernel
theorem dX8_digest_44 : decode cX8_digest 44 = .ok (.goto (-20), 3) := by decide +kernel
theorem dX8_digest_47 : decode cX8_digest 47 = .ok (.iinc 1 1, 3) := by decide +kernel
theorem dX8_digest_50 : decode cX8_digest 50 = .ok (.goto (-41), 3) := by decide +kernel
theorem dX8_digest_53 : decode cX8_digest 53 = .ok (.iconst 0, 1) := by decide +kernel
theorem dX8_digest_54 : decode cX8_digest 54 = .ok (.istore_n 1, 1) := by decide +kernel
theorem dX8_digest_55 : decode cX8_digest 55 = .ok (.iload_n 1, 1) := by decide +kernel
theorem dX8_digest_56 : decode cX8_digest 56 = .ok (.aload_n 0, 1) := by decide +kernel
theorem dX8_digest_57 : decode cX8_digest 57 = .ok (.getfield 84, 3) := by decide +kernel
theorem dX8_digest_60 : decode cX8_digest 60 = .ok (.if_icmp .ge 34, 3) := by decide +kernel
theorem dX8_digest_63 : decode cX8_digest 63 = .ok (.iconst 0, 1) := by decide +kernel
theorem dX8_digest_64 : decode cX8_digest 64 = .ok (.istore_n 2, 1) := by decide +kernel
theorem dX8_digest_65 : decode cX8_digest 65 = .ok (.iload_n 2, 1) := by decide +kernel
theorem dX8_digest_66 : decode cX8_digest 66 = .ok (.bipush 6, 2) := by decide +kernel
theorem dX8_digest_68 : decode cX8_digest 68 = .ok (.if_icmp .ge 20, 3) := by decide +kernel
theorem dX8_digest_71 : decode cX8_digest 71 = .ok (.aload_n 0, 1) := by decide +kernel
theorem dX8_digest_72 : decode cX8_digest 72 = .ok (.aload_n 0, 1) := by decide +kernel
theorem dX8_digest_73 : decode cX8_digest 73 = .ok (.iload_n 1, 1) := by decide +kernel
theorem dX8_digest_74 : decode cX8_digest 74 = .ok (.iload_n 2, 1) := by decide +kernel
theorem dX8_digest_75 : decode cX8_digest 75 = .ok (.invokevirtual 155, 3) := by decide +kernel
theorem dX8_digest_78 : decode cX8_digest 78 = .ok (.i2l, 1) := by decide +kernel
theorem dX8_digest_79 : decode cX8_digest 79 = .ok (.invokevirtual 240, 3) := by decide +kernel
theorem dX8_digest_82 : decode cX8_digest 82 = .ok (.iinc 2 1, 3) := by decide +kernel
theorem dX8_digest_85 : decode cX8_digest 85 = .ok (.goto (-20), 3) := by decide +kernel
theorem dX8_digest_88 : decode cX8_digest 88 = .ok (.iinc 1 1, 3) := by decide +kernel
theorem dX8_digest_91 : decode cX8_digest 91 = .ok (.goto (-36), 3) := by decide +kernel
theorem dX8_digest_94 : decode cX8_digest 94 = .ok (.aload_n 0, 1) := by decide +kernel
theorem dX8_digest_95 : decode cX8_digest 95 = .ok (.invokevirtual 96, 3) := by decide +kernel
theorem dX8_digest_98 : decode cX8_digest 98 = .ok (.ifCond .ne 7, 3) := by decide +kernel
theorem dX8_digest_101 : decode cX8_digest 101 = .ok (.aload_n 0, 1) := by decide +kernel
theorem dX8_digest_102 : decode cX8_digest 102 = .ok (.invokevirtual 246, 3) := by decide +kernel
theorem dX8_digest_105 : decode cX8_digest 105 = .ok (.iconst 0, 1) := by decide +kernel
theorem dX8_digest_106 : decode cX8_digest 106 = .ok (.istore_n 1, 1) := by decide +kernel
theorem dX8_digest_107 : decode cX8_digest 107 = .ok (.iload_n 1, 1) := by decide +kernel
theorem dX8_digest_108 : decode cX8_digest 108 = .ok (.aload_n 0, 1) := by decide +kernel
theorem dX8_digest_109 : decode cX8_digest 109 = .ok (.getfield 56, 3) := by decide +kernel
theorem dX8_digest_112 : decode cX8_digest 112 = .ok (.if_icmp .ge 20, 3) := by decide +kernel
theorem dX8_digest_115 : decode cX8_digest 115 = .ok (.aload_n 0, 1) := by decide +kernel
theorem dX8_digest_116 : decode cX8_digest 116 = .ok (.aload_n 0, 1) := by decide +kernel
theorem dX8_digest_117 : decode cX8_digest 117 = .ok (.getfield 7, 3) := by decide +kernel
theorem dX8_digest_120 : decode cX8_digest 120 = .ok (.iload_n 1, 1) := by decide +kernel
theorem dX8_digest_121 : decode cX8_digest 121 = .ok (.iaload, 1) := by decide +kernel
theorem dX8_digest_122 : decode cX8_digest 122 = .ok (.i2l, 1) := by decide +kernel
theorem dX8_digest_123 : decode cX8_digest 123 = .ok (.invokevirtual 240, 3) := by decide +kernel
theorem dX8_digest_126 : decode cX8_digest 126 = .ok (.iinc 1 1, 3) := by decide +kernel
theorem dX8_digest_129 : decode cX8_digest 129 = .ok (.goto (-22), 3) := by decide +kernel
theorem dX8_digest_132 : decode cX8_digest 132 = .ok (.iconst 0, 1) := by decide +kernel
theorem dX8_digest_133 : decode cX8_digest 133 = .ok (.istore_n 1, 1) := by decide +kernel
theorem dX8_digest_134 : decode cX8_digest 134 = .ok (.iload_n 1, 1) := by decide +kernel
theorem dX8_digest_135 : decode cX8_digest 135 = .ok (.bipush 13, 2) := by decide +kernel
theorem dX8_digest_137 : decode cX8_digest 137 = .ok (.if_icmp .ge 19, 3) := by decide +kernel
theorem dX8_digest_140 : decode cX8_digest 140 = .ok (.aload_n 0, 1) := by decide +kernel
theorem dX8_digest_141 : decode cX8_digest 141 = .ok (.aload_n 0, 1) := by decide +kernel
theorem dX8_digest_142 : decode cX8_digest 142 = .ok (.iload_n 1, 1) := by decide +kernel
theorem dX8_digest_143 : decode cX8_digest 143 = .ok (.invokevirtual 231, 3) := by decide +kernel
theorem dX8_digest_146 : decode cX8_digest 146 = .ok (.i2l, 1) := by decide +kernel
theorem dX8_digest_147 : decode cX8_digest 147 = .ok (.invokevirtual 240, 3) := by decide +kernel
theorem dX8_digest_150 : decode cX8_digest 150 = .ok (.iinc 1 1, 3) := by decide +kernel
theorem dX8_digest_153 : decode cX8_digest 153 = .ok (.goto (-19), 3) := by decide +kernel
theorem dX8_digest_156 : decode cX8_digest 156 = .ok (.aload_n 0, 1) := by decide +kernel
theorem dX8_digest_157 : decode cX8_digest 157 = .ok (.getfield 236, 3) := by decide +kernel
theorem dX8_digest_160 : decode cX8_digest 160 = .ok (.lreturn, 1) := by decide +kernel
theorem dJ6_bitCount_0f7a4_0 : decode cJ6_bitCount_0f7a4 0 = .ok (.iload_n 0, 1) := by decide +kernel
theorem dJ6_bitCount_0f7a4_1 : decode cJ6_bitCount_0f7a4 1 = .ok (.iload_n 0, 1) := by decide +kernel
theorem dJ6_bitCount_0f7a4_2 : decode cJ6_bitCount_0f7a4 2 = .ok (.iconst 1, 1) := by decide +kernel
theorem dJ6_bitCount_0f7a4_3 : decode cJ6_bitCount_0f7a4 3 = .ok (.iushr, 1) := by decide +kernel
theorem dJ6_bitCount_0f7a4_4 : decode cJ6_bitCount_0f7a4 4 = .ok (.ldc_w 265, 3) := by decide +kernel
theorem dJ6_bitCount_0f7a4_7 : decode cJ6_bitCount_0f7a4 7 = .ok (.iand, 1) := by decide +kernel
theorem dJ6_bitCount_0f7a4_8 : decode cJ6_bitCount_0f7a4 8 = .ok (.isub, 1) := by decide +kernel
theorem dJ6_bitCount_0f7a4_9 : decode cJ6_bitCount_0f7a4 9 = .ok (.istore_n 0, 1) := by decide +kernel
theorem dJ6_bitCount_0f7a4_10 : decode cJ6_bitCount_0f7a4 10 = .ok (.iload_n 0, 1) := by decide +kernel
theorem dJ6_bitCount_0f7a4_11 : decode cJ6_bitCount_0f7a4 11 = .ok (.ldc_w 266, 3) := by decide +kernel
theorem dJ6_bitCount_0f7a4_14 : decode cJ6_bitCount_0f7a4 14 = .ok (.iand, 1) := by decide +kernel
theorem dJ6_bitCount_0f7a4_15 : decode cJ6_bitCount_0f7a4 15 = .ok (.iload_n 0, 1) := by decide +kernel
theorem dJ6_bitCount_0f7a4_16 : decode cJ6_bitCount_0f7a4 16 = .ok (.iconst 2, 1) := by decide +kernel
theorem dJ6_bitCount_0f7a4_17 : decode cJ6_bitCount_0f7a4 17 = .ok (.iushr, 1) := by decide +kernel
theorem dJ6_bitCount_0f7a4_18 : decode cJ6_bitCount_0f7a4 18 = .ok (.ldc_w 266, 3) := by decide +kernel
theorem dJ6_bitCount_0f7a4_21 : decode cJ6_bitCount_0f7a4 21 = .ok (.iand, 1) := by decide +kernel
theorem dJ6_bitCount_0f7a4_22 : decode cJ6_bitCount_0f7a4 22 = .ok (.iadd, 1) := by decide +kernel
theorem dJ6_bitCount_0f7a4_23 : decode cJ6_bitCount_0f7a4 23 = .ok (.istore_n 0, 1) := by decide +kernel
theorem dJ6_bitCount_0f7a4_24 : decode cJ6_bitCount_0f7a4 24 = .ok (.iload_n 0, 1) := by decide +kernel
theorem dJ6_bitCount_0f7a4_25 : decode cJ6_bitCount_0f7a4 25 = .ok (.iload_n 0, 1) := by decide +kernel
theorem dJ6_bitCount_0f7a4_26 : decode cJ6_bitCount_0f7a4 26 = .ok (.iconst 4, 1) := by decide +kernel
theorem dJ6_bitCount_0f7a4_27 : decode cJ6_bitCount_0f7a4 27 = .ok (.iushr, 1) := by decide +kernel
theorem dJ6_bitCount_0f7a4_28 : decode cJ6_bitCount_0f7a4 28 = .ok (.iadd, 1) := by decide +kernel
theorem dJ6_bitCount_0f7a4_29 : decode cJ6_bitCount_0f7a4 29 = .ok (.ldc_w 267, 3) := by decide +kernel
theorem dJ6_bitCount_0f7a4_32 : decode cJ6_bitCount_0f7a4 32 = .ok (.iand, 1) := by decide +kernel
theorem dJ6_bitCount_0f7a4_33 : decode cJ6_bitCount_0f7a4 33 = .ok (.istore_n 0, 1) := by decide +kernel
theorem dJ6_bitCount_0f7a4_34 : decode cJ6_bitCount_0f7a4 34 = .ok (.iload_n 0, 1) := by decide +kernel
theorem dJ6_bitCount_0f7a4_35 : decode cJ6_bitCount_0f7a4 35 = .ok (.iload_n 0, 1) := by decide +kernel
theorem dJ6_bitCount_0f7a4_36 : decode cJ6_bitCount_0f7a4 36 = .ok (.bipush 8, 2) := by decide +kernel
theorem dJ6_bitCount_0f7a4_38 : decode cJ6_bitCount_0f7a4 38 = .ok (.iushr, 1) := by decide +kernel
theorem dJ6_bitCount_0f7a4_39 : decode cJ6_bitCount_0f7a4 39 = .ok (.iadd, 1) := by decide +kernel
theorem dJ6_bitCount_0f7a4_40 : decode cJ6_bitCount_0f7a4 40 = .ok (.istore_n 0, 1) := by decide +kernel
theorem dJ6_bitCount_0f7a4_41 : decode cJ6_bitCount_0f7a4 41 = .ok (.iload_n 0, 1) := by decide +kernel
theorem dJ6_bitCount_0f7a4_42 : decode cJ6_bitCount_0f7a4 42 = .ok (.iload_n 0, 1) := by decide +kernel
theorem dJ6_bitCount_0f7a4_43 : decode cJ6_bitCount_0f7a4 43 = .ok (.bipush 16, 2) := by decide +kernel
theorem dJ6_bitCount_0f7a4_45 : decode cJ6_bitCount_0f7a4 45 = .ok (.iushr, 1) := by decide +kernel
theorem dJ6_bitCount_0f7a4_46 : decode cJ6_bitCount_0f7a4 46 = .ok (.iadd, 1) := by decide +kernel
theorem dJ6_bitCount_0f7a4_47 : decode cJ6_bitCount_0f7a4 47 = .ok (.istore_n 0, 1) := by decide +kernel
theorem dJ6_bitCount_0f7a4_48 : decode cJ6_bitCount_0f7a4 48 = .ok (.iload_n 0, 1) := by decide +kernel
theorem dJ6_bitCount_0f7a4_49 : decode cJ6_bitCount_0f7a4 49 = .ok (.bipush 63, 2) := by decide +kernel
theorem dJ6_bitCount_0f7a4_51 : decode cJ6_bitCount_0f7a4 51 = .ok (.iand, 1) := by decide +kernel
theorem dJ6_bitCount_0f7a4_52 : decode cJ6_bitCount_0f7a4 52 = .ok (.ireturn, 1) := by decide +kernel
theorem dJ9_max_7cf53_0 : decode cJ9_max_7cf53 0 = .ok (.iload_n 0, 1) := by decide +kernel
theorem dJ9_max_7cf53_1 : decode cJ9_max_7cf53 1 = .ok (.iload_n 1, 1) := by decide +kernel
theorem dJ9_max_7cf53_2 : decode cJ9_max_7cf53 2 = .ok (.if_icmp .lt 7, 3) := by decide +kernel
theorem dJ9_max_7cf53_5 : decode cJ9_max_7cf53 5 = .ok (.iload_n 0, 1) := by decide +kernel
theorem dJ9_max_7cf53_6 : decode cJ9_max_7cf53 6 = .ok (.goto 4, 3) := by decide +kernel
theorem dJ9_max_7cf53_9 : decode cJ9_max_7cf53 9 = .ok (.iload_n 1, 1) := by decide +kernel
theorem dJ9_max_7cf53_10 : decode cJ9_max_7cf53 10 = .ok (.ireturn, 1) := by decide +kernel
theorem dJ9_min_7cf53_0 : decode cJ9_min_7cf53 0 = .ok (.iload_n 0, 1) := by decide +kernel
theorem dJ9_min_7cf53_1 : decode cJ9_min_7cf53 1 = .ok (.iload_n 1, 1) := by decide +kernel
theorem dJ9_min_7cf53_2 : decode cJ9_min_7cf53 2 = .ok (.if_icmp .gt 7, 3) := by decide +kernel
theorem dJ9_min_7cf53_5 : decode cJ9_min_7cf53 5 = .ok (.iload_n 0, 1) := by decide +kernel
theorem dJ9_min_7cf53_6 : decode cJ9_min_7cf53 6 = .ok (.goto 4, 3) := by decide +kernel
theorem dJ9_min_7cf53_9 : decode cJ9_min_7cf53 9 = .ok (.iload_n 1, 1) := by decide +kernel
theorem dJ9_min_7cf53_10 : decode cJ9_min_7cf53 10 = .ok (.ireturn, 1) := by decide +kernel
theorem dJ7_fill_53178_0 : decode cJ7_fill_53178 0 = .ok (.iconst 0, 1) := by decide +kernel
theorem dJ7_fill_53178_1 : decode cJ7_fill_53178 1 = .ok (.istore_n 2, 1) := by decide +kernel
theorem dJ7_fill_53178_2 : decode cJ7_fill_53178 2 = .ok (.aload_n 0, 1) := by decide +kernel
theorem dJ7_fill_53178_3 : decode cJ7_fill_53178 3 = .ok (.arraylength, 1) := by decide +kernel
theorem dJ7_fill_53178_4 : decode cJ7_fill_53178 4 = .ok (.istore_n 3, 1) := by decide +kernel
theorem dJ7_fill_53178_5 : decode cJ7_fill_53178 5 = .ok (.iload_n 2, 1) := by decide +kernel
theorem dJ7_fill_53178_6 : decode cJ7_fill_53178 6 = .ok (.iload_n 3, 1) := by decide +kernel
theorem dJ7_fill_53178_7 : decode cJ7_fill_53178 7 = .ok (.if_icmp .ge 13, 3) := by decide +kernel
theorem dJ7_fill_53178_10 : decode cJ7_fill_53178 10 = .ok (.aload_n 0, 1) := by decide +kernel
theorem dJ7_fill_53178_11 : decode cJ7_fill_53178 11 = .ok (.iload_n 2, 1) := by decide +kernel
theorem dJ7_fill_53178_12 : decode cJ7_fill_53178 12 = .ok (.iload_n 1, 1) := by decide +kernel
theorem dJ7_fill_53178_13 : decode cJ7_fill_53178 13 = .ok (.iastore, 1) := by decide +kernel
theorem dJ7_fill_53178_14 : decode cJ7_fill_53178 14 = .ok (.iinc 2 1, 3) := by decide +kernel
theorem dJ7_fill_53178_17 : decode cJ7_fill_53178 17 = .ok (.goto (-12), 3) := by decide +kernel
theorem dJ7_fill_53178_20 : decode cJ7_fill_53178 20 = .ok (.return_, 1) := by decide +kernel
theorem dL_law_0 : decode cL_law 0 = .ok (.new 7, 3) := by decide +kernel
theorem dL_law_3 : decode cL_law 3 = .ok (.dup, 1) := by decide +kernel
theorem dL_law_4 : decode cL_law 4 = .ok (.invokespecial 9, 3) := by decide +kernel
theorem dL_law_7 : decode cL_law 7 = .ok (.astore_n 1, 1) := by decide +kernel
theorem dL_law_8 : decode cL_law 8 = .ok (.new 10, 3) := by decide +kernel
theorem dL_law_11 : decode cL_law 11 = .ok (.dup, 1) := by decide +kernel
theorem dL_law_12 : decode cL_law 12 = .ok (.invokespecial 12, 3) := by decide +kernel
theorem dL_law_15 : decode cL_law 15 = .ok (.astore_n 2, 1) := by decide +kernel
theorem dL_law_16 : decode cL_law 16 = .ok (.iconst 0, 1) := by decide +kernel
theorem dL_law_17 : decode cL_law 17 = .ok (.istore_n 3, 1) := by decide +kernel
theorem dL_law_18 : decode cL_law 18 = .ok (.iload_n 3, 1) := by decide +kernel
theorem dL_law_19 : decode cL_law 19 = .ok (.aload_n 0, 1) := by decide +kernel
theorem dL_law_20 : decode cL_law 20 = .ok (.arraylength, 1) := by decide +kernel
theorem dL_law_21 : decode cL_law 21 = .ok (.iconst 4, 1) := by decide +kernel
theorem dL_law_22 : decode cL_law 22 = .ok (.isub, 1) := by decide +kernel
theorem dL_law_23 : decode cL_law 23 = .ok (.if_icmp .gt 642, 3) := by decide +kernel
theorem dL_law_26 : decode cL_law 26 = .ok (.aload_n 0, 1) := by decide +kernel
theorem dL_law_27 : decode cL_law 27 = .ok (.iload_n 3, 1) := by decide +kernel
theorem dL_law_28 : decode cL_law 28 = .ok (.iaload, 1) := by decide +kernel
theorem dL_law_29 : decode cL_law 29 = .ok (.bipush 31, 2) := by decide +kernel
theorem dL_law_31 : decode cL_law 31 = .ok (.iand, 1) := by decide +kernel
theorem dL_law_32 : decode cL_law 32 = .ok (.tableswitch 627 0 21 #[104, 127, 140, 153, 166, 199, 222, 255, 288, 321, 354, 367, 380, 403, 436, 449, 508, 521, 564, 577, 590, 613], 104) := by decide +kernel
theorem dL_law_136 : decode cL_law 136 = .ok (.aload_n 1, 1) := by decide +kernel
theorem dL_law_137 : decode cL_law 137 = .ok (.aload_n 0, 1) := by decide +kernel
theorem dL_law_138 : decode cL_law 138 = .ok (.iload_n 3, 1) := by decide +kernel
theorem dL_law_139 : decode cL_law 139 = .ok (.iconst 1, 1) := by decide +kernel
theorem dL_law_140 : decode cL_law 140 = .ok (.iadd, 1) := by decide +kernel
theorem dL_law_141 : decode cL_law 141 = .ok (.iaload, 1) := by decide +kernel
theorem dL_law_142 : decode cL_law 142 = .ok (.invokevirtual 13, 3) := by decide +kernel
theorem dL_law_145 : decode cL_law 145 = .ok (.aload_n 2, 1) := by decide +kernel
theorem dL_law_146 : decode cL_law 146 = .ok (.aload_n 0, 1) := by decide +kernel
theorem dL_law_147 : decode cL_law 147 = .ok (.iload_n 3, 1) := by decide +kernel
theorem dL_law_148 : decode cL_law 148 = .ok (.iconst 1, 1) := by decide +kernel
theorem dL_law_149 : decode cL_law 149 = .ok (.iadd, 1) := by decide +kernel
theorem dL_law_150 : decode cL_law 150 = .ok (.iaload, 1) := by decide +kernel
theorem dL_law_151 : decode cL_law 151 = .ok (.invokevirtual 17, 3) := by decide +kernel
theorem dL_law_154 : decode cL_law 154 = .ok (.if_icmp .eq 505, 3) := by decide +kernel
theorem dL_law_157 : decode cL_law 157 = .ok (.iconst 0, 1) := by decide +kernel
theorem dL_law_158 : decode cL_law 158 = .ok (.ireturn, 1) := by decide +kernel
theorem dL_law_159 : decode cL_law 159 = .ok (.aload_n 1, 1) := by decide +kernel
theorem dL_law_160 : decode cL_law 160 = .ok (.invokevirtual 18, 3) := by decide +kernel
theorem dL_law_163 : decode cL_law 163 = .ok (.aload_n 2, 1) := by decide +kernel
theorem dL_law_164 : decode cL_law 164 = .ok (.invokevirtual 22, 3) := by decide +kernel
theorem dL_law_167 : decode cL_law 167 = .ok (.if_icmp .eq 492, 3) := by decide +kernel
theorem dL_law_170 : decode cL_law 170 = .ok (.iconst 0, 1) := by decide +kernel
theorem dL_law_171 : decode cL_law 171 = .ok (.ireturn, 1) := by decide +kernel
theorem dL_law_172 : decode cL_law 172 = .ok (.aload_n 1, 1) := by decide +kernel
theorem dL_law_173 : decode cL_law 173 = .ok (.invokevirtual 23, 3) := by decide +kernel
theorem dL_law_176 : decode cL_law 176 = .ok (.aload_n 2, 1) := by decide +kernel
theorem dL_law_177 : decode cL_law 177 = .ok (.invokevirtual 26, 3) := by decide +kernel
theorem dL_law_180 : decode cL_law 180 = .ok (.if_icmp .eq 479, 3) := by decide +kernel
theorem dL_law_183 : decode cL_law 183 = .ok (.iconst 0, 1) := by decide +kernel
theorem dL_law_184 : decode cL_law 184 = .ok (.ireturn, 1) := by decide +kernel
theorem dL_law_185 : decode cL_law 185 = .ok (.aload_n 1, 1) := by decide +kernel
theorem dL_law_186 : decode cL_law 186 = .ok (.invokevirtual 27, 3) := by decide +kernel
theorem dL_law_189 : decode cL_law 189 = .ok (.aload_n 2, 1) := by decide +kernel
theorem dL_law_190 : decode cL_law 190 = .ok (.invokevirtual 30, 3) := by decide +kernel
theorem dL_law_193 : decode cL_law 193 = .ok (.if_icmp .eq 466, 3) := by decide +kernel
theorem dL_law_196 : decode cL_law 196 = .ok (.iconst 0, 1) := by decide +kernel
theorem dL_law_197 : decode cL_law 197 = .ok (.ireturn, 1) := by decide +kernel
theorem dL_law_198 : decode cL_law 198 = .ok (.aload_n 1, 1) := by decide +kernel
theorem dL_law_199 : decode cL_law 199 = .ok (.aload_n 0, 1) := by decide +kernel
theorem dL_law_200 : decode cL_law 200 = .ok (.iload_n 3, 1) := by decide +kernel
theorem dL_law_201 : decode cL_law 201 = .ok (.iconst 1, 1) := by decide +kernel
theorem dL_law_202 : decode cL_law 202 = .ok (.iadd, 1) := by decide +kernel
theorem dL_law_203 : decode cL_law 203 = .ok (.iaload, 1) := by decide +kernel
theorem dL_law_204 : decode cL_law 204 = .ok (.aload_n 0, 1) := by decide +kernel
theorem dL_law_205 : decode cL_law 205 = .ok (.iload_n 3, 1) := by decide +kernel
theorem dL_law_206 : decode cL_law 206 = .ok (.iconst 2, 1) := by decide +kernel
theorem dL_law_207 : decode cL_law 207 = .ok (.iadd, 1) := by decide +kernel
theorem dL_law_208 : decode cL_law 208 = .ok (.iaload, 1) := by decide +kernel
theorem dL_law_209 : decode cL_law 209 = .ok (.invokevirtual 31, 3) := by decide +kernel
theorem dL_law_212 : decode cL_law 212 = .ok (.aload_n 2, 1) := by decide +kernel
theorem dL_law_213 : decode cL_law 213 = .ok (.aload_n 0, 1) := by decide +kernel
theorem dL_law_214 : decode cL_law 214 = .ok (.iload_n 3, 1) := by decide +kernel
theorem dL_law_215 : decode cL_law 215 = .ok (.iconst 1, 1) := by decide +kernel
theorem dL_law_216 : decode cL_law 216 = .ok (.iadd, 1) := by decide +kernel
theorem dL_law_217 : decode cL_law 217 = .ok (.iaload, 1) := by decide +kernel
theorem dL_law_218 : decode cL_law 218 = .ok (.aload_n 0, 1) := by decide +kernel
theorem dL_law_219 : decode cL_law 219 = .ok (.iload_n 3, 1) := by decide +kernel
theorem dL_law_220 : decode cL_law 220 = .ok (.iconst 2, 1) := by decide +kernel
theorem dL_law_221 : decode cL_law 221 = .ok (.iadd, 1) := by decide +kernel
theorem dL_law_222 : decode cL_law 222 = .ok (.iaload, 1) := by decide +kernel
theorem dL_law_223 : decode cL_law 223 = .ok (.invokevirtual 35, 3) := by decide +kernel
theorem dL_law_226 : decode cL_law 226 = .ok (.if_icmp .eq 433, 3) := by decide +kernel
theorem dL_law_229 : decode cL_law 229 = .ok (.iconst 0, 1) := by decide +kernel
theorem dL_law_230 : decode cL_law 230 = .ok (.ireturn, 1) := by decide +kernel
theorem dL_law_231 : decode cL_law 231 = .ok (.aload_n 1, 1) := by decide +kernel
theorem dL_law_232 : decode cL_law 232 = .ok (.aload_n 0, 1) := by decide +kernel
theorem dL_law_233 : decode cL_law 233 = .ok (.iload_n 3, 1) := by decide +kernel
theorem dL_law_234 : decode cL_law 234 = .ok (.iconst 1, 1) := by decide +kernel
theorem dL_law_235 : decode cL_law 235 = .ok (.iadd, 1) := by decide +kernel
theorem dL_law_236 : decode cL_law 236 = .ok (.iaload, 1) := by decide +kernel
theorem dL_law_237 : decode cL_law 237 = .ok (.invokevirtual 36, 3) := by decide +kernel
theorem dL_law_240 : decode cL_law 240 = .ok (.aload_n 2, 1) := by decide +kernel
theorem dL_law_241 : decode cL_law 241 = .ok (.aload_n 0, 1) := by decide +kernel
theorem dL_law_242 : decode cL_law 242 = .ok (.iload_n 3, 1) := by decide +kernel
theorem dL_law_243 : decode cL_law 243 = .ok (.iconst 1, 1) := by decide +kernel
theorem dL_law_244 : decode cL_law 244 = .ok (.iadd, 1) := by decide +kernel
theorem dL_law_245 : decode cL_law 245 = .ok (.iaload, 1) := by decide +kernel
theorem dL_law_246 : decode cL_law 246 = .ok (.invokevirtual 39, 3) := by decide +kernel
theorem dL_law_249 : decode cL_law 249 = .ok (.if_icmp .eq 410, 3) := by decide +kernel
theorem dL_law_252 : decode cL_law 252 = .ok (.iconst 0, 1) := by decide +kernel
theorem dL_law_253 : decode cL_law 253 = .ok (.ireturn, 1) := by decide +kernel
theorem dL_law_254 : decode cL_law 254 = .ok (.aload_n 1, 1) := by decide +kernel
theorem dL_law_255 : decode cL_law 255 = .ok (.aload_n 0, 1) := by decide +kernel
theorem dL_law_256 : decode cL_law 256 = .ok (.iload_n 3, 1) := by decide +kernel
theorem dL_law_257 : decode cL_law 257 = .ok (.iconst 1, 1) := by decide +kernel
theorem dL_law_258 : decode cL_law 258 = .ok (.iadd, 1) := by decide +kernel
theorem dL_law_259 : decode cL_law 259 = .ok (.iaload, 1) := by decide +kernel
theorem dL_law_260 : decode cL_law 260 = .ok (.aload_n 0, 1) := by decide +kernel
theorem dL_law_261 : decode cL_law 261 = .ok (.iload_n 3, 1) := by decide +kernel
theorem dL_law_262 : decode cL_law 262 = .ok (.iconst 2, 1) := by decide +kernel
theorem dL_law_263 : decode cL_law 263 = .ok (.iadd, 1) := by decide +kernel
theorem dL_law_264 : decode cL_law 264 = .ok (.iaload, 1) := by decide +kernel
theorem dL_law_265 : decode cL_law 265 = .ok (.invokevirtual 40, 3) := by decide +kernel
theorem dL_law_268 : decode cL_law 268 = .ok (.aload_n 2, 1) := by decide +kernel
theorem dL_law_269 : decode cL_law 269 = .ok (.aload_n 0, 1) := by decide +kernel
theorem dL_law_270 : decode cL_law 270 = .ok (.iload_n 3, 1) := by decide +kernel
theorem dL_law_271 : decode cL_law 271 = .ok (.iconst 1, 1) := by decide +kernel
theorem dL_law_272 : decode cL_law 272 = .ok (.iadd, 1) := by decide +kernel
theorem dL_law_273 : decode cL_law 273 = .ok (.iaload, 1) := by decide +kernel
theorem dL_law_274 : decode cL_law 274 = .ok (.aload_n 0, 1) := by decide +kernel
theorem dL_law_275 : decode cL_law 275 = .ok (.iload_n 3, 1) := by decide +kernel
theorem dL_law_276 : decode cL_law 276 = .ok (.iconst 2, 1) := by decide +kernel
theorem dL_law_277 : decode cL_law 277 = .ok (.iadd, 1) := by decide +kernel
theorem dL_law_278 : decode cL_law 278 = .ok (.iaload, 1) := by decide +kernel
theorem dL_law_279 : decode cL_law 279 = .ok (.invokevirtual 43, 3) := by decide +kernel
theorem dL_law_282 : decode cL_law 282 = .ok (.if_icmp .eq 377, 3) := by decide +kernel
theorem dL_law_285 : decode cL_law 285 = .ok (.iconst 0, 1) := by decide +kernel
theorem dL_law_286 : decode cL_law 286 = .ok (.ireturn, 1) := by decide +kernel
theorem dL_law_287 : decode cL_law 287 = .ok (.aload_n 1, 1) := by decide +kernel
theorem dL_law_288 : decode cL_law 288 = .ok (.aload_n 0, 1) := by decide +kernel
theorem dL_law_289 : decode cL_law 289 = .ok (.iload_n 3, 1) := by decide +kernel
theorem dL_law_290 : decode cL_law 290 = .ok (.iconst 1, 1) := by decide +kernel
theorem dL_law_291 : decode cL_law 291 = .ok (.iadd, 1) := by decide +kernel
theorem dL_law_292 : decode cL_law 292 = .ok (.iaload, 1) := by decide +kernel
theorem dL_law_293 : decode cL_law 293 = .ok (.aload_n 0, 1) := by decide +kernel
theorem dL_law_294 : decode cL_law 294 = .ok (.iload_n 3, 1) := by decide +kernel
theorem dL_law_295 : decode cL_law 295 = .ok (.iconst 2, 1) := by decide +kernel
theorem dL_law_296 : decode cL_law 296 = .ok (.iadd, 1) := by decide +kernel
theorem dL_law_297 : decode cL_law 297 = .ok (.iaload, 1) := by decide +kernel
theorem dL_law_298 : decode cL_law 298 = .ok (.invokevirtual 44, 3) := by decide +kernel
theorem dL_law_301 : decode cL_law 301 = .ok (.aload_n 2, 1) := by decide +kernel
theorem dL_law_302 : decode cL_law 302 = .ok (.aload_n 0, 1) := by decide +kernel
theorem dL_law_303 : decode cL_law 303 = .ok (.iload_n 3, 1) := by decide +kernel
theorem dL_law_304 : decode cL_law 304 = .ok (.iconst 1, 1) := by decide +kernel
theorem dL_law_305 : decode cL_law 305 = .ok (.iadd, 1) := by decide +kernel
theorem dL_law_306 : decode cL_law 306 = .ok (.iaload, 1) := by decide +kernel
theorem dL_law_307 : decode cL_law 307 = .ok (.aload_n 0, 1) := by decide +kernel
theorem dL_law_308 : decode cL_law 308 = .ok (.iload_n 3, 1) := by decide +kernel
theorem dL_law_309 : decode cL_law 309 = .ok (.iconst 2, 1) := by decide +kernel
theorem dL_law_310 : decode cL_law 310 = .ok (.iadd, 1) := by decide +kernel
theorem dL_law_311 : decode cL_law 311 = .ok (.iaload, 1) := by decide +kernel
theorem dL_law_312 : decode cL_law 312 = .ok (.invokevirtual 47, 3) := by decide +kernel
theorem dL_law_315 : decode cL_law 315 = .ok (.if_icmp .eq 344, 3) := by decide +kernel
theorem dL_law_318 : decode cL_law 318 = .ok (.iconst 0, 1) := by decide +kernel
theorem dL_law_319 : decode cL_law 319 = .ok (.ireturn, 1) := by decide +kernel
theorem dL_law_320 : decode cL_law 320 = .ok (.aload_n 1, 1) := by decide +kernel
theorem dL_law_321 : decode cL_law 321 = .ok (.aload_n 0, 1) := by decide +kernel
theorem dL_law_322 : decode cL_law 322 = .ok (.iload_n 3, 1) := by decide +kernel
theorem dL_law_323 : decode cL_law 323 = .ok (.iconst 1, 1) := by decide +kernel
theorem dL_law_324 : decode cL_law 324 = .ok (.iadd, 1) := by decide +kernel
theorem dL_law_325 : decode cL_law 325 = .ok (.iaload, 1) := by decide +kernel
theorem dL_law_326 : decode cL_law 326 = .ok (.aload_n 0, 1) := by decide +kernel
theorem dL_law_327 : decode cL_law 327 = .ok (.iload_n 3, 1) := by decide +kernel
theorem dL_law_328 : decode cL_law 328 = .ok (.iconst 2, 1) := by decide +kernel
theorem dL_law_329 : decode cL_law 329 = .ok (.iadd, 1) := by decide +kernel
theorem dL_law_330 : decode cL_law 330 = .ok (.iaload, 1) := by decide +kernel
theorem dL_law_331 : decode cL_law 331 = .ok (.invokevirtual 48, 3) := by decide +kernel
theorem dL_law_334 : decode cL_law 334 = .ok (.aload_n 2, 1) := by decide +kernel
theorem dL_law_335 : decode cL_law 335 = .ok (.aload_n 0, 1) := by decide +kernel
theorem dL_law_336 : decode cL_law 336 = .ok (.iload_n 3, 1) := by decide +kernel
theorem dL_law_337 : decode cL_law 337 = .ok (.iconst 1, 1) := by decide +kernel
theorem dL_law_338 : decode cL_law 338 = .ok (.iadd, 1) := by decide +kernel
theorem dL_law_339 : decode cL_law 339 = .ok (.iaload, 1) := by decide +kernel
theorem dL_law_340 : decode cL_law 340 = .ok (.aload_n 0, 1) := by decide +kernel
theorem dL_law_341 : decode cL_law 341 = .ok (.iload_n 3, 1) := by decide +kernel
theorem dL_law_342 : decode cL_law 342 = .ok (.iconst 2, 1) := by decide +kernel
theorem dL_law_343 : decode cL_law 343 = .ok (.iadd, 1) := by decide +kernel
theorem dL_law_344 : decode cL_law 344 = .ok (.iaload, 1) := by decide +kernel
theorem dL_law_345 : decode cL_law 345 = .ok (.invokevirtual 51, 3) := by decide +kernel
theorem dL_law_348 : decode cL_law 348 = .ok (.if_icmp .eq 311, 3) := by decide +kernel
theorem dL_law_351 : decode cL_law 351 = .ok (.iconst 0, 1) := by decide +kernel
theorem dL_law_352 : decode cL_law 352 = .ok (.ireturn, 1) := by decide +kernel
theorem dL_law_353 : decode cL_law 353 = .ok (.aload_n 1, 1) := by decide +kernel
theorem dL_law_354 : decode cL_law 354 = .ok (.aload_n 0, 1) := by decide +kernel
theorem dL_law_355 : decode cL_law 355 = .ok (.iload_n 3, 1) := by decide +kernel
