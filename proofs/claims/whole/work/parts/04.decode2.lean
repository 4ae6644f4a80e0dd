theorem dX7_props_47 : decode cX7_props 47 = .ok (.aload_n 0, 1) := by decide +kernel
theorem dX7_props_48 : decode cX7_props 48 = .ok (.getfield 79, 3) := by decide +kernel
theorem dX7_props_51 : decode cX7_props 51 = .ok (.ifCond .ne 6, 3) := by decide +kernel
theorem dX7_props_54 : decode cX7_props 54 = .ok (.bipush (-103), 2) := by decide +kernel
theorem dX7_props_56 : decode cX7_props 56 = .ok (.ireturn, 1) := by decide +kernel
theorem dX7_props_57 : decode cX7_props 57 = .ok (.aload_n 0, 1) := by decide +kernel
theorem dX7_props_58 : decode cX7_props 58 = .ok (.getfield 19, 3) := by decide +kernel
theorem dX7_props_61 : decode cX7_props 61 = .ok (.getfield 89, 3) := by decide +kernel
theorem dX7_props_64 : decode cX7_props 64 = .ok (.iload_n 1, 1) := by decide +kernel
theorem dX7_props_65 : decode cX7_props 65 = .ok (.invokevirtual 200, 3) := by decide +kernel
theorem dX7_props_68 : decode cX7_props 68 = .ok (.istore 5, 2) := by decide +kernel
theorem dX7_props_70 : decode cX7_props 70 = .ok (.iload 5, 2) := by decide +kernel
theorem dX7_props_72 : decode cX7_props 72 = .ok (.iconst (-1), 1) := by decide +kernel
theorem dX7_props_73 : decode cX7_props 73 = .ok (.if_icmp .eq 8, 3) := by decide +kernel
theorem dX7_props_76 : decode cX7_props 76 = .ok (.iload 4, 2) := by decide +kernel
theorem dX7_props_78 : decode cX7_props 78 = .ok (.ifCond .ne 8, 3) := by decide +kernel
theorem dX7_props_81 : decode cX7_props 81 = .ok (.iload 5, 2) := by decide +kernel
theorem dX7_props_83 : decode cX7_props 83 = .ok (.goto 15, 3) := by decide +kernel
theorem dX7_props_86 : decode cX7_props 86 = .ok (.aload_n 0, 1) := by decide +kernel
theorem dX7_props_87 : decode cX7_props 87 = .ok (.getfield 19, 3) := by decide +kernel
theorem dX7_props_90 : decode cX7_props 90 = .ok (.getfield 89, 3) := by decide +kernel
theorem dX7_props_93 : decode cX7_props 93 = .ok (.iload_n 3, 1) := by decide +kernel
theorem dX7_props_94 : decode cX7_props 94 = .ok (.iload_n 1, 1) := by decide +kernel
theorem dX7_props_95 : decode cX7_props 95 = .ok (.invokevirtual 203, 3) := by decide +kernel
theorem dX7_props_98 : decode cX7_props 98 = .ok (.ireturn, 1) := by decide +kernel
theorem dX7_out_0 : decode cX7_out 0 = .ok (.aload_n 0, 1) := by decide +kernel
theorem dX7_out_1 : decode cX7_out 1 = .ok (.getfield 79, 3) := by decide +kernel
theorem dX7_out_4 : decode cX7_out 4 = .ok (.ifCond .eq 13, 3) := by decide +kernel
theorem dX7_out_7 : decode cX7_out 7 = .ok (.aload_n 0, 1) := by decide +kernel
theorem dX7_out_8 : decode cX7_out 8 = .ok (.getfield 19, 3) := by decide +kernel
theorem dX7_out_11 : decode cX7_out 11 = .ok (.invokevirtual 206, 3) := by decide +kernel
theorem dX7_out_14 : decode cX7_out 14 = .ok (.goto 5, 3) := by decide +kernel
theorem dX7_out_17 : decode cX7_out 17 = .ok (.bipush (-103), 2) := by decide +kernel
theorem dX7_out_19 : decode cX7_out 19 = .ok (.ireturn, 1) := by decide +kernel
theorem dX7_knock_0 : decode cX7_knock 0 = .ok (.aload_n 0, 1) := by decide +kernel
theorem dX7_knock_1 : decode cX7_knock 1 = .ok (.iload_n 1, 1) := by decide +kernel
theorem dX7_knock_2 : decode cX7_knock 2 = .ok (.invokevirtual 98, 3) := by decide +kernel
theorem dX7_knock_5 : decode cX7_knock 5 = .ok (.ifCond .ne 6, 3) := by decide +kernel
theorem dX7_knock_8 : decode cX7_knock 8 = .ok (.bipush (-101), 2) := by decide +kernel
theorem dX7_knock_10 : decode cX7_knock 10 = .ok (.ireturn, 1) := by decide +kernel
theorem dX7_knock_11 : decode cX7_knock 11 = .ok (.iload_n 2, 1) := by decide +kernel
theorem dX7_knock_12 : decode cX7_knock 12 = .ok (.ifCond .lt 9, 3) := by decide +kernel
theorem dX7_knock_15 : decode cX7_knock 15 = .ok (.iload_n 2, 1) := by decide +kernel
theorem dX7_knock_16 : decode cX7_knock 16 = .ok (.bipush 20, 2) := by decide +kernel
theorem dX7_knock_18 : decode cX7_knock 18 = .ok (.if_icmp .le 6, 3) := by decide +kernel
theorem dX7_knock_21 : decode cX7_knock 21 = .ok (.bipush (-102), 2) := by decide +kernel
theorem dX7_knock_23 : decode cX7_knock 23 = .ok (.ireturn, 1) := by decide +kernel
theorem dX7_knock_24 : decode cX7_knock 24 = .ok (.aload_n 0, 1) := by decide +kernel
theorem dX7_knock_25 : decode cX7_knock 25 = .ok (.getfield 26, 3) := by decide +kernel
theorem dX7_knock_28 : decode cX7_knock 28 = .ok (.iload_n 1, 1) := by decide +kernel
theorem dX7_knock_29 : decode cX7_knock 29 = .ok (.iload_n 2, 1) := by decide +kernel
theorem dX7_knock_30 : decode cX7_knock 30 = .ok (.iload_n 3, 1) := by decide +kernel
theorem dX7_knock_31 : decode cX7_knock 31 = .ok (.invokevirtual 209, 3) := by decide +kernel
theorem dX7_knock_34 : decode cX7_knock 34 = .ok (.ifCond .eq 13, 3) := by decide +kernel
theorem dX7_knock_37 : decode cX7_knock 37 = .ok (.aload_n 0, 1) := by decide +kernel
theorem dX7_knock_38 : decode cX7_knock 38 = .ok (.getfield 26, 3) := by decide +kernel
theorem dX7_knock_41 : decode cX7_knock 41 = .ok (.getfield 76, 3) := by decide +kernel
theorem dX7_knock_44 : decode cX7_knock 44 = .ok (.goto 5, 3) := by decide +kernel
theorem dX7_knock_47 : decode cX7_knock 47 = .ok (.bipush (-104), 2) := by decide +kernel
theorem dX7_knock_49 : decode cX7_knock 49 = .ok (.ireturn, 1) := by decide +kernel
theorem dX7_forget_0 : decode cX7_forget 0 = .ok (.aload_n 0, 1) := by decide +kernel
theorem dX7_forget_1 : decode cX7_forget 1 = .ok (.getfield 26, 3) := by decide +kernel
theorem dX7_forget_4 : decode cX7_forget 4 = .ok (.getfield 76, 3) := by decide +kernel
theorem dX7_forget_7 : decode cX7_forget 7 = .ok (.istore_n 1, 1) := by decide +kernel
theorem dX7_forget_8 : decode cX7_forget 8 = .ok (.aload_n 0, 1) := by decide +kernel
theorem dX7_forget_9 : decode cX7_forget 9 = .ok (.getfield 26, 3) := by decide +kernel
theorem dX7_forget_12 : decode cX7_forget 12 = .ok (.iconst 0, 1) := by decide +kernel
theorem dX7_forget_13 : decode cX7_forget 13 = .ok (.putfield 76, 3) := by decide +kernel
theorem dX7_forget_16 : decode cX7_forget 16 = .ok (.iload_n 1, 1) := by decide +kernel
theorem dX7_forget_17 : decode cX7_forget 17 = .ok (.ireturn, 1) := by decide +kernel
theorem dX7_years_0 : decode cX7_years 0 = .ok (.iload_n 1, 1) := by decide +kernel
theorem dX7_years_1 : decode cX7_years 1 = .ok (.iconst 1, 1) := by decide +kernel
theorem dX7_years_2 : decode cX7_years 2 = .ok (.if_icmp .lt 22, 3) := by decide +kernel
theorem dX7_years_5 : decode cX7_years 5 = .ok (.iload_n 1, 1) := by decide +kernel
theorem dX7_years_6 : decode cX7_years 6 = .ok (.bipush 60, 2) := by decide +kernel
theorem dX7_years_8 : decode cX7_years 8 = .ok (.if_icmp .gt 16, 3) := by decide +kernel
theorem dX7_years_11 : decode cX7_years 11 = .ok (.iload_n 2, 1) := by decide +kernel
theorem dX7_years_12 : decode cX7_years 12 = .ok (.ifCond .lt 12, 3) := by decide +kernel
theorem dX7_years_15 : decode cX7_years 15 = .ok (.iload_n 3, 1) := by decide +kernel
theorem dX7_years_16 : decode cX7_years 16 = .ok (.ifCond .lt 8, 3) := by decide +kernel
theorem dX7_years_19 : decode cX7_years 19 = .ok (.iload_n 3, 1) := by decide +kernel
theorem dX7_years_20 : decode cX7_years 20 = .ok (.iconst 2, 1) := by decide +kernel
theorem dX7_years_21 : decode cX7_years 21 = .ok (.if_icmp .le 6, 3) := by decide +kernel
theorem dX7_years_24 : decode cX7_years 24 = .ok (.bipush (-102), 2) := by decide +kernel
theorem dX7_years_26 : decode cX7_years 26 = .ok (.ireturn, 1) := by decide +kernel
theorem dX7_years_27 : decode cX7_years 27 = .ok (.aload_n 0, 1) := by decide +kernel
theorem dX7_years_28 : decode cX7_years 28 = .ok (.getfield 19, 3) := by decide +kernel
theorem dX7_years_31 : decode cX7_years 31 = .ok (.getfield 140, 3) := by decide +kernel
theorem dX7_years_34 : decode cX7_years 34 = .ok (.iconst 1, 1) := by decide +kernel
theorem dX7_years_35 : decode cX7_years 35 = .ok (.if_icmp .ge 6, 3) := by decide +kernel
theorem dX7_years_38 : decode cX7_years 38 = .ok (.bipush (-103), 2) := by decide +kernel
theorem dX7_years_40 : decode cX7_years 40 = .ok (.ireturn, 1) := by decide +kernel
theorem dX7_years_41 : decode cX7_years 41 = .ok (.aload_n 0, 1) := by decide +kernel
theorem dX7_years_42 : decode cX7_years 42 = .ok (.getfield 56, 3) := by decide +kernel
theorem dX7_years_45 : decode cX7_years 45 = .ok (.iload_n 2, 1) := by decide +kernel
theorem dX7_years_46 : decode cX7_years 46 = .ok (.putfield 213, 3) := by decide +kernel
theorem dX7_years_49 : decode cX7_years 49 = .ok (.aload_n 0, 1) := by decide +kernel
theorem dX7_years_50 : decode cX7_years 50 = .ok (.getfield 36, 3) := by decide +kernel
theorem dX7_years_53 : decode cX7_years 53 = .ok (.aload_n 0, 1) := by decide +kernel
theorem dX7_years_54 : decode cX7_years 54 = .ok (.getfield 19, 3) := by decide +kernel
theorem dX7_years_57 : decode cX7_years 57 = .ok (.invokevirtual 216, 3) := by decide +kernel
theorem dX7_years_60 : decode cX7_years 60 = .ok (.iconst 0, 1) := by decide +kernel
theorem dX7_years_61 : decode cX7_years 61 = .ok (.istore 4, 2) := by decide +kernel
theorem dX7_years_63 : decode cX7_years 63 = .ok (.iconst 0, 1) := by decide +kernel
theorem dX7_years_64 : decode cX7_years 64 = .ok (.istore 5, 2) := by decide +kernel
theorem dX7_years_66 : decode cX7_years 66 = .ok (.iload 5, 2) := by decide +kernel
theorem dX7_years_68 : decode cX7_years 68 = .ok (.iload_n 1, 1) := by decide +kernel
theorem dX7_years_69 : decode cX7_years 69 = .ok (.if_icmp .ge 60, 3) := by decide +kernel
theorem dX7_years_72 : decode cX7_years 72 = .ok (.aload_n 0, 1) := by decide +kernel
theorem dX7_years_73 : decode cX7_years 73 = .ok (.getfield 56, 3) := by decide +kernel
theorem dX7_years_76 : decode cX7_years 76 = .ok (.aload_n 0, 1) := by decide +kernel
theorem dX7_years_77 : decode cX7_years 77 = .ok (.getfield 36, 3) := by decide +kernel
theorem dX7_years_80 : decode cX7_years 80 = .ok (.getfield 140, 3) := by decide +kernel
theorem dX7_years_83 : decode cX7_years 83 = .ok (.invokevirtual 219, 3) := by decide +kernel
theorem dX7_years_86 : decode cX7_years 86 = .ok (.istore 6, 2) := by decide +kernel
theorem dX7_years_88 : decode cX7_years 88 = .ok (.aload_n 0, 1) := by decide +kernel
theorem dX7_years_89 : decode cX7_years 89 = .ok (.getfield 56, 3) := by decide +kernel
theorem dX7_years_92 : decode cX7_years 92 = .ok (.bipush 6, 2) := by decide +kernel
theorem dX7_years_94 : decode cX7_years 94 = .ok (.invokevirtual 219, 3) := by decide +kernel
theorem dX7_years_97 : decode cX7_years 97 = .ok (.istore 7, 2) := by decide +kernel
theorem dX7_years_99 : decode cX7_years 99 = .ok (.aload_n 0, 1) := by decide +kernel
theorem dX7_years_100 : decode cX7_years 100 = .ok (.getfield 36, 3) := by decide +kernel
theorem dX7_years_103 : decode cX7_years 103 = .ok (.iload 6, 2) := by decide +kernel
theorem dX7_years_105 : decode cX7_years 105 = .ok (.iload 7, 2) := by decide +kernel
theorem dX7_years_107 : decode cX7_years 107 = .ok (.invokevirtual 172, 3) := by decide +kernel
theorem dX7_years_110 : decode cX7_years 110 = .ok (.pop, 1) := by decide +kernel
theorem dX7_years_111 : decode cX7_years 111 = .ok (.iload 4, 2) := by decide +kernel
theorem dX7_years_113 : decode cX7_years 113 = .ok (.aload_n 0, 1) := by decide +kernel
theorem dX7_years_114 : decode cX7_years 114 = .ok (.getfield 36, 3) := by decide +kernel
theorem dX7_years_117 : decode cX7_years 117 = .ok (.invokevirtual 175, 3) := by decide +kernel
theorem dX7_years_120 : decode cX7_years 120 = .ok (.iadd, 1) := by decide +kernel
theorem dX7_years_121 : decode cX7_years 121 = .ok (.istore 4, 2) := by decide +kernel
theorem dX7_years_123 : decode cX7_years 123 = .ok (.iinc 5 1, 3) := by decide +kernel
theorem dX7_years_126 : decode cX7_years 126 = .ok (.goto (-60), 3) := by decide +kernel
theorem dX7_years_129 : decode cX7_years 129 = .ok (.iload_n 3, 1) := by decide +kernel
theorem dX7_years_130 : decode cX7_years 130 = .ok (.iconst 2, 1) := by decide +kernel
theorem dX7_years_131 : decode cX7_years 131 = .ok (.if_icmp .ne 11, 3) := by decide +kernel
theorem dX7_years_134 : decode cX7_years 134 = .ok (.aload_n 0, 1) := by decide +kernel
theorem dX7_years_135 : decode cX7_years 135 = .ok (.getfield 56, 3) := by decide +kernel
theorem dX7_years_138 : decode cX7_years 138 = .ok (.getfield 213, 3) := by decide +kernel
theorem dX7_years_141 : decode cX7_years 141 = .ok (.ireturn, 1) := by decide +kernel
theorem dX7_years_142 : decode cX7_years 142 = .ok (.iload_n 3, 1) := by decide +kernel
theorem dX7_years_143 : decode cX7_years 143 = .ok (.ifCond .ne 8, 3) := by decide +kernel
theorem dX7_years_146 : decode cX7_years 146 = .ok (.iload 4, 2) := by decide +kernel
theorem dX7_years_148 : decode cX7_years 148 = .ok (.goto 13, 3) := by decide +kernel
theorem dX7_years_151 : decode cX7_years 151 = .ok (.aload_n 0, 1) := by decide +kernel
theorem dX7_years_152 : decode cX7_years 152 = .ok (.getfield 36, 3) := by decide +kernel
theorem dX7_years_155 : decode cX7_years 155 = .ok (.invokevirtual 165, 3) := by decide +kernel
theorem dX7_years_158 : decode cX7_years 158 = .ok (.invokestatic 222, 3) := by decide +kernel
theorem dX7_years_161 : decode cX7_years 161 = .ok (.ireturn, 1) := by decide +kernel
theorem dX7_image_0 : decode cX7_image 0 = .ok (.aload_n 0, 1) := by decide +kernel
theorem dX7_image_1 : decode cX7_image 1 = .ok (.getfield 79, 3) := by decide +kernel
theorem dX7_image_4 : decode cX7_image 4 = .ok (.ifCond .ne 6, 3) := by decide +kernel
theorem dX7_image_7 : decode cX7_image 7 = .ok (.bipush (-103), 2) := by decide +kernel
theorem dX7_image_9 : decode cX7_image 9 = .ok (.ireturn, 1) := by decide +kernel
theorem dX7_image_10 : decode cX7_image 10 = .ok (.aload_n 0, 1) := by decide +kernel
theorem dX7_image_11 : decode cX7_image 11 = .ok (.getfield 30, 3) := by decide +kernel
theorem dX7_image_14 : decode cX7_image 14 = .ok (.aload_n 0, 1) := by decide +kernel
theorem dX7_image_15 : decode cX7_image 15 = .ok (.getfield 19, 3) := by decide +kernel
theorem dX7_image_18 : decode cX7_image 18 = .ok (.invokevirtual 216, 3) := by decide +kernel
theorem dX7_image_21 : decode cX7_image 21 = .ok (.aload_n 0, 1) := by decide +kernel
theorem dX7_image_22 : decode cX7_image 22 = .ok (.getfield 33, 3) := by decide +kernel
theorem dX7_image_25 : decode cX7_image 25 = .ok (.aload_n 0, 1) := by decide +kernel
theorem dX7_image_26 : decode cX7_image 26 = .ok (.getfield 26, 3) := by decide +kernel
theorem dX7_image_29 : decode cX7_image 29 = .ok (.invokevirtual 227, 3) := by decide +kernel
theorem dX7_image_32 : decode cX7_image 32 = .ok (.aload_n 0, 1) := by decide +kernel
theorem dX7_image_33 : decode cX7_image 33 = .ok (.iconst 1, 1) := by decide +kernel
theorem dX7_image_34 : decode cX7_image 34 = .ok (.putfield 83, 3) := by decide +kernel
theorem dX7_image_37 : decode cX7_image 37 = .ok (.aload_n 0, 1) := by decide +kernel
theorem dX7_image_38 : decode cX7_image 38 = .ok (.getfield 19, 3) := by decide +kernel
theorem dX7_image_41 : decode cX7_image 41 = .ok (.getfield 230, 3) := by decide +kernel
theorem dX7_image_44 : decode cX7_image 44 = .ok (.ireturn, 1) := by decide +kernel
theorem dX7_restore_0 : decode cX7_restore 0 = .ok (.aload_n 0, 1) := by decide +kernel
theorem dX7_restore_1 : decode cX7_restore 1 = .ok (.getfield 83, 3) := by decide +kernel
theorem dX7_restore_4 : decode cX7_restore 4 = .ok (.ifCond .ne 6, 3) := by decide +kernel
theorem dX7_restore_7 : decode cX7_restore 7 = .ok (.bipush (-103), 2) := by decide +kernel
theorem dX7_restore_9 : decode cX7_restore 9 = .ok (.ireturn, 1) := by decide +kernel
theorem dX7_restore_10 : decode cX7_restore 10 = .ok (.aload_n 0, 1) := by decide +kernel
theorem dX7_restore_11 : decode cX7_restore 11 = .ok (.getfield 19, 3) := by decide +kernel
theorem dX7_restore_14 : decode cX7_restore 14 = .ok (.aload_n 0, 1) := by decide +kernel
theorem dX7_restore_15 : decode cX7_restore 15 = .ok (.getfield 30, 3) := by decide +kernel
theorem dX7_restore_18 : decode cX7_restore 18 = .ok (.invokevirtual 216, 3) := by decide +kernel
theorem dX7_restore_21 : decode cX7_restore 21 = .ok (.aload_n 0, 1) := by decide +kernel
theorem dX7_restore_22 : decode cX7_restore 22 = .ok (.getfield 26, 3) := by decide +kernel
theorem dX7_restore_25 : decode cX7_restore 25 = .ok (.aload_n 0, 1) := by decide +kernel
theorem dX7_restore_26 : decode cX7_restore 26 = .ok (.getfield 33, 3) := by decide +kernel
theorem dX7_restore_29 : decode cX7_restore 29 = .ok (.invokevirtual 227, 3) := by decide +kernel
theorem dX7_restore_32 : decode cX7_restore 32 = .ok (.aload_n 0, 1) := by decide +kernel
theorem dX7_restore_33 : decode cX7_restore 33 = .ok (.getfield 19, 3) := by decide +kernel
theorem dX7_restore_36 : decode cX7_restore 36 = .ok (.getfield 230, 3) := by decide +kernel
theorem dX7_restore_39 : decode cX7_restore 39 = .ok (.ireturn, 1) := by decide +kernel
theorem dX7_count_0 : decode cX7_count 0 = .ok (.iload_n 1, 1) := by decide +kernel
theorem dX7_count_1 : decode cX7_count 1 = .ok (.tableswitch 171 0 12 #[67, 78, 86, 94, 102, 110, 121, 129, 137, 145, 153, 161, 166], 67) := by decide +kernel
theorem dX7_count_68 : decode cX7_count 68 = .ok (.aload_n 0, 1) := by decide +kernel
theorem dX7_count_69 : decode cX7_count 69 = .ok (.getfield 19, 3) := by decide +kernel
theorem dX7_count_72 : decode cX7_count 72 = .ok (.getfield 89, 3) := by decide +kernel
theorem dX7_count_75 : decode cX7_count 75 = .ok (.invokevirtual 93, 3) := by decide +kernel
theorem dX7_count_78 : decode cX7_count 78 = .ok (.ireturn, 1) := by decide +kernel
theorem dX7_count_79 : decode cX7_count 79 = .ok (.aload_n 0, 1) := by decide +kernel
theorem dX7_count_80 : decode cX7_count 80 = .ok (.getfield 19, 3) := by decide +kernel
theorem dX7_count_83 : decode cX7_count 83 = .ok (.getfield 233, 3) := by decide +kernel
theorem dX7_count_86 : decode cX7_count 86 = .ok (.ireturn, 1) := by decide +kernel
theorem dX7_count_87 : decode cX7_count 87 = .ok (.aload_n 0, 1) := by decide +kernel
theorem dX7_count_88 : decode cX7_count 88 = .ok (.getfield 19, 3) := by decide +kernel
theorem dX7_count_91 : decode cX7_count 91 = .ok (.getfield 236, 3) := by decide +kernel
theorem dX7_count_94 : decode cX7_count 94 = .ok (.ireturn, 1) := by decide +kernel
theorem dX7_count_95 : decode cX7_count 95 = .ok (.aload_n 0, 1) := by decide +kernel
theorem dX7_count_96 : decode cX7_count 96 = .ok (.getfield 19, 3) := by decide +kernel
theorem dX7_count_99 : decode cX7_count 99 = .ok (.getfield 140, 3) := by decide +kernel
theorem dX7_count_102 : decode cX7_count 102 = .ok (.ireturn, 1) := by decide +kernel
theorem dX7_count_103 : decode cX7_count 103 = .ok (.aload_n 0, 1) := by decide +kernel
theorem dX7_count_104 : decode cX7_count 104 = .ok (.getfield 19, 3) := by decide +kernel
theorem dX7_count_107 : decode cX7_count 107 = .ok (.invokevirtual 239, 3) := by decide +kernel
theorem dX7_count_110 : decode cX7_count 110 = .ok (.ireturn, 1) := by decide +kernel
theorem dX7_count_111 : decode cX7_count 111 = .ok (.aload_n 0, 1) := by decide +kernel
theorem dX7_count_112 : decode cX7_count 112 = .ok (.getfield 19, 3) := by decide +kernel
theorem dX7_count_115 : decode cX7_count 115 = .ok (.invokevirtual 165, 3) := by decide +kernel
theorem dX7_count_118 : decode cX7_count 118 = .ok (.invokestatic 222, 3) := by decide +kernel
theorem dX7_count_121 : decode cX7_count 121 = .ok (.ireturn, 1) := by decide +kernel
theorem dX7_count_122 : decode cX7_count 122 = .ok (.aload_n 0, 1) := by decide +kernel
theorem dX7_count_123 : decode cX7_count 123 = .ok (.getfield 19, 3) := by decide +kernel
theorem dX7_count_126 : decode cX7_count 126 = .ok (.getfield 230, 3) := by decide +kernel
theorem dX7_count_129 : decode cX7_count 129 = .ok (.ireturn, 1) := by decide +kernel
theorem dX7_count_130 : decode cX7_count 130 = .ok (.aload_n 0, 1) := by decide +kernel
theorem dX7_count_131 : decode cX7_count 131 = .ok (.getfield 19, 3) := by decide +kernel
theorem dX7_count_134 : decode cX7_count 134 = .ok (.getfield 242, 3) := by decide +kernel
theorem dX7_count_137 : decode cX7_count 137 = .ok (.ireturn, 1) := by decide +kernel
theorem dX7_count_138 : decode cX7_count 138 = .ok (.aload_n 0, 1) := by decide +kernel
theorem dX7_count_139 : decode cX7_count 139 = .ok (.getfield 19, 3) := by decide +kernel
theorem dX7_count_142 : decode cX7_count 142 = .ok (.getfield 134, 3) := by decide +kernel
theorem dX7_count_145 : decode cX7_count 145 = .ok (.ireturn, 1) := by decide +kernel
theorem dX7_count_146 : decode cX7_count 146 = .ok (.aload_n 0, 1) := by decide +kernel
theorem dX7_count_147 : decode cX7_count 147 = .ok (.getfield 26, 3) := by decide +kernel
theorem dX7_count_150 : decode cX7_count 150 = .ok (.getfield 76, 3) := by decide +kernel
theorem dX7_count_153 : decode cX7_count 153 = .ok (.ireturn, 1) := by decide +kernel
theorem dX7_count_154 : decode cX7_count 154 = .ok (.aload_n 0, 1) := by decide +kernel
theorem dX7_count_155 : decode cX7_count 155 = .ok (.getfield 12, 3) := by decide +kernel
theorem dX7_count_158 : decode cX7_count 158 = .ok (.getfield 64, 3) := by decide +kernel
theorem dX7_count_161 : decode cX7_count 161 = .ok (.ireturn, 1) := by decide +kernel
theorem dX7_count_162 : decode cX7_count 162 = .ok (.aload_n 0, 1) := by decide +kernel
theorem dX7_count_163 : decode cX7_count 163 = .ok (.getfield 86, 3) := by decide +kernel
theorem dX7_count_166 : decode cX7_count 166 = .ok (.ireturn, 1) := by decide +kernel
theorem dX7_count_167 : decode cX7_count 167 = .ok (.aload_n 0, 1) := by decide +kernel
theorem dX7_count_168 : decode cX7_count 168 = .ok (.getfield 184, 3) := by decide +kernel
theorem dX7_count_171 : decode cX7_count 171 = .ok (.ireturn, 1) := by decide +kernel
theorem dX7_count_172 : decode cX7_count 172 = .ok (.bipush (-102), 2) := by decide +kernel
theorem dX7_count_174 : decode cX7_count 174 = .ok (.ireturn, 1) := by decide +kernel
theorem dX7_digest_0 : decode cX7_digest 0 = .ok (.ldc2_w 245, 3) := by decide +kernel
theorem dX7_digest_3 : decode cX7_digest 3 = .ok (.lstore_n 1, 1) := by decide +kernel
theorem dX7_digest_4 : decode cX7_digest 4 = .ok (.aload_n 0, 1) := by decide +kernel
theorem dX7_digest_5 : decode cX7_digest 5 = .ok (.getfield 79, 3) := by decide +kernel
theorem dX7_digest_8 : decode cX7_digest 8 = .ok (.ifCond .eq 9, 3) := by decide +kernel
theorem dX7_digest_11 : decode cX7_digest 11 = .ok (.aload_n 0, 1) := by decide +kernel
theorem dX7_digest_12 : decode cX7_digest 12 = .ok (.lload_n 1, 1) := by decide +kernel
theorem dX7_digest_13 : decode cX7_digest 13 = .ok (.invokevirtual 247, 3) := by decide +kernel
theorem dX7_digest_16 : decode cX7_digest 16 = .ok (.lstore_n 1, 1) := by decide +kernel
theorem dX7_digest_17 : decode cX7_digest 17 = .ok (.iconst 0, 1) := by decide +kernel
theorem dX7_digest_18 : decode cX7_digest 18 = .ok (.istore_n 3, 1) := by decide +kernel
theorem dX7_digest_19 : decode cX7_digest 19 = .ok (.iload_n 3, 1) := by decide +kernel
theorem dX7_digest_20 : decode cX7_digest 20 = .ok (.aload_n 0, 1) := by decide +kernel
theorem dX7_digest_21 : decode cX7_digest 21 = .ok (.getfield 19, 3) := by decide +kernel
theorem dX7_digest_24 : decode cX7_digest 24 = .ok (.getfield 140, 3) := by decide +kernel
theorem dX7_digest_27 : decode cX7_digest 27 = .ok (.if_icmp .ge 37, 3) := by decide +kernel
theorem dX7_digest_30 : decode cX7_digest 30 = .ok (.iconst 0, 1) := by decide +kernel
theorem dX7_digest_31 : decode cX7_digest 31 = .ok (.istore 4, 2) := by decide +kernel
theorem dX7_digest_33 : decode cX7_digest 33 = .ok (.iload 4, 2) := by decide +kernel
theorem dX7_digest_35 : decode cX7_digest 35 = .ok (.iconst 5, 1) := by decide +kernel
theorem dX7_digest_36 : decode cX7_digest 36 = .ok (.if_icmp .gt 22, 3) := by decide +kernel
theorem dX7_digest_39 : decode cX7_digest 39 = .ok (.lload_n 1, 1) := by decide +kernel
theorem dX7_digest_40 : decode cX7_digest 40 = .ok (.aload_n 0, 1) := by decide +kernel
theorem dX7_digest_41 : decode cX7_digest 41 = .ok (.iload_n 3, 1) := by decide +kernel
theorem dX7_digest_42 : decode cX7_digest 42 = .ok (.iload 4, 2) := by decide +kernel
theorem dX7_digest_44 : decode cX7_digest 44 = .ok (.invokevirtual 251, 3) := by decide +kernel
theorem dX7_digest_47 : decode cX7_digest 47 = .ok (.i2l, 1) := by decide +kernel
theorem dX7_digest_48 : decode cX7_digest 48 = .ok (.invokestatic 254, 3) := by decide +kernel
theorem dX7_digest_51 : decode cX7_digest 51 = .ok (.lstore_n 1, 1) := by decide +kernel
theorem dX7_digest_52 : decode cX7_digest 52 = .ok (.iinc 4 1, 3) := by decide +kernel
theorem dX7_digest_55 : decode cX7_digest 55 = .ok (.goto (-22), 3) := by decide +kernel
theorem dX7_digest_58 : decode cX7_digest 58 = .ok (.iinc 3 1, 3) := by decide +kernel
theorem dX7_digest_61 : decode cX7_digest 61 = .ok (.goto (-42), 3) := by decide +kernel
theorem dX7_digest_64 : decode cX7_digest 64 = .ok (.aload_n 0, 1) := by decide +kernel
theorem dX7_digest_65 : decode cX7_digest 65 = .ok (.getfield 79, 3) := by decide +kernel
theorem dX7_digest_68 : decode cX7_digest 68 = .ok (.ifCond .eq 9, 3) := by decide +kernel
theorem dX7_digest_71 : decode cX7_digest 71 = .ok (.aload_n 0, 1) := by decide +kernel
theorem dX7_digest_72 : decode cX7_digest 72 = .ok (.lload_n 1, 1) := by decide +kernel
theorem dX7_digest_73 : decode cX7_digest 73 = .ok (.invokevirtual 258, 3) := by decide +kernel
theorem dX7_digest_76 : decode cX7_digest 76 = .ok (.lstore_n 1, 1) := by decide +kernel
theorem dX7_digest_77 : decode cX7_digest 77 = .ok (.iconst 0, 1) := by decide +kernel
theorem dX7_digest_78 : decode cX7_digest 78 = .ok (.istore_n 3, 1) := by decide +kernel
theorem dX7_digest_79 : decode cX7_digest 79 = .ok (.iload_n 3, 1) := by decide +kernel
theorem dX7_digest_80 : decode cX7_digest 80 = .ok (.aload_n 0, 1) := by decide +kernel
theorem dX7_digest_81 : decode cX7_digest 81 = .ok (.getfield 12, 3) := by decide +kernel
theorem dX7_digest_84 : decode cX7_digest 84 = .ok (.getfield 64, 3) := by decide +kernel
theorem dX7_digest_87 : decode cX7_digest 87 = .ok (.if_icmp .ge 30, 3) := by decide +kernel
theorem dX7_digest_90 : decode cX7_digest 90 = .ok (.iload_n 3, 1) := by decide +kernel
theorem dX7_digest_91 : decode cX7_digest 91 = .ok (.bipush 12, 2) := by decide +kernel
theorem dX7_digest_93 : decode cX7_digest 93 = .ok (.if_icmp .ge 24, 3) := by decide +kernel
theorem dX7_digest_96 : decode cX7_digest 96 = .ok (.lload_n 1, 1) := by decide +kernel
theorem dX7_digest_97 : decode cX7_digest 97 = .ok (.aload_n 0, 1) := by decide +kernel
theorem dX7_digest_98 : decode cX7_digest 98 = .ok (.getfield 12, 3) := by decide +kernel
theorem dX7_digest_101 : decode cX7_digest 101 = .ok (.getfield 261, 3) := by decide +kernel
theorem dX7_digest_104 : decode cX7_digest 104 = .ok (.iload_n 3, 1) := by decide +kernel
theorem dX7_digest_105 : decode cX7_digest 105 = .ok (.iaload, 1) := by decide +kernel
theorem dX7_digest_106 : decode cX7_digest 106 = .ok (.i2l, 1) := by decide +kernel
theorem dX7_digest_107 : decode cX7_digest 107 = .ok (.invokestatic 254, 3) := by decide +kernel
theorem dX7_digest_110 : decode cX7_digest 110 = .ok (.lstore_n 1, 1) := by decide +kernel
theorem dX7_digest_111 : decode cX7_digest 111 = .ok (.iinc 3 1, 3) := by decide +kernel
theorem dX7_digest_114 : decode cX7_digest 114 = .ok (.goto (-35), 3) := by decide +kernel
theorem dX7_digest_117 : decode cX7_digest 117 = .ok (.iconst 0, 1) := by decide +kernel
theorem dX7_digest_118 : decode cX7_digest 118 = .ok (.istore_n 3, 1) := by decide +kernel
theorem dX7_digest_119 : decode cX7_digest 119 = .ok (.iload_n 3, 1) := by decide +kernel
theorem dX7_digest_120 : decode cX7_digest 120 = .ok (.bipush 12, 2) := by decide +kernel
theorem dX7_digest_122 : decode cX7_digest 122 = .ok (.if_icmp .gt 20, 3) := by decide +kernel
theorem dX7_digest_125 : decode cX7_digest 125 = .ok (.lload_n 1, 1) := by decide +kernel
theorem dX7_digest_126 : decode cX7_digest 126 = .ok (.aload_n 0, 1) := by decide +kernel
theorem dX7_digest_127 : decode cX7_digest 127 = .ok (.iload_n 3, 1) := by decide +kernel
theorem dX7_digest_128 : decode cX7_digest 128 = .ok (.invokevirtual 264, 3) := by decide +kernel
theorem dX7_digest_131 : decode cX7_digest 131 = .ok (.i2l, 1) := by decide +kernel
theorem dX7_digest_132 : decode cX7_digest 132 = .ok (.invokestatic 254, 3) := by decide +kernel
theorem dX7_digest_135 : decode cX7_digest 135 = .ok (.lstore_n 1, 1) := by decide +kernel
theorem dX7_digest_136 : decode cX7_digest 136 = .ok (.iinc 3 1, 3) := by decide +kernel
theorem dX7_digest_139 : decode cX7_digest 139 = .ok (.goto (-20), 3) := by decide +kernel
theorem dX7_digest_142 : decode cX7_digest 142 = .ok (.lload_n 1, 1) := by decide +kernel
theorem dX7_digest_143 : decode cX7_digest 143 = .ok (.lreturn, 1) := by decide +kernel
theorem dX7_mixPlaces_0 : decode cX7_mixPlaces 0 = .ok (.lload_n 1, 1) := by decide +kernel
theorem dX7_mixPlaces_1 : decode cX7_mixPlaces 1 = .ok (.lstore_n 3, 1) := by decide +kernel
theorem dX7_mixPlaces_2 : decode cX7_mixPlaces 2 = .ok (.iconst 0, 1) := by decide +kernel
theorem dX7_mixPlaces_3 : decode cX7_mixPlaces 3 = .ok (.istore 5, 2) := by decide +kernel
theorem dX7_mixPlaces_5 : decode cX7_mixPlaces 5 = .ok (.iload 5, 2) := by decide +kernel
theorem dX7_mixPlaces_7 : decode cX7_mixPlaces 7 = .ok (.bipush 6, 2) := by decide +kernel
theorem dX7_mixPlaces_9 : decode cX7_mixPlaces 9 = .ok (.if_icmp .ge 38, 3) := by decide +kernel
theorem dX7_mixPlaces_12 : decode cX7_mixPlaces 12 = .ok (.iconst 0, 1) := by decide +kernel
theorem dX7_mixPlaces_13 : decode cX7_mixPlaces 13 = .ok (.istore 6, 2) := by decide +kernel
theorem dX7_mixPlaces_15 : decode cX7_mixPlaces 15 = .ok (.iload 6, 2) := by decide +kernel
theorem dX7_mixPlaces_17 : decode cX7_mixPlaces 17 = .ok (.iconst 5, 1) := by decide +kernel
theorem dX7_mixPlaces_18 : decode cX7_mixPlaces 18 = .ok (.if_icmp .gt 23, 3) := by decide +kernel
theorem dX7_mixPlaces_21 : decode cX7_mixPlaces 21 = .ok (.lload_n 3, 1) := by decide +kernel
theorem dX7_mixPlaces_22 : decode cX7_mixPlaces 22 = .ok (.aload_n 0, 1) := by decide +kernel
theorem dX7_mixPlaces_23 : decode cX7_mixPlaces 23 = .ok (.iload 5, 2) := by decide +kernel
theorem dX7_mixPlaces_25 : decode cX7_mixPlaces 25 = .ok (.iload 6, 2) := by decide +kernel
theorem dX7_mixPlaces_27 : decode cX7_mixPlaces 27 = .ok (.invokevirtual 267, 3) := by decide +kernel
theorem dX7_mixPlaces_30 : decode cX7_mixPlaces 30 = .ok (.i2l, 1) := by decide +kernel
theorem dX7_mixPlaces_31 : decode cX7_mixPlaces 31 = .ok (.invokestatic 254, 3) := by decide +kernel
theorem dX7_mixPlaces_34 : decode cX7_mixPlaces 34 = .ok (.lstore_n 3, 1) := by decide +kernel
theorem dX7_mixPlaces_35 : decode cX7_mixPlaces 35 = .ok (.iinc 6 1, 3) := by decide +kernel
theorem dX7_mixPlaces_38 : decode cX7_mixPlaces 38 = .ok (.goto (-23), 3) := by decide +kernel
theorem dX7_mixPlaces_41 : decode cX7_mixPlaces 41 = .ok (.iinc 5 1, 3) := by decide +kernel
theorem dX7_mixPlaces_44 : decode cX7_mixPlaces 44 = .ok (.goto (-39), 3) := by decide +kernel
theorem dX7_mixPlaces_47 : decode cX7_mixPlaces 47 = .ok (.lload_n 3, 1) := by decide +kernel
theorem dX7_mixPlaces_48 : decode cX7_mixPlaces 48 = .ok (.lreturn, 1) := by decide +kernel
theorem dX7_mixWouldBe_0 : decode cX7_mixWouldBe 0 = .ok (.lload_n 1, 1) := by decide +kernel
theorem dX7_mixWouldBe_1 : decode cX7_mixWouldBe 1 = .ok (.aload_n 0, 1) := by decide +kernel
theorem dX7_mixWouldBe_2 : decode cX7_mixWouldBe 2 = .ok (.invokevirtual 270, 3) := by decide +kernel
theorem dX7_mixWouldBe_5 : decode cX7_mixWouldBe 5 = .ok (.i2l, 1) := by decide +kernel
theorem dX7_mixWouldBe_6 : decode cX7_mixWouldBe 6 = .ok (.invokestatic 254, 3) := by decide +kernel
theorem dX7_mixWouldBe_9 : decode cX7_mixWouldBe 9 = .ok (.aload_n 0, 1) := by decide +kernel
theorem dX7_mixWouldBe_10 : decode cX7_mixWouldBe 10 = .ok (.invokevirtual 273, 3) := by decide +kernel
theorem dX7_mixWouldBe_13 : decode cX7_mixWouldBe 13 = .ok (.i2l, 1) := by decide +kernel
theorem dX7_mixWouldBe_14 : decode cX7_mixWouldBe 14 = .ok (.invokestatic 254, 3) := by decide +kernel
theorem dX7_mixWouldBe_17 : decode cX7_mixWouldBe 17 = .ok (.lstore_n 3, 1) := by decide +kernel
theorem dX7_mixWouldBe_18 : decode cX7_mixWouldBe 18 = .ok (.lload_n 3, 1) := by decide +kernel
theorem dX7_mixWouldBe_19 : decode cX7_mixWouldBe 19 = .ok (.aload_n 0, 1) := by decide +kernel
theorem dX7_mixWouldBe_20 : decode cX7_mixWouldBe 20 = .ok (.iconst 5, 1) := by decide +kernel
theorem dX7_mixWouldBe_21 : decode cX7_mixWouldBe 21 = .ok (.iconst 0, 1) := by decide +kernel
theorem dX7_mixWouldBe_22 : decode cX7_mixWouldBe 22 = .ok (.invokevirtual 276, 3) := by decide +kernel
theorem dX7_mixWouldBe_25 : decode cX7_mixWouldBe 25 = .ok (.i2l, 1) := by decide +kernel
theorem dX7_mixWouldBe_26 : decode cX7_mixWouldBe 26 = .ok (.invokestatic 254, 3) := by decide +kernel
theorem dX7_mixWouldBe_29 : decode cX7_mixWouldBe 29 = .ok (.lstore_n 3, 1) := by decide +kernel
theorem dX7_mixWouldBe_30 : decode cX7_mixWouldBe 30 = .ok (.bipush 10, 2) := by decide +kernel
theorem dX7_mixWouldBe_32 : decode cX7_mixWouldBe 32 = .ok (.istore 5, 2) := by decide +kernel
theorem dX7_mixWouldBe_34 : decode cX7_mixWouldBe 34 = .ok (.iload 5, 2) := by decide +kernel
theorem dX7_mixWouldBe_36 : decode cX7_mixWouldBe 36 = .ok (.bipush 15, 2) := by decide +kernel
theorem dX7_mixWouldBe_38 : decode cX7_mixWouldBe 38 = .ok (.if_icmp .gt 22, 3) := by decide +kernel
theorem dX7_mixWouldBe_41 : decode cX7_mixWouldBe 41 = .ok (.lload_n 3, 1) := by decide +kernel
theorem dX7_mixWouldBe_42 : decode cX7_mixWouldBe 42 = .ok (.aload_n 0, 1) := by decide +kernel
theorem dX7_mixWouldBe_43 : decode cX7_mixWouldBe 43 = .ok (.iconst 5, 1) := by decide +kernel
theorem dX7_mixWouldBe_44 : decode cX7_mixWouldBe 44 = .ok (.iload 5, 2) := by decide +kernel
theorem dX7_mixWouldBe_46 : decode cX7_mixWouldBe 46 = .ok (.invokevirtual 276, 3) := by decide +kernel
theorem dX7_mixWouldBe_49 : decode cX7_mixWouldBe 49 = .ok (.i2l, 1) := by decide +kernel
theorem dX7_mixWouldBe_50 : decode cX7_mixWouldBe 50 = .ok (.invokestatic 254, 3) := by decide +kernel
theorem dX7_mixWouldBe_53 : decode cX7_mixWouldBe 53 = .ok (.lstore_n 3, 1) := by decide +kernel
theorem dX7_mixWouldBe_54 : decode cX7_mixWouldBe 54 = .ok (.iinc 5 1, 3) := by decide +kernel
theorem dX7_mixWouldBe_57 : decode cX7_mixWouldBe 57 = .ok (.goto (-23), 3) := by decide +kernel
theorem dX7_mixWouldBe_60 : decode cX7_mixWouldBe 60 = .ok (.lload_n 3, 1) := by decide +kernel
theorem dX7_mixWouldBe_61 : decode cX7_mixWouldBe 61 = .ok (.lreturn, 1) := by decide +kernel
theorem dX7_mix_0 : decode cX7_mix 0 = .ok (.ldc2_w 278, 3) := by decide +kernel
theorem dX7_mix_3 : decode cX7_mix 3 = .ok (.lload_n 0, 1) := by decide +kernel
theorem dX7_mix_4 : decode cX7_mix 4 = .ok (.lmul, 1) := by decide +kernel
theorem dX7_mix_5 : decode cX7_mix 5 = .ok (.lload_n 2, 1) := by decide +kernel
theorem dX7_mix_6 : decode cX7_mix 6 = .ok (.ladd, 1) := by decide +kernel
theorem dX7_mix_7 : decode cX7_mix 7 = .ok (.lreturn, 1) := by decide +kernel
theorem dX7_isPlace_0 : decode cX7_isPlace 0 = .ok (.aload_n 0, 1) := by decide +kernel
theorem dX7_isPlace_1 : decode cX7_isPlace 1 = .ok (.getfield 79, 3) := by decide +kernel
theorem dX7_isPlace_4 : decode cX7_isPlace 4 = .ok (.ifCond .eq 17, 3) := by decide +kernel
theorem dX7_isPlace_7 : decode cX7_isPlace 7 = .ok (.iload_n 1, 1) := by decide +kernel
theorem dX7_isPlace_8 : decode cX7_isPlace 8 = .ok (.ifCond .lt 13, 3) := by decide +kernel
theorem dX7_isPlace_11 : decode cX7_isPlace 11 = .ok (.iload_n 1, 1) := by decide +kernel
theorem dX7_isPlace_12 : decode cX7_isPlace 12 = .ok (.bipush 6, 2) := by decide +kernel
theorem dX7_isPlace_14 : decode cX7_isPlace 14 = .ok (.if_icmp .ge 7, 3) := by decide +kernel
theorem dX7_isPlace_17 : decode cX7_isPlace 17 = .ok (.iconst 1, 1) := by decide +kernel
theorem dX7_isPlace_18 : decode cX7_isPlace 18 = .ok (.goto 4, 3) := by decide +kernel
theorem dX7_isPlace_21 : decode cX7_isPlace 21 = .ok (.iconst 0, 1) := by decide +kernel
theorem dX7_isPlace_22 : decode cX7_isPlace 22 = .ok (.ireturn, 1) := by decide +kernel
theorem dX7_isTenant_0 : decode cX7_isTenant 0 = .ok (.iload_n 1, 1) := by decide +kernel
theorem dX7_isTenant_1 : decode cX7_isTenant 1 = .ok (.ifCond .lt 23, 3) := by decide +kernel
theorem dX7_isTenant_4 : decode cX7_isTenant 4 = .ok (.iload_n 1, 1) := by decide +kernel
theorem dX7_isTenant_5 : decode cX7_isTenant 5 = .ok (.aload_n 0, 1) := by decide +kernel
theorem dX7_isTenant_6 : decode cX7_isTenant 6 = .ok (.getfield 19, 3) := by decide +kernel
theorem dX7_isTenant_9 : decode cX7_isTenant 9 = .ok (.getfield 140, 3) := by decide +kernel
theorem dX7_isTenant_12 : decode cX7_isTenant 12 = .ok (.if_icmp .ge 12, 3) := by decide +kernel
theorem dX7_isTenant_15 : decode cX7_isTenant 15 = .ok (.iload_n 1, 1) := by decide +kernel
theorem dX7_isTenant_16 : decode cX7_isTenant 16 = .ok (.iconst 5, 1) := by decide +kernel
theorem dX7_isTenant_17 : decode cX7_isTenant 17 = .ok (.if_icmp .ge 7, 3) := by decide +kernel
theorem dX7_isTenant_20 : decode cX7_isTenant 20 = .ok (.iconst 1, 1) := by decide +kernel
theorem dX7_isTenant_21 : decode cX7_isTenant 21 = .ok (.goto 4, 3) := by decide +kernel
theorem dX7_isTenant_24 : decode cX7_isTenant 24 = .ok (.iconst 0, 1) := by decide +kernel
theorem dX7_isTenant_25 : decode cX7_isTenant 25 = .ok (.ireturn, 1) := by decide +kernel
theorem dX7_isKind_0 : decode cX7_isKind 0 = .ok (.iload_n 0, 1) := by decide +kernel
theorem dX7_isKind_1 : decode cX7_isKind 1 = .ok (.ifCond .lt 15, 3) := by decide +kernel
theorem dX7_isKind_4 : decode cX7_isKind 4 = .ok (.iload_n 0, 1) := by decide +kernel
theorem dX7_isKind_5 : decode cX7_isKind 5 = .ok (.getstatic 280, 3) := by decide +kernel
theorem dX7_isKind_8 : decode cX7_isKind 8 = .ok (.arraylength, 1) := by decide +kernel
theorem dX7_isKind_9 : decode cX7_isKind 9 = .ok (.if_icmp .ge 7, 3) := by decide +kernel
theorem dX7_isKind_12 : decode cX7_isKind 12 = .ok (.iconst 1, 1) := by decide +kernel
theorem dX7_isKind_13 : decode cX7_isKind 13 = .ok (.goto 4, 3) := by decide +kernel
theorem dX7_isKind_16 : decode cX7_isKind 16 = .ok (.iconst 0, 1) := by decide +kernel
theorem dX7_isKind_17 : decode cX7_isKind 17 = .ok (.ireturn, 1) := by decide +kernel
theorem dX7_isSuch_0 : decode cX7_isSuch 0 = .ok (.iload_n 1, 1) := by decide +kernel
theorem dX7_isSuch_1 : decode cX7_isSuch 1 = .ok (.ifCond .eq 18, 3) := by decide +kernel
theorem dX7_isSuch_4 : decode cX7_isSuch 4 = .ok (.iload_n 0, 1) := by decide +kernel
theorem dX7_isSuch_5 : decode cX7_isSuch 5 = .ok (.iload_n 1, 1) := by decide +kernel
theorem dX7_isSuch_6 : decode cX7_isSuch 6 = .ok (.if_icmp .eq 13, 3) := by decide +kernel
theorem dX7_isSuch_9 : decode cX7_isSuch 9 = .ok (.iload_n 0, 1) := by decide +kernel
theorem dX7_isSuch_10 : decode cX7_isSuch 10 = .ok (.iconst 4, 1) := by decide +kernel
theorem dX7_isSuch_11 : decode cX7_isSuch 11 = .ok (.if_icmp .ne 12, 3) := by decide +kernel
theorem dX7_isSuch_14 : decode cX7_isSuch 14 = .ok (.iload_n 1, 1) := by decide +kernel
theorem dX7_isSuch_15 : decode cX7_isSuch 15 = .ok (.iconst 1, 1) := by decide +kernel
theorem dX7_isSuch_16 : decode cX7_isSuch 16 = .ok (.if_icmp .ne 7, 3) := by decide +kernel
theorem dX7_isSuch_19 : decode cX7_isSuch 19 = .ok (.iconst 1, 1) := by decide +kernel
theorem dX7_isSuch_20 : decode cX7_isSuch 20 = .ok (.goto 4, 3) := by decide +kernel
theorem dX7_isSuch_23 : decode cX7_isSuch 23 = .ok (.iconst 0, 1) := by decide +kernel
theorem dX7_isSuch_24 : decode cX7_isSuch 24 = .ok (.ireturn, 1) := by decide +kernel
theorem dX7_orNone_0 : decode cX7_orNone 0 = .ok (.iload_n 0, 1) := by decide +kernel
theorem dX7_orNone_1 : decode cX7_orNone 1 = .ok (.bipush 41, 2) := by decide +kernel
theorem dX7_orNone_3 : decode cX7_orNone 3 = .ok (.if_icmp .ne 7, 3) := by decide +kernel
theorem dX7_orNone_6 : decode cX7_orNone 6 = .ok (.iconst (-1), 1) := by decide +kernel
theorem dX7_orNone_7 : decode cX7_orNone 7 = .ok (.goto 4, 3) := by decide +kernel
theorem dX7_orNone_10 : decode cX7_orNone 10 = .ok (.iload_n 0, 1) := by decide +kernel
theorem dX7_orNone_11 : decode cX7_orNone 11 = .ok (.ireturn, 1) := by decide +kernel
theorem dX8_init_0 : decode cX8_init 0 = .ok (.aload_n 0, 1) := by decide +kernel
theorem dX8_init_1 : decode cX8_init 1 = .ok (.invokespecial 1, 3) := by decide +kernel
theorem dX8_init_4 : decode cX8_init 4 = .ok (.aload_n 0, 1) := by decide +kernel
theorem dX8_init_5 : decode cX8_init 5 = .ok (.bipush 12, 2) := by decide +kernel
theorem dX8_init_7 : decode cX8_init 7 = .ok (.newarray .int, 2) := by decide +kernel
theorem dX8_init_9 : decode cX8_init 9 = .ok (.putfield 7, 3) := by decide +kernel
theorem dX8_init_12 : decode cX8_init 12 = .ok (.aload_n 0, 1) := by decide +kernel
theorem dX8_init_13 : decode cX8_init 13 = .ok (.bipush 6, 2) := by decide +kernel
theorem dX8_init_15 : decode cX8_init 15 = .ok (.newarray .int, 2) := by decide +kernel
theorem dX8_init_17 : decode cX8_init 17 = .ok (.putfield 13, 3) := by decide +kernel
theorem dX8_init_20 : decode cX8_init 20 = .ok (.aload_n 0, 1) := by decide +kernel
theorem dX8_init_21 : decode cX8_init 21 = .ok (.bipush 10, 2) := by decide +kernel
theorem dX8_init_23 : decode cX8_init 23 = .ok (.newarray .int, 2) := by decide +kernel
theorem dX8_init_25 : decode cX8_init 25 = .ok (.putfield 16, 3) := by decide +kernel
theorem dX8_init_28 : decode cX8_init 28 = .ok (.aload_n 0, 1) := by decide +kernel
theorem dX8_init_29 : decode cX8_init 29 = .ok (.iconst 5, 1) := by decide +kernel
theorem dX8_init_30 : decode cX8_init 30 = .ok (.newarray .int, 2) := by decide +kernel
theorem dX8_init_32 : decode cX8_init 32 = .ok (.putfield 19, 3) := by decide +kernel
theorem dX8_init_35 : decode cX8_init 35 = .ok (.aload_n 0, 1) := by decide +kernel
theorem dX8_init_36 : decode cX8_init 36 = .ok (.bipush 6, 2) := by decide +kernel
theorem dX8_init_38 : decode cX8_init 38 = .ok (.newarray .int, 2) := by decide +kernel
theorem dX8_init_40 : decode cX8_init 40 = .ok (.putfield 22, 3) := by decide +kernel
theorem dX8_init_43 : decode cX8_init 43 = .ok (.aload_n 0, 1) := by decide +kernel
theorem dX8_init_44 : decode cX8_init 44 = .ok (.bipush 6, 2) := by decide +kernel
theorem dX8_init_46 : decode cX8_init 46 = .ok (.newarray .int, 2) := by decide +kernel
theorem dX8_init_48 : decode cX8_init 48 = .ok (.putfield 25, 3) := by decide +kernel
theorem dX8_init_51 : decode cX8_init 51 = .ok (.aload_n 0, 1) := by decide +kernel
theorem dX8_init_52 : decode cX8_init 52 = .ok (.iconst 5, 1) := by decide +kernel
theorem dX8_init_53 : decode cX8_init 53 = .ok (.newarray .int, 2) := by decide +kernel
theorem dX8_init_55 : decode cX8_init 55 = .ok (.putfield 28, 3) := by decide +kernel
theorem dX8_init_58 : decode cX8_init 58 = .ok (.aload_n 0, 1) := by decide +kernel
theorem dX8_init_59 : decode cX8_init 59 = .ok (.bipush 24, 2) := by decide +kernel
theorem dX8_init_61 : decode cX8_init 61 = .ok (.newarray .int, 2) := by decide +kernel
theorem dX8_init_63 : decode cX8_init 63 = .ok (.putfield 31, 3) := by decide +kernel
theorem dX8_init_66 : decode cX8_init 66 = .ok (.aload_n 0, 1) := by decide +kernel
theorem dX8_init_67 : decode cX8_init 67 = .ok (.bipush 11, 2) := by decide +kernel
theorem dX8_init_69 : decode cX8_init 69 = .ok (.newarray .int, 2) := by decide +kernel
theorem dX8_init_71 : decode cX8_init 71 = .ok (.putfield 34, 3) := by decide +kernel
theorem dX8_init_74 : decode cX8_init 74 = .ok (.aload_n 0, 1) := by decide +kernel
theorem dX8_init_75 : decode cX8_init 75 = .ok (.bipush 6, 2) := by decide +kernel
theorem dX8_init_77 : decode cX8_init 77 = .ok (.newarray .int, 2) := by decide +kernel
theorem dX8_init_79 : decode cX8_init 79 = .ok (.putfield 37, 3) := by decide +kernel
theorem dX8_init_82 : decode cX8_init 82 = .ok (.aload_n 0, 1) := by decide +kernel
theorem dX8_init_83 : decode cX8_init 83 = .ok (.bipush 10, 2) := by decide +kernel
theorem dX8_init_85 : decode cX8_init 85 = .ok (.newarray .int, 2) := by decide +kernel
theorem dX8_init_87 : decode cX8_init 87 = .ok (.putfield 40, 3) := by decide +kernel
theorem dX8_init_90 : decode cX8_init 90 = .ok (.aload_n 0, 1) := by decide +kernel
theorem dX8_init_91 : decode cX8_init 91 = .ok (.bipush 24, 2) := by decide +kernel
theorem dX8_init_93 : decode cX8_init 93 = .ok (.newarray .int, 2) := by decide +kernel
theorem dX8_init_95 : decode cX8_init 95 = .ok (.putfield 43, 3) := by decide +kernel
theorem dX8_init_98 : decode cX8_init 98 = .ok (.aload_n 0, 1) := by decide +kernel
theorem dX8_init_99 : decode cX8_init 99 = .ok (.iconst (-1), 1) := by decide +kernel
theorem dX8_init_100 : decode cX8_init 100 = .ok (.putfield 46, 3) := by decide +kernel
theorem dX8_init_103 : decode cX8_init 103 = .ok (.return_, 1) := by decide +kernel
theorem dX8_in_0 : decode cX8_in 0 = .ok (.lload_n 0, 1) := by decide +kernel
theorem dX8_in_1 : decode cX8_in 1 = .ok (.lload_n 2, 1) := by decide +kernel
theorem dX8_in_2 : decode cX8_in 2 = .ok (.lcmp, 1) := by decide +kernel
theorem dX8_in_3 : decode cX8_in 3 = .ok (.ifCond .lt 14, 3) := by decide +kernel
theorem dX8_in_6 : decode cX8_in 6 = .ok (.lload_n 0, 1) := by decide +kernel
theorem dX8_in_7 : decode cX8_in 7 = .ok (.lload 4, 2) := by decide +kernel
theorem dX8_in_9 : decode cX8_in 9 = .ok (.lcmp, 1) := by decide +kernel
theorem dX8_in_10 : decode cX8_in 10 = .ok (.ifCond .gt 7, 3) := by decide +kernel
theorem dX8_in_13 : decode cX8_in 13 = .ok (.iconst 1, 1) := by decide +kernel
theorem dX8_in_14 : decode cX8_in 14 = .ok (.goto 4, 3) := by decide +kernel
theorem dX8_in_17 : decode cX8_in 17 = .ok (.iconst 0, 1) := by decide +kernel
theorem dX8_in_18 : decode cX8_in 18 = .ok (.ireturn, 1) := by decide +kernel
theorem dX8_copy_0 : decode cX8_copy 0 = .ok (.iconst 0, 1) := by decide +kernel
theorem dX8_copy_1 : decode cX8_copy 1 = .ok (.istore_n 2, 1) := by decide +kernel
theorem dX8_copy_2 : decode cX8_copy 2 = .ok (.iload_n 2, 1) := by decide +kernel
theorem dX8_copy_3 : decode cX8_copy 3 = .ok (.aload_n 0, 1) := by decide +kernel
theorem dX8_copy_4 : decode cX8_copy 4 = .ok (.arraylength, 1) := by decide +kernel
theorem dX8_copy_5 : decode cX8_copy 5 = .ok (.if_icmp .ge 15, 3) := by decide +kernel
theorem dX8_copy_8 : decode cX8_copy 8 = .ok (.aload_n 1, 1) := by decide +kernel
theorem dX8_copy_9 : decode cX8_copy 9 = .ok (.iload_n 2, 1) := by decide +kernel
theorem dX8_copy_10 : decode cX8_copy 10 = .ok (.aload_n 0, 1) := by decide +kernel
theorem dX8_copy_11 : decode cX8_copy 11 = .ok (.iload_n 2, 1) := by decide +kernel
theorem dX8_copy_12 : decode cX8_copy 12 = .ok (.iaload, 1) := by decide +kernel
theorem dX8_copy_13 : decode cX8_copy 13 = .ok (.iastore, 1) := by decide +kernel
theorem dX8_copy_14 : decode cX8_copy 14 = .ok (.iinc 2 1, 3) := by decide +kernel
theorem dX8_copy_17 : decode cX8_copy 17 = .ok (.goto (-15), 3) := by decide +kernel
theorem dX8_copy_20 : decode cX8_copy 20 = .ok (.return_, 1) := by decide +kernel
theorem dX8_letter_0 : decode cX8_letter 0 = .ok (.iload_n 1, 1) := by decide +kernel
theorem dX8_letter_1 : decode cX8_letter 1 = .ok (.i2l, 1) := by decide +kernel
theorem dX8_letter_2 : decode cX8_letter 2 = .ok (.lconst 1, 1) := by decide +kernel
theorem dX8_letter_3 : decode cX8_letter 3 = .ok (.ldc2_w 50, 3) := by decide +kernel
theorem dX8_letter_6 : decode cX8_letter 6 = .ok (.invokestatic 52, 3) := by decide +kernel
theorem dX8_letter_9 : decode cX8_letter 9 = .ok (.ifCond .ne 6, 3) := by decide +kernel
theorem dX8_letter_12 : decode cX8_letter 12 = .ok (.bipush (-102), 2) := by decide +kernel
theorem dX8_letter_14 : decode cX8_letter 14 = .ok (.ireturn, 1) := by decide +kernel
theorem dX8_letter_15 : decode cX8_letter 15 = .ok (.aload_n 0, 1) := by decide +kernel
theorem dX8_letter_16 : decode cX8_letter 16 = .ok (.getfield 56, 3) := by decide +kernel
theorem dX8_letter_19 : decode cX8_letter 19 = .ok (.bipush 12, 2) := by decide +kernel
theorem dX8_letter_21 : decode cX8_letter 21 = .ok (.if_icmp .ne 6, 3) := by decide +kernel
theorem dX8_letter_24 : decode cX8_letter 24 = .ok (.bipush (-104), 2) := by decide +kernel
theorem dX8_letter_26 : decode cX8_letter 26 = .ok (.ireturn, 1) := by decide +kernel
theorem dX8_letter_27 : decode cX8_letter 27 = .ok (.aload_n 0, 1) := by decide +kernel
theorem dX8_letter_28 : decode cX8_letter 28 = .ok (.getfield 7, 3) := by decide +kernel
theorem dX8_letter_31 : decode cX8_letter 31 = .ok (.aload_n 0, 1) := by decide +kernel
theorem dX8_letter_32 : decode cX8_letter 32 = .ok (.getfield 56, 3) := by decide +kernel
theorem dX8_letter_35 : decode cX8_letter 35 = .ok (.iload_n 1, 1) := by decide +kernel
theorem dX8_letter_36 : decode cX8_letter 36 = .ok (.iastore, 1) := by decide +kernel
theorem dX8_letter_37 : decode cX8_letter 37 = .ok (.aload_n 0, 1) := by decide +kernel
theorem dX8_letter_38 : decode cX8_letter 38 = .ok (.dup, 1) := by decide +kernel
theorem dX8_letter_39 : decode cX8_letter 39 = .ok (.getfield 56, 3) := by decide +kernel
theorem dX8_letter_42 : decode cX8_letter 42 = .ok (.iconst 1, 1) := by decide +kernel
theorem dX8_letter_43 : decode cX8_letter 43 = .ok (.iadd, 1) := by decide +kernel
theorem dX8_letter_44 : decode cX8_letter 44 = .ok (.putfield 56, 3) := by decide +kernel
theorem dX8_letter_47 : decode cX8_letter 47 = .ok (.aload_n 0, 1) := by decide +kernel
theorem dX8_letter_48 : decode cX8_letter 48 = .ok (.getfield 56, 3) := by decide +kernel
theorem dX8_letter_51 : decode cX8_letter 51 = .ok (.ireturn, 1) := by decide +kernel
theorem dX8_blank_0 : decode cX8_blank 0 = .ok (.aload_n 0, 1) := by decide +kernel
theorem dX8_blank_1 : decode cX8_blank 1 = .ok (.getfield 56, 3) := by decide +kernel
theorem dX8_blank_4 : decode cX8_blank 4 = .ok (.istore_n 1, 1) := by decide +kernel
theorem dX8_blank_5 : decode cX8_blank 5 = .ok (.aload_n 0, 1) := by decide +kernel
theorem dX8_blank_6 : decode cX8_blank 6 = .ok (.iconst 0, 1) := by decide +kernel
theorem dX8_blank_7 : decode cX8_blank 7 = .ok (.putfield 56, 3) := by decide +kernel
theorem dX8_blank_10 : decode cX8_blank 10 = .ok (.iload_n 1, 1) := by decide +kernel
theorem dX8_blank_11 : decode cX8_blank 11 = .ok (.ireturn, 1) := by decide +kernel
theorem dX8_isGood_0 : decode cX8_isGood 0 = .ok (.iload_n 1, 1) := by decide +kernel
theorem dX8_isGood_1 : decode cX8_isGood 1 = .ok (.bipush 48, 2) := by decide +kernel
theorem dX8_isGood_3 : decode cX8_isGood 3 = .ok (.isub, 1) := by decide +kernel
theorem dX8_isGood_4 : decode cX8_isGood 4 = .ok (.istore_n 2, 1) := by decide +kernel
theorem dX8_isGood_5 : decode cX8_isGood 5 = .ok (.iload_n 0, 1) := by decide +kernel
theorem dX8_isGood_6 : decode cX8_isGood 6 = .ok (.bipush 6, 2) := by decide +kernel
theorem dX8_isGood_8 : decode cX8_isGood 8 = .ok (.if_icmp .ne 17, 3) := by decide +kernel
theorem dX8_isGood_11 : decode cX8_isGood 11 = .ok (.iload_n 1, 1) := by decide +kernel
theorem dX8_isGood_12 : decode cX8_isGood 12 = .ok (.bipush 59, 2) := by decide +kernel
theorem dX8_isGood_14 : decode cX8_isGood 14 = .ok (.if_icmp .ne 7, 3) := by decide +kernel
theorem dX8_isGood_17 : decode cX8_isGood 17 = .ok (.iconst 1, 1) := by decide +kernel
theorem dX8_isGood_18 : decode cX8_isGood 18 = .ok (.goto 48, 3) := by decide +kernel
theorem dX8_isGood_21 : decode cX8_isGood 21 = .ok (.iconst 0, 1) := by decide +kernel
theorem dX8_isGood_22 : decode cX8_isGood 22 = .ok (.goto 44, 3) := by decide +kernel
theorem dX8_isGood_25 : decode cX8_isGood 25 = .ok (.iload_n 0, 1) := by decide +kernel
theorem dX8_isGood_26 : decode cX8_isGood 26 = .ok (.bipush 8, 2) := by decide +kernel
theorem dX8_isGood_28 : decode cX8_isGood 28 = .ok (.if_icmp .ne 15, 3) := by decide +kernel
theorem dX8_isGood_31 : decode cX8_isGood 31 = .ok (.iload_n 2, 1) := by decide +kernel
theorem dX8_isGood_32 : decode cX8_isGood 32 = .ok (.i2l, 1) := by decide +kernel
theorem dX8_isGood_33 : decode cX8_isGood 33 = .ok (.lconst 1, 1) := by decide +kernel
theorem dX8_isGood_34 : decode cX8_isGood 34 = .ok (.ldc2_w 59, 3) := by decide +kernel
theorem dX8_isGood_37 : decode cX8_isGood 37 = .ok (.invokestatic 52, 3) := by decide +kernel
theorem dX8_isGood_40 : decode cX8_isGood 40 = .ok (.goto 26, 3) := by decide +kernel
theorem dX8_isGood_43 : decode cX8_isGood 43 = .ok (.iload_n 0, 1) := by decide +kernel
theorem dX8_isGood_44 : decode cX8_isGood 44 = .ok (.bipush 8, 2) := by decide +kernel
theorem dX8_isGood_46 : decode cX8_isGood 46 = .ok (.if_icmp .ge 19, 3) := by decide +kernel
theorem dX8_isGood_49 : decode cX8_isGood 49 = .ok (.iload_n 2, 1) := by decide +kernel
theorem dX8_isGood_50 : decode cX8_isGood 50 = .ok (.i2l, 1) := by decide +kernel
theorem dX8_isGood_51 : decode cX8_isGood 51 = .ok (.lconst 0, 1) := by decide +kernel
theorem dX8_isGood_52 : decode cX8_isGood 52 = .ok (.ldc2_w 59, 3) := by decide +kernel
theorem dX8_isGood_55 : decode cX8_isGood 55 = .ok (.invokestatic 52, 3) := by decide +kernel
theorem dX8_isGood_58 : decode cX8_isGood 58 = .ok (.ifCond .eq 7, 3) := by decide +kernel
theorem dX8_isGood_61 : decode cX8_isGood 61 = .ok (.iconst 1, 1) := by decide +kernel
theorem dX8_isGood_62 : decode cX8_isGood 62 = .ok (.goto 4, 3) := by decide +kernel
theorem dX8_isGood_65 : decode cX8_isGood 65 = .ok (.iconst 0, 1) := by decide +kernel
theorem dX8_isGood_66 : decode cX8_isGood 66 = .ok (.ireturn, 1) := by decide +kernel
theorem dX8_faultOf_0 : decode cX8_faultOf 0 = .ok (.iconst 0, 1) := by decide +kernel
theorem dX8_faultOf_1 : decode cX8_faultOf 1 = .ok (.istore_n 1, 1) := by decide +kernel
theorem dX8_faultOf_2 : decode cX8_faultOf 2 = .ok (.iload_n 1, 1) := by decide +kernel
theorem dX8_faultOf_3 : decode cX8_faultOf 3 = .ok (.aload_n 0, 1) := by decide +kernel
theorem dX8_faultOf_4 : decode cX8_faultOf 4 = .ok (.getfield 56, 3) := by decide +kernel
theorem dX8_faultOf_7 : decode cX8_faultOf 7 = .ok (.if_icmp .ge 22, 3) := by decide +kernel
theorem dX8_faultOf_10 : decode cX8_faultOf 10 = .ok (.iload_n 1, 1) := by decide +kernel
theorem dX8_faultOf_11 : decode cX8_faultOf 11 = .ok (.aload_n 0, 1) := by decide +kernel
theorem dX8_faultOf_12 : decode cX8_faultOf 12 = .ok (.getfield 7, 3) := by decide +kernel
theorem dX8_faultOf_15 : decode cX8_faultOf 15 = .ok (.iload_n 1, 1) := by decide +kernel
theorem dX8_faultOf_16 : decode cX8_faultOf 16 = .ok (.iaload, 1) := by decide +kernel
theorem dX8_faultOf_17 : decode cX8_faultOf 17 = .ok (.invokestatic 61, 3) := by decide +kernel
theorem dX8_faultOf_20 : decode cX8_faultOf 20 = .ok (.ifCond .eq 9, 3) := by decide +kernel
theorem dX8_faultOf_23 : decode cX8_faultOf 23 = .ok (.iinc 1 1, 3) := by decide +kernel
theorem dX8_faultOf_26 : decode cX8_faultOf 26 = .ok (.goto (-24), 3) := by decide +kernel
theorem dX8_faultOf_29 : decode cX8_faultOf 29 = .ok (.iload_n 1, 1) := by decide +kernel
theorem dX8_faultOf_30 : decode cX8_faultOf 30 = .ok (.ireturn, 1) := by decide +kernel
theorem dX8_fault_0 : decode cX8_fault 0 = .ok (.aload_n 0, 1) := by decide +kernel
theorem dX8_fault_1 : decode cX8_fault 1 = .ok (.invokevirtual 65, 3) := by decide +kernel
theorem dX8_fault_4 : decode cX8_fault 4 = .ok (.ireturn, 1) := by decide +kernel
theorem dX8_standing_0 : decode cX8_standing 0 = .ok (.iconst 0, 1) := by decide +kernel
theorem dX8_standing_1 : decode cX8_standing 1 = .ok (.istore_n 1, 1) := by decide +kernel
theorem dX8_standing_2 : decode cX8_standing 2 = .ok (.iconst 0, 1) := by decide +kernel
theorem dX8_standing_3 : decode cX8_standing 3 = .ok (.istore_n 2, 1) := by decide +kernel
theorem dX8_standing_4 : decode cX8_standing 4 = .ok (.iload_n 2, 1) := by decide +kernel
theorem dX8_standing_5 : decode cX8_standing 5 = .ok (.bipush 6, 2) := by decide +kernel
theorem dX8_standing_7 : decode cX8_standing 7 = .ok (.if_icmp .ge 26, 3) := by decide +kernel
theorem dX8_standing_10 : decode cX8_standing 10 = .ok (.iload_n 1, 1) := by decide +kernel
theorem dX8_standing_11 : decode cX8_standing 11 = .ok (.aload_n 0, 1) := by decide +kernel
theorem dX8_standing_12 : decode cX8_standing 12 = .ok (.getfield 13, 3) := by decide +kernel
theorem dX8_standing_15 : decode cX8_standing 15 = .ok (.iload_n 2, 1) := by decide +kernel
theorem dX8_standing_16 : decode cX8_standing 16 = .ok (.iaload, 1) := by decide +kernel
theorem dX8_standing_17 : decode cX8_standing 17 = .ok (.ifCond .le 7, 3) := by decide +kernel
theorem dX8_standing_20 : decode cX8_standing 20 = .ok (.iconst 1, 1) := by decide +kernel
theorem dX8_standing_21 : decode cX8_standing 21 = .ok (.goto 4, 3) := by decide +kernel
theorem dX8_standing_24 : decode cX8_standing 24 = .ok (.iconst 0, 1) := by decide +kernel
theorem dX8_standing_25 : decode cX8_standing 25 = .ok (.iadd, 1) := by decide +kernel
theorem dX8_standing_26 : decode cX8_standing 26 = .ok (.istore_n 1, 1) := by decide +kernel
theorem dX8_standing_27 : decode cX8_standing 27 = .ok (.iinc 2 1, 3) := by decide +kernel
theorem dX8_standing_30 : decode cX8_standing 30 = .ok (.goto (-26), 3) := by decide +kernel
theorem dX8_standing_33 : decode cX8_standing 33 = .ok (.iload_n 1, 1) := by decide +kernel
theorem dX8_standing_34 : decode cX8_standing 34 = .ok (.ireturn, 1) := by decide +kernel
theorem dX8_gallery_0 : decode cX8_gallery 0 = .ok (.aload_n 0, 1) := by decide +kernel
theorem dX8_gallery_1 : decode cX8_gallery 1 = .ok (.getfield 56, 3) := by decide +kernel
theorem dX8_gallery_4 : decode cX8_gallery 4 = .ok (.bipush 9, 2) := by decide +kernel
theorem dX8_gallery_6 : decode cX8_gallery 6 = .ok (.if_icmp .ne 12, 3) := by decide +kernel
theorem dX8_gallery_9 : decode cX8_gallery 9 = .ok (.aload_n 0, 1) := by decide +kernel
theorem dX8_gallery_10 : decode cX8_gallery 10 = .ok (.invokevirtual 65, 3) := by decide +kernel
theorem dX8_gallery_13 : decode cX8_gallery 13 = .ok (.bipush 9, 2) := by decide +kernel
theorem dX8_gallery_15 : decode cX8_gallery 15 = .ok (.if_icmp .ge 6, 3) := by decide +kernel
theorem dX8_gallery_18 : decode cX8_gallery 18 = .ok (.bipush (-103), 2) := by decide +kernel
theorem dX8_gallery_20 : decode cX8_gallery 20 = .ok (.ireturn, 1) := by decide +kernel
theorem dX8_gallery_21 : decode cX8_gallery 21 = .ok (.iconst 0, 1) := by decide +kernel
theorem dX8_gallery_22 : decode cX8_gallery 22 = .ok (.istore_n 1, 1) := by decide +kernel
theorem dX8_gallery_23 : decode cX8_gallery 23 = .ok (.iload_n 1, 1) := by decide +kernel
theorem dX8_gallery_24 : decode cX8_gallery 24 = .ok (.bipush 6, 2) := by decide +kernel
theorem dX8_gallery_26 : decode cX8_gallery 26 = .ok (.if_icmp .ge 24, 3) := by decide +kernel
theorem dX8_gallery_29 : decode cX8_gallery 29 = .ok (.aload_n 0, 1) := by decide +kernel
theorem dX8_gallery_30 : decode cX8_gallery 30 = .ok (.getfield 13, 3) := by decide +kernel
theorem dX8_gallery_33 : decode cX8_gallery 33 = .ok (.iload_n 1, 1) := by decide +kernel
theorem dX8_gallery_34 : decode cX8_gallery 34 = .ok (.aload_n 0, 1) := by decide +kernel
theorem dX8_gallery_35 : decode cX8_gallery 35 = .ok (.getfield 7, 3) := by decide +kernel
theorem dX8_gallery_38 : decode cX8_gallery 38 = .ok (.iload_n 1, 1) := by decide +kernel
theorem dX8_gallery_39 : decode cX8_gallery 39 = .ok (.iaload, 1) := by decide +kernel
theorem dX8_gallery_40 : decode cX8_gallery 40 = .ok (.bipush 48, 2) := by decide +kernel
theorem dX8_gallery_42 : decode cX8_gallery 42 = .ok (.isub, 1) := by decide +kernel
theorem dX8_gallery_43 : decode cX8_gallery 43 = .ok (.iastore, 1) := by decide +kernel
theorem dX8_gallery_44 : decode cX8_gallery 44 = .ok (.iinc 1 1, 3) := by decide +kernel
theorem dX8_gallery_47 : decode cX8_gallery 47 = .ok (.goto (-24), 3) := by decide +kernel
theorem dX8_gallery_50 : decode cX8_gallery 50 = .ok (.aload_n 0, 1) := by decide +kernel
theorem dX8_gallery_51 : decode cX8_gallery 51 = .ok (.aload_n 0, 1) := by decide +kernel
theorem dX8_gallery_52 : decode cX8_gallery 52 = .ok (.getfield 7, 3) := by decide +kernel
theorem dX8_gallery_55 : decode cX8_gallery 55 = .ok (.bipush 7, 2) := by decide +kernel
theorem dX8_gallery_57 : decode cX8_gallery 57 = .ok (.iaload, 1) := by decide +kernel
theorem dX8_gallery_58 : decode cX8_gallery 58 = .ok (.bipush 48, 2) := by decide +kernel
theorem dX8_gallery_60 : decode cX8_gallery 60 = .ok (.isub, 1) := by decide +kernel
theorem dX8_gallery_61 : decode cX8_gallery 61 = .ok (.putfield 69, 3) := by decide +kernel
theorem dX8_gallery_64 : decode cX8_gallery 64 = .ok (.aload_n 0, 1) := by decide +kernel
theorem dX8_gallery_65 : decode cX8_gallery 65 = .ok (.aload_n 0, 1) := by decide +kernel
theorem dX8_gallery_66 : decode cX8_gallery 66 = .ok (.getfield 7, 3) := by decide +kernel
theorem dX8_gallery_69 : decode cX8_gallery 69 = .ok (.bipush 8, 2) := by decide +kernel
theorem dX8_gallery_71 : decode cX8_gallery 71 = .ok (.iaload, 1) := by decide +kernel
theorem dX8_gallery_72 : decode cX8_gallery 72 = .ok (.bipush 48, 2) := by decide +kernel
theorem dX8_gallery_74 : decode cX8_gallery 74 = .ok (.isub, 1) := by decide +kernel
theorem dX8_gallery_75 : decode cX8_gallery 75 = .ok (.putfield 72, 3) := by decide +kernel
theorem dX8_gallery_78 : decode cX8_gallery 78 = .ok (.aload_n 0, 1) := by decide +kernel
theorem dX8_gallery_79 : decode cX8_gallery 79 = .ok (.iconst 0, 1) := by decide +kernel
theorem dX8_gallery_80 : decode cX8_gallery 80 = .ok (.putfield 75, 3) := by decide +kernel
theorem dX8_gallery_83 : decode cX8_gallery 83 = .ok (.aload_n 0, 1) := by decide +kernel
theorem dX8_gallery_84 : decode cX8_gallery 84 = .ok (.iconst 0, 1) := by decide +kernel
theorem dX8_gallery_85 : decode cX8_gallery 85 = .ok (.putfield 78, 3) := by decide +kernel
theorem dX8_gallery_88 : decode cX8_gallery 88 = .ok (.aload_n 0, 1) := by decide +kernel
theorem dX8_gallery_89 : decode cX8_gallery 89 = .ok (.iconst 0, 1) := by decide +kernel
theorem dX8_gallery_90 : decode cX8_gallery 90 = .ok (.putfield 81, 3) := by decide +kernel
theorem dX8_gallery_93 : decode cX8_gallery 93 = .ok (.aload_n 0, 1) := by decide +kernel
theorem dX8_gallery_94 : decode cX8_gallery 94 = .ok (.iconst 0, 1) := by decide +kernel
theorem dX8_gallery_95 : decode cX8_gallery 95 = .ok (.putfield 84, 3) := by decide +kernel
theorem dX8_gallery_98 : decode cX8_gallery 98 = .ok (.aload_n 0, 1) := by decide +kernel
theorem dX8_gallery_99 : decode cX8_gallery 99 = .ok (.iconst 0, 1) := by decide +kernel
theorem dX8_gallery_100 : decode cX8_gallery 100 = .ok (.putfield 87, 3) := by decide +kernel
theorem dX8_gallery_103 : decode cX8_gallery 103 = .ok (.aload_n 0, 1) := by decide +kernel
theorem dX8_gallery_104 : decode cX8_gallery 104 = .ok (.dup, 1) := by decide +kernel
theorem dX8_gallery_105 : decode cX8_gallery 105 = .ok (.getfield 90, 3) := by decide +kernel
theorem dX8_gallery_108 : decode cX8_gallery 108 = .ok (.iconst 1, 1) := by decide +kernel
theorem dX8_gallery_109 : decode cX8_gallery 109 = .ok (.iadd, 1) := by decide +kernel
theorem dX8_gallery_110 : decode cX8_gallery 110 = .ok (.putfield 90, 3) := by decide +kernel
theorem dX8_gallery_113 : decode cX8_gallery 113 = .ok (.aload_n 0, 1) := by decide +kernel
theorem dX8_gallery_114 : decode cX8_gallery 114 = .ok (.iconst 0, 1) := by decide +kernel
theorem dX8_gallery_115 : decode cX8_gallery 115 = .ok (.putfield 56, 3) := by decide +kernel
theorem dX8_gallery_118 : decode cX8_gallery 118 = .ok (.aload_n 0, 1) := by decide +kernel
theorem dX8_gallery_119 : decode cX8_gallery 119 = .ok (.invokevirtual 93, 3) := by decide +kernel
theorem dX8_gallery_122 : decode cX8_gallery 122 = .ok (.ireturn, 1) := by decide +kernel
theorem dX8_lacks_0 : decode cX8_lacks 0 = .ok (.aload_n 0, 1) := by decide +kernel
theorem dX8_lacks_1 : decode cX8_lacks 1 = .ok (.getfield 72, 3) := by decide +kernel
theorem dX8_lacks_4 : decode cX8_lacks 4 = .ok (.ifCond .ne 7, 3) := by decide +kernel
theorem dX8_lacks_7 : decode cX8_lacks 7 = .ok (.iconst 1, 1) := by decide +kernel
theorem dX8_lacks_8 : decode cX8_lacks 8 = .ok (.goto 4, 3) := by decide +kernel
theorem dX8_lacks_11 : decode cX8_lacks 11 = .ok (.iconst 0, 1) := by decide +kernel
theorem dX8_lacks_12 : decode cX8_lacks 12 = .ok (.ireturn, 1) := by decide +kernel
theorem dX8_isPlace_0 : decode cX8_isPlace 0 = .ok (.aload_n 0, 1) := by decide +kernel
theorem dX8_isPlace_1 : decode cX8_isPlace 1 = .ok (.invokevirtual 96, 3) := by decide +kernel
theorem dX8_isPlace_4 : decode cX8_isPlace 4 = .ok (.ifCond .ne 19, 3) := by decide +kernel
theorem dX8_isPlace_7 : decode cX8_isPlace 7 = .ok (.iload_n 1, 1) := by decide +kernel
theorem dX8_isPlace_8 : decode cX8_isPlace 8 = .ok (.i2l, 1) := by decide +kernel
theorem dX8_isPlace_9 : decode cX8_isPlace 9 = .ok (.lconst 0, 1) := by decide +kernel
theorem dX8_isPlace_10 : decode cX8_isPlace 10 = .ok (.ldc2_w 100, 3) := by decide +kernel
theorem dX8_isPlace_13 : decode cX8_isPlace 13 = .ok (.invokestatic 52, 3) := by decide +kernel
theorem dX8_isPlace_16 : decode cX8_isPlace 16 = .ok (.ifCond .eq 7, 3) := by decide +kernel
theorem dX8_isPlace_19 : decode cX8_isPlace 19 = .ok (.iconst 1, 1) := by decide +kernel
theorem dX8_isPlace_20 : decode cX8_isPlace 20 = .ok (.goto 4, 3) := by decide +kernel
theorem dX8_isPlace_23 : decode cX8_isPlace 23 = .ok (.iconst 0, 1) := by decide +kernel
theorem dX8_isPlace_24 : decode cX8_isPlace 24 = .ok (.ireturn, 1) := by decide +kernel
theorem dX8_isTenant_0 : decode cX8_isTenant 0 = .ok (.iload_n 1, 1) := by decide +kernel
theorem dX8_isTenant_1 : decode cX8_isTenant 1 = .ok (.i2l, 1) := by decide +kernel
theorem dX8_isTenant_2 : decode cX8_isTenant 2 = .ok (.lconst 0, 1) := by decide +kernel
theorem dX8_isTenant_3 : decode cX8_isTenant 3 = .ok (.aload_n 0, 1) := by decide +kernel
theorem dX8_isTenant_4 : decode cX8_isTenant 4 = .ok (.getfield 84, 3) := by decide +kernel
theorem dX8_isTenant_7 : decode cX8_isTenant 7 = .ok (.iconst 1, 1) := by decide +kernel
theorem dX8_isTenant_8 : decode cX8_isTenant 8 = .ok (.isub, 1) := by decide +kernel
theorem dX8_isTenant_9 : decode cX8_isTenant 9 = .ok (.i2l, 1) := by decide +kernel
theorem dX8_isTenant_10 : decode cX8_isTenant 10 = .ok (.invokestatic 52, 3) := by decide +kernel
theorem dX8_isTenant_13 : decode cX8_isTenant 13 = .ok (.ireturn, 1) := by decide +kernel
theorem dX8_weightBy_0 : decode cX8_weightBy 0 = .ok (.iload_n 0, 1) := by decide +kernel
theorem dX8_weightBy_1 : decode cX8_weightBy 1 = .ok (.iconst 1, 1) := by decide +kernel
theorem dX8_weightBy_2 : decode cX8_weightBy 2 = .ok (.if_icmp .ne 7, 3) := by decide +kernel
theorem dX8_weightBy_5 : decode cX8_weightBy 5 = .ok (.iconst 2, 1) := by decide +kernel
theorem dX8_weightBy_6 : decode cX8_weightBy 6 = .ok (.goto 22, 3) := by decide +kernel
theorem dX8_weightBy_9 : decode cX8_weightBy 9 = .ok (.iload_n 0, 1) := by decide +kernel
theorem dX8_weightBy_10 : decode cX8_weightBy 10 = .ok (.iconst 2, 1) := by decide +kernel
theorem dX8_weightBy_11 : decode cX8_weightBy 11 = .ok (.if_icmp .ne 7, 3) := by decide +kernel
theorem dX8_weightBy_14 : decode cX8_weightBy 14 = .ok (.iconst 0, 1) := by decide +kernel
theorem dX8_weightBy_15 : decode cX8_weightBy 15 = .ok (.goto 13, 3) := by decide +kernel
theorem dX8_weightBy_18 : decode cX8_weightBy 18 = .ok (.iload_n 0, 1) := by decide +kernel
theorem dX8_weightBy_19 : decode cX8_weightBy 19 = .ok (.iconst 4, 1) := by decide +kernel
theorem dX8_weightBy_20 : decode cX8_weightBy 20 = .ok (.if_icmp .ne 7, 3) := by decide +kernel
theorem dX8_weightBy_23 : decode cX8_weightBy 23 = .ok (.iconst 4, 1) := by decide +kernel
theorem dX8_weightBy_24 : decode cX8_weightBy 24 = .ok (.goto 4, 3) := by decide +kernel
theorem dX8_weightBy_27 : decode cX8_weightBy 27 = .ok (.iconst 1, 1) := by decide +kernel
theorem dX8_weightBy_28 : decode cX8_weightBy 28 = .ok (.ireturn, 1) := by decide +kernel
theorem dX8_breathBy_0 : decode cX8_breathBy 0 = .ok (.iload_n 0, 1) := by decide +kernel
theorem dX8_breathBy_1 : decode cX8_breathBy 1 = .ok (.iconst 1, 1) := by decide +kernel
theorem dX8_breathBy_2 : decode cX8_breathBy 2 = .ok (.if_icmp .eq 8, 3) := by decide +kernel
theorem dX8_breathBy_5 : decode cX8_breathBy 5 = .ok (.iload_n 0, 1) := by decide +kernel
theorem dX8_breathBy_6 : decode cX8_breathBy 6 = .ok (.iconst 4, 1) := by decide +kernel
theorem dX8_breathBy_7 : decode cX8_breathBy 7 = .ok (.if_icmp .ne 7, 3) := by decide +kernel
theorem dX8_breathBy_10 : decode cX8_breathBy 10 = .ok (.iconst 3, 1) := by decide +kernel
theorem dX8_breathBy_11 : decode cX8_breathBy 11 = .ok (.goto 13, 3) := by decide +kernel
theorem dX8_breathBy_14 : decode cX8_breathBy 14 = .ok (.iload_n 0, 1) := by decide +kernel
theorem dX8_breathBy_15 : decode cX8_breathBy 15 = .ok (.iconst 3, 1) := by decide +kernel
theorem dX8_breathBy_16 : decode cX8_breathBy 16 = .ok (.if_icmp .ne 7, 3) := by decide +kernel
theorem dX8_breathBy_19 : decode cX8_breathBy 19 = .ok (.iconst 2, 1) := by decide +kernel
theorem dX8_breathBy_20 : decode cX8_breathBy 20 = .ok (.goto 4, 3) := by decide +kernel
theorem dX8_breathBy_23 : decode cX8_breathBy 23 = .ok (.iconst 1, 1) := by decide +kernel
theorem dX8_breathBy_24 : decode cX8_breathBy 24 = .ok (.ireturn, 1) := by decide +kernel
theorem dX8_asItIs_0 : decode cX8_asItIs 0 = .ok (.aload_n 0, 1) := by decide +kernel
theorem dX8_asItIs_1 : decode cX8_asItIs 1 = .ok (.getfield 13, 3) := by decide +kernel
theorem dX8_asItIs_4 : decode cX8_asItIs 4 = .ok (.aload_n 0, 1) := by decide +kernel
theorem dX8_asItIs_5 : decode cX8_asItIs 5 = .ok (.getfield 22, 3) := by decide +kernel
theorem dX8_asItIs_8 : decode cX8_asItIs 8 = .ok (.invokestatic 102, 3) := by decide +kernel
theorem dX8_asItIs_11 : decode cX8_asItIs 11 = .ok (.iconst 0, 1) := by decide +kernel
theorem dX8_asItIs_12 : decode cX8_asItIs 12 = .ok (.istore_n 1, 1) := by decide +kernel
theorem dX8_asItIs_13 : decode cX8_asItIs 13 = .ok (.iload_n 1, 1) := by decide +kernel
theorem dX8_asItIs_14 : decode cX8_asItIs 14 = .ok (.aload_n 0, 1) := by decide +kernel
theorem dX8_asItIs_15 : decode cX8_asItIs 15 = .ok (.getfield 84, 3) := by decide +kernel
theorem dX8_asItIs_18 : decode cX8_asItIs 18 = .ok (.if_icmp .ge 25, 3) := by decide +kernel
theorem dX8_asItIs_21 : decode cX8_asItIs 21 = .ok (.aload_n 0, 1) := by decide +kernel
theorem dX8_asItIs_22 : decode cX8_asItIs 22 = .ok (.getfield 19, 3) := by decide +kernel
theorem dX8_asItIs_25 : decode cX8_asItIs 25 = .ok (.iload_n 1, 1) := by decide +kernel
theorem dX8_asItIs_26 : decode cX8_asItIs 26 = .ok (.aload_n 0, 1) := by decide +kernel
theorem dX8_asItIs_27 : decode cX8_asItIs 27 = .ok (.getfield 16, 3) := by decide +kernel
theorem dX8_asItIs_30 : decode cX8_asItIs 30 = .ok (.iconst 2, 1) := by decide +kernel
theorem dX8_asItIs_31 : decode cX8_asItIs 31 = .ok (.iload_n 1, 1) := by decide +kernel
theorem dX8_asItIs_32 : decode cX8_asItIs 32 = .ok (.imul, 1) := by decide +kernel
theorem dX8_asItIs_33 : decode cX8_asItIs 33 = .ok (.iconst 1, 1) := by decide +kernel
theorem dX8_asItIs_34 : decode cX8_asItIs 34 = .ok (.iadd, 1) := by decide +kernel
theorem dX8_asItIs_35 : decode cX8_asItIs 35 = .ok (.iaload, 1) := by decide +kernel
theorem dX8_asItIs_36 : decode cX8_asItIs 36 = .ok (.iastore, 1) := by decide +kernel
theorem dX8_asItIs_37 : decode cX8_asItIs 37 = .ok (.iinc 1 1, 3) := by decide +kernel
theorem dX8_asItIs_40 : decode cX8_asItIs 40 = .ok (.goto (-27), 3) := by decide +kernel
theorem dX8_asItIs_43 : decode cX8_asItIs 43 = .ok (.return_, 1) := by decide +kernel
theorem dX8_weightIn_0 : decode cX8_weightIn 0 = .ok (.iconst 0, 1) := by decide +kernel
theorem dX8_weightIn_1 : decode cX8_weightIn 1 = .ok (.istore_n 2, 1) := by decide +kernel
theorem dX8_weightIn_2 : decode cX8_weightIn 2 = .ok (.iconst 0, 1) := by decide +kernel
theorem dX8_weightIn_3 : decode cX8_weightIn 3 = .ok (.istore_n 3, 1) := by decide +kernel
theorem dX8_weightIn_4 : decode cX8_weightIn 4 = .ok (.iload_n 3, 1) := by decide +kernel
theorem dX8_weightIn_5 : decode cX8_weightIn 5 = .ok (.aload_n 0, 1) := by decide +kernel
theorem dX8_weightIn_6 : decode cX8_weightIn 6 = .ok (.getfield 84, 3) := by decide +kernel
theorem dX8_weightIn_9 : decode cX8_weightIn 9 = .ok (.if_icmp .ge 37, 3) := by decide +kernel
theorem dX8_weightIn_12 : decode cX8_weightIn 12 = .ok (.iload_n 2, 1) := by decide +kernel
theorem dX8_weightIn_13 : decode cX8_weightIn 13 = .ok (.aload_n 0, 1) := by decide +kernel
theorem dX8_weightIn_14 : decode cX8_weightIn 14 = .ok (.getfield 19, 3) := by decide +kernel
theorem dX8_weightIn_17 : decode cX8_weightIn 17 = .ok (.iload_n 3, 1) := by decide +kernel
theorem dX8_weightIn_18 : decode cX8_weightIn 18 = .ok (.iaload, 1) := by decide +kernel
theorem dX8_weightIn_19 : decode cX8_weightIn 19 = .ok (.iload_n 1, 1) := by decide +kernel
theorem dX8_weightIn_20 : decode cX8_weightIn 20 = .ok (.if_icmp .ne 17, 3) := by decide +kernel
theorem dX8_weightIn_23 : decode cX8_weightIn 23 = .ok (.aload_n 0, 1) := by decide +kernel
theorem dX8_weightIn_24 : decode cX8_weightIn 24 = .ok (.getfield 16, 3) := by decide +kernel
theorem dX8_weightIn_27 : decode cX8_weightIn 27 = .ok (.iconst 2, 1) := by decide +kernel
theorem dX8_weightIn_28 : decode cX8_weightIn 28 = .ok (.iload_n 3, 1) := by decide +kernel
theorem dX8_weightIn_29 : decode cX8_weightIn 29 = .ok (.imul, 1) := by decide +kernel
theorem dX8_weightIn_30 : decode cX8_weightIn 30 = .ok (.iaload, 1) := by decide +kernel
theorem dX8_weightIn_31 : decode cX8_weightIn 31 = .ok (.invokestatic 106, 3) := by decide +kernel
theorem dX8_weightIn_34 : decode cX8_weightIn 34 = .ok (.goto 4, 3) := by decide +kernel
theorem dX8_weightIn_37 : decode cX8_weightIn 37 = .ok (.iconst 0, 1) := by decide +kernel
theorem dX8_weightIn_38 : decode cX8_weightIn 38 = .ok (.iadd, 1) := by decide +kernel
theorem dX8_weightIn_39 : decode cX8_weightIn 39 = .ok (.istore_n 2, 1) := by decide +kernel
theorem dX8_weightIn_40 : decode cX8_weightIn 40 = .ok (.iinc 3 1, 3) := by decide +kernel
theorem dX8_weightIn_43 : decode cX8_weightIn 43 = .ok (.goto (-39), 3) := by decide +kernel
theorem dX8_weightIn_46 : decode cX8_weightIn 46 = .ok (.iload_n 2, 1) := by decide +kernel
theorem dX8_weightIn_47 : decode cX8_weightIn 47 = .ok (.ireturn, 1) := by decide +kernel
theorem dX8_hasFallen_0 : decode cX8_hasFallen 0 = .ok (.iload_n 1, 1) := by decide +kernel
theorem dX8_hasFallen_1 : decode cX8_hasFallen 1 = .ok (.i2l, 1) := by decide +kernel
theorem dX8_hasFallen_2 : decode cX8_hasFallen 2 = .ok (.lconst 0, 1) := by decide +kernel
theorem dX8_hasFallen_3 : decode cX8_hasFallen 3 = .ok (.ldc2_w 100, 3) := by decide +kernel
theorem dX8_hasFallen_6 : decode cX8_hasFallen 6 = .ok (.invokestatic 52, 3) := by decide +kernel
theorem dX8_hasFallen_9 : decode cX8_hasFallen 9 = .ok (.ifCond .eq 13, 3) := by decide +kernel
theorem dX8_hasFallen_12 : decode cX8_hasFallen 12 = .ok (.aload_n 0, 1) := by decide +kernel
theorem dX8_hasFallen_13 : decode cX8_hasFallen 13 = .ok (.iload_n 1, 1) := by decide +kernel
theorem dX8_hasFallen_14 : decode cX8_hasFallen 14 = .ok (.iaload, 1) := by decide +kernel
theorem dX8_hasFallen_15 : decode cX8_hasFallen 15 = .ok (.ifCond .ne 7, 3) := by decide +kernel
theorem dX8_hasFallen_18 : decode cX8_hasFallen 18 = .ok (.iconst 1, 1) := by decide +kernel
theorem dX8_hasFallen_19 : decode cX8_hasFallen 19 = .ok (.goto 4, 3) := by decide +kernel
theorem dX8_hasFallen_22 : decode cX8_hasFallen 22 = .ok (.iconst 0, 1) := by decide +kernel
theorem dX8_hasFallen_23 : decode cX8_hasFallen 23 = .ok (.ireturn, 1) := by decide +kernel
theorem dX8_lessOf_0 : decode cX8_lessOf 0 = .ok (.aload_n 0, 1) := by decide +kernel
theorem dX8_lessOf_1 : decode cX8_lessOf 1 = .ok (.iload_n 1, 1) := by decide +kernel
theorem dX8_lessOf_2 : decode cX8_lessOf 2 = .ok (.invokevirtual 110, 3) := by decide +kernel
theorem dX8_lessOf_5 : decode cX8_lessOf 5 = .ok (.aload_n 2, 1) := by decide +kernel
theorem dX8_lessOf_6 : decode cX8_lessOf 6 = .ok (.iload_n 1, 1) := by decide +kernel
theorem dX8_lessOf_7 : decode cX8_lessOf 7 = .ok (.iconst 1, 1) := by decide +kernel
theorem dX8_lessOf_8 : decode cX8_lessOf 8 = .ok (.isub, 1) := by decide +kernel
theorem dX8_lessOf_9 : decode cX8_lessOf 9 = .ok (.invokestatic 113, 3) := by decide +kernel
theorem dX8_lessOf_12 : decode cX8_lessOf 12 = .ok (.ifCond .ne 13, 3) := by decide +kernel
theorem dX8_lessOf_15 : decode cX8_lessOf 15 = .ok (.aload_n 2, 1) := by decide +kernel
theorem dX8_lessOf_16 : decode cX8_lessOf 16 = .ok (.iload_n 1, 1) := by decide +kernel
theorem dX8_lessOf_17 : decode cX8_lessOf 17 = .ok (.iconst 1, 1) := by decide +kernel
theorem dX8_lessOf_18 : decode cX8_lessOf 18 = .ok (.iadd, 1) := by decide +kernel
theorem dX8_lessOf_19 : decode cX8_lessOf 19 = .ok (.invokestatic 113, 3) := by decide +kernel
theorem dX8_lessOf_22 : decode cX8_lessOf 22 = .ok (.ifCond .eq 7, 3) := by decide +kernel
theorem dX8_lessOf_25 : decode cX8_lessOf 25 = .ok (.iconst 1, 1) := by decide +kernel
theorem dX8_lessOf_26 : decode cX8_lessOf 26 = .ok (.goto 4, 3) := by decide +kernel
theorem dX8_lessOf_29 : decode cX8_lessOf 29 = .ok (.iconst 0, 1) := by decide +kernel
theorem dX8_lessOf_30 : decode cX8_lessOf 30 = .ok (.iadd, 1) := by decide +kernel
theorem dX8_lessOf_31 : decode cX8_lessOf 31 = .ok (.ireturn, 1) := by decide +kernel
theorem dX8_goesBy_0 : decode cX8_goesBy 0 = .ok (.aload_n 0, 1) := by decide +kernel
theorem dX8_goesBy_1 : decode cX8_goesBy 1 = .ok (.getfield 22, 3) := by decide +kernel
theorem dX8_goesBy_4 : decode cX8_goesBy 4 = .ok (.aload_n 0, 1) := by decide +kernel
theorem dX8_goesBy_5 : decode cX8_goesBy 5 = .ok (.getfield 25, 3) := by decide +kernel
theorem dX8_goesBy_8 : decode cX8_goesBy 8 = .ok (.invokestatic 102, 3) := by decide +kernel
theorem dX8_goesBy_11 : decode cX8_goesBy 11 = .ok (.iconst 0, 1) := by decide +kernel
theorem dX8_goesBy_12 : decode cX8_goesBy 12 = .ok (.istore_n 1, 1) := by decide +kernel
theorem dX8_goesBy_13 : decode cX8_goesBy 13 = .ok (.iconst 0, 1) := by decide +kernel
theorem dX8_goesBy_14 : decode cX8_goesBy 14 = .ok (.istore_n 2, 1) := by decide +kernel
theorem dX8_goesBy_15 : decode cX8_goesBy 15 = .ok (.iload_n 2, 1) := by decide +kernel
theorem dX8_goesBy_16 : decode cX8_goesBy 16 = .ok (.bipush 6, 2) := by decide +kernel
theorem dX8_goesBy_18 : decode cX8_goesBy 18 = .ok (.if_icmp .ge 62, 3) := by decide +kernel
theorem dX8_goesBy_21 : decode cX8_goesBy 21 = .ok (.aload_n 0, 1) := by decide +kernel
theorem dX8_goesBy_22 : decode cX8_goesBy 22 = .ok (.getfield 25, 3) := by decide +kernel
theorem dX8_goesBy_25 : decode cX8_goesBy 25 = .ok (.iload_n 2, 1) := by decide +kernel
theorem dX8_goesBy_26 : decode cX8_goesBy 26 = .ok (.iaload, 1) := by decide +kernel
theorem dX8_goesBy_27 : decode cX8_goesBy 27 = .ok (.ifCond .le 47, 3) := by decide +kernel
theorem dX8_goesBy_30 : decode cX8_goesBy 30 = .ok (.aload_n 0, 1) := by decide +kernel
theorem dX8_goesBy_31 : decode cX8_goesBy 31 = .ok (.getfield 25, 3) := by decide +kernel
theorem dX8_goesBy_34 : decode cX8_goesBy 34 = .ok (.iload_n 2, 1) := by decide +kernel
theorem dX8_goesBy_35 : decode cX8_goesBy 35 = .ok (.iaload, 1) := by decide +kernel
theorem dX8_goesBy_36 : decode cX8_goesBy 36 = .ok (.aload_n 0, 1) := by decide +kernel
theorem dX8_goesBy_37 : decode cX8_goesBy 37 = .ok (.iload_n 2, 1) := by decide +kernel
theorem dX8_goesBy_38 : decode cX8_goesBy 38 = .ok (.aload_n 0, 1) := by decide +kernel
theorem dX8_goesBy_39 : decode cX8_goesBy 39 = .ok (.getfield 25, 3) := by decide +kernel
theorem dX8_goesBy_42 : decode cX8_goesBy 42 = .ok (.invokevirtual 117, 3) := by decide +kernel
theorem dX8_goesBy_45 : decode cX8_goesBy 45 = .ok (.isub, 1) := by decide +kernel
theorem dX8_goesBy_46 : decode cX8_goesBy 46 = .ok (.istore_n 3, 1) := by decide +kernel
theorem dX8_goesBy_47 : decode cX8_goesBy 47 = .ok (.aload_n 0, 1) := by decide +kernel
theorem dX8_goesBy_48 : decode cX8_goesBy 48 = .ok (.getfield 22, 3) := by decide +kernel
theorem dX8_goesBy_51 : decode cX8_goesBy 51 = .ok (.iload_n 2, 1) := by decide +kernel
theorem dX8_goesBy_52 : decode cX8_goesBy 52 = .ok (.iload_n 3, 1) := by decide +kernel
theorem dX8_goesBy_53 : decode cX8_goesBy 53 = .ok (.ifCond .le 7, 3) := by decide +kernel
