theorem dX11_clock_0 : decode cX11_clock 0 = .ok (.aload_n 0, 1) := by decide +kernel
theorem dX11_clock_1 : decode cX11_clock 1 = .ok (.iconst 0, 1) := by decide +kernel
theorem dX11_clock_2 : decode cX11_clock 2 = .ok (.putfield 3, 3) := by decide +kernel
theorem dX11_clock_5 : decode cX11_clock 5 = .ok (.aload_n 0, 1) := by decide +kernel
theorem dX11_clock_6 : decode cX11_clock 6 = .ok (.iload_n 1, 1) := by decide +kernel
theorem dX11_clock_7 : decode cX11_clock 7 = .ok (.invokevirtual 77, 3) := by decide +kernel
theorem dX11_clock_10 : decode cX11_clock 10 = .ok (.ifCond .eq 22, 3) := by decide +kernel
theorem dX11_clock_13 : decode cX11_clock 13 = .ok (.iload_n 2, 1) := by decide +kernel
theorem dX11_clock_14 : decode cX11_clock 14 = .ok (.invokestatic 81, 3) := by decide +kernel
theorem dX11_clock_17 : decode cX11_clock 17 = .ok (.ifCond .eq 15, 3) := by decide +kernel
theorem dX11_clock_20 : decode cX11_clock 20 = .ok (.iload_n 3, 1) := by decide +kernel
theorem dX11_clock_21 : decode cX11_clock 21 = .ok (.i2l, 1) := by decide +kernel
theorem dX11_clock_22 : decode cX11_clock 22 = .ok (.ldc2_w 84, 3) := by decide +kernel
theorem dX11_clock_25 : decode cX11_clock 25 = .ok (.lconst 1, 1) := by decide +kernel
theorem dX11_clock_26 : decode cX11_clock 26 = .ok (.invokestatic 25, 3) := by decide +kernel
theorem dX11_clock_29 : decode cX11_clock 29 = .ok (.ifCond .ne 5, 3) := by decide +kernel
theorem dX11_clock_32 : decode cX11_clock 32 = .ok (.iconst 0, 1) := by decide +kernel
theorem dX11_clock_33 : decode cX11_clock 33 = .ok (.ireturn, 1) := by decide +kernel
theorem dX11_clock_34 : decode cX11_clock 34 = .ok (.aload_n 0, 1) := by decide +kernel
theorem dX11_clock_35 : decode cX11_clock 35 = .ok (.getfield 50, 3) := by decide +kernel
theorem dX11_clock_38 : decode cX11_clock 38 = .ok (.iload_n 1, 1) := by decide +kernel
theorem dX11_clock_39 : decode cX11_clock 39 = .ok (.iload_n 2, 1) := by decide +kernel
theorem dX11_clock_40 : decode cX11_clock 40 = .ok (.iastore, 1) := by decide +kernel
theorem dX11_clock_41 : decode cX11_clock 41 = .ok (.aload_n 0, 1) := by decide +kernel
theorem dX11_clock_42 : decode cX11_clock 42 = .ok (.getfield 53, 3) := by decide +kernel
theorem dX11_clock_45 : decode cX11_clock 45 = .ok (.iload_n 1, 1) := by decide +kernel
theorem dX11_clock_46 : decode cX11_clock 46 = .ok (.iload_n 3, 1) := by decide +kernel
theorem dX11_clock_47 : decode cX11_clock 47 = .ok (.iastore, 1) := by decide +kernel
theorem dX11_clock_48 : decode cX11_clock 48 = .ok (.iconst 1, 1) := by decide +kernel
theorem dX11_clock_49 : decode cX11_clock 49 = .ok (.ireturn, 1) := by decide +kernel
theorem dX11_isDay_0 : decode cX11_isDay 0 = .ok (.iload_n 0, 1) := by decide +kernel
theorem dX11_isDay_1 : decode cX11_isDay 1 = .ok (.i2l, 1) := by decide +kernel
theorem dX11_isDay_2 : decode cX11_isDay 2 = .ok (.lconst 0, 1) := by decide +kernel
theorem dX11_isDay_3 : decode cX11_isDay 3 = .ok (.ldc2_w 67, 3) := by decide +kernel
theorem dX11_isDay_6 : decode cX11_isDay 6 = .ok (.invokestatic 25, 3) := by decide +kernel
theorem dX11_isDay_9 : decode cX11_isDay 9 = .ok (.ireturn, 1) := by decide +kernel
theorem dX11_feast_0 : decode cX11_feast 0 = .ok (.aload_n 0, 1) := by decide +kernel
theorem dX11_feast_1 : decode cX11_feast 1 = .ok (.iconst 0, 1) := by decide +kernel
theorem dX11_feast_2 : decode cX11_feast 2 = .ok (.putfield 3, 3) := by decide +kernel
theorem dX11_feast_5 : decode cX11_feast 5 = .ok (.aload_n 0, 1) := by decide +kernel
theorem dX11_feast_6 : decode cX11_feast 6 = .ok (.iload_n 1, 1) := by decide +kernel
theorem dX11_feast_7 : decode cX11_feast 7 = .ok (.invokevirtual 77, 3) := by decide +kernel
theorem dX11_feast_10 : decode cX11_feast 10 = .ok (.ifCond .eq 10, 3) := by decide +kernel
theorem dX11_feast_13 : decode cX11_feast 13 = .ok (.iload_n 2, 1) := by decide +kernel
theorem dX11_feast_14 : decode cX11_feast 14 = .ok (.invokestatic 86, 3) := by decide +kernel
theorem dX11_feast_17 : decode cX11_feast 17 = .ok (.ifCond .ne 5, 3) := by decide +kernel
theorem dX11_feast_20 : decode cX11_feast 20 = .ok (.iconst 0, 1) := by decide +kernel
theorem dX11_feast_21 : decode cX11_feast 21 = .ok (.ireturn, 1) := by decide +kernel
theorem dX11_feast_22 : decode cX11_feast 22 = .ok (.aload_n 0, 1) := by decide +kernel
theorem dX11_feast_23 : decode cX11_feast 23 = .ok (.getfield 56, 3) := by decide +kernel
theorem dX11_feast_26 : decode cX11_feast 26 = .ok (.bipush 100, 2) := by decide +kernel
theorem dX11_feast_28 : decode cX11_feast 28 = .ok (.iload_n 1, 1) := by decide +kernel
theorem dX11_feast_29 : decode cX11_feast 29 = .ok (.imul, 1) := by decide +kernel
theorem dX11_feast_30 : decode cX11_feast 30 = .ok (.iload_n 2, 1) := by decide +kernel
theorem dX11_feast_31 : decode cX11_feast 31 = .ok (.iadd, 1) := by decide +kernel
theorem dX11_feast_32 : decode cX11_feast 32 = .ok (.iload_n 3, 1) := by decide +kernel
theorem dX11_feast_33 : decode cX11_feast 33 = .ok (.bastore, 1) := by decide +kernel
theorem dX11_feast_34 : decode cX11_feast 34 = .ok (.iconst 1, 1) := by decide +kernel
theorem dX11_feast_35 : decode cX11_feast 35 = .ok (.ireturn, 1) := by decide +kernel
theorem dX11_knows_0 : decode cX11_knows 0 = .ok (.aload_n 0, 1) := by decide +kernel
theorem dX11_knows_1 : decode cX11_knows 1 = .ok (.getfield 60, 3) := by decide +kernel
theorem dX11_knows_4 : decode cX11_knows 4 = .ok (.bipush 6, 2) := by decide +kernel
theorem dX11_knows_6 : decode cX11_knows 6 = .ok (.iload_n 1, 1) := by decide +kernel
theorem dX11_knows_7 : decode cX11_knows 7 = .ok (.imul, 1) := by decide +kernel
theorem dX11_knows_8 : decode cX11_knows 8 = .ok (.iload_n 2, 1) := by decide +kernel
theorem dX11_knows_9 : decode cX11_knows 9 = .ok (.iadd, 1) := by decide +kernel
theorem dX11_knows_10 : decode cX11_knows 10 = .ok (.iload_n 3, 1) := by decide +kernel
theorem dX11_knows_11 : decode cX11_knows 11 = .ok (.iastore, 1) := by decide +kernel
theorem dX11_knows_12 : decode cX11_knows 12 = .ok (.aload_n 0, 1) := by decide +kernel
theorem dX11_knows_13 : decode cX11_knows 13 = .ok (.getfield 60, 3) := by decide +kernel
theorem dX11_knows_16 : decode cX11_knows 16 = .ok (.bipush 6, 2) := by decide +kernel
theorem dX11_knows_18 : decode cX11_knows 18 = .ok (.iload_n 2, 1) := by decide +kernel
theorem dX11_knows_19 : decode cX11_knows 19 = .ok (.imul, 1) := by decide +kernel
theorem dX11_knows_20 : decode cX11_knows 20 = .ok (.iload_n 1, 1) := by decide +kernel
theorem dX11_knows_21 : decode cX11_knows 21 = .ok (.iadd, 1) := by decide +kernel
theorem dX11_knows_22 : decode cX11_knows 22 = .ok (.iload_n 3, 1) := by decide +kernel
theorem dX11_knows_23 : decode cX11_knows 23 = .ok (.iastore, 1) := by decide +kernel
theorem dX11_knows_24 : decode cX11_knows 24 = .ok (.return_, 1) := by decide +kernel
theorem dX11_know_0 : decode cX11_know 0 = .ok (.aload_n 0, 1) := by decide +kernel
theorem dX11_know_1 : decode cX11_know 1 = .ok (.iconst 0, 1) := by decide +kernel
theorem dX11_know_2 : decode cX11_know 2 = .ok (.putfield 3, 3) := by decide +kernel
theorem dX11_know_5 : decode cX11_know 5 = .ok (.aload_n 0, 1) := by decide +kernel
theorem dX11_know_6 : decode cX11_know 6 = .ok (.iload_n 1, 1) := by decide +kernel
theorem dX11_know_7 : decode cX11_know 7 = .ok (.invokevirtual 77, 3) := by decide +kernel
theorem dX11_know_10 : decode cX11_know 10 = .ok (.ifCond .eq 28, 3) := by decide +kernel
theorem dX11_know_13 : decode cX11_know 13 = .ok (.aload_n 0, 1) := by decide +kernel
theorem dX11_know_14 : decode cX11_know 14 = .ok (.iload_n 2, 1) := by decide +kernel
theorem dX11_know_15 : decode cX11_know 15 = .ok (.invokevirtual 77, 3) := by decide +kernel
theorem dX11_know_18 : decode cX11_know 18 = .ok (.ifCond .eq 20, 3) := by decide +kernel
theorem dX11_know_21 : decode cX11_know 21 = .ok (.iload_n 1, 1) := by decide +kernel
theorem dX11_know_22 : decode cX11_know 22 = .ok (.iload_n 2, 1) := by decide +kernel
theorem dX11_know_23 : decode cX11_know 23 = .ok (.if_icmp .eq 15, 3) := by decide +kernel
theorem dX11_know_26 : decode cX11_know 26 = .ok (.iload_n 3, 1) := by decide +kernel
theorem dX11_know_27 : decode cX11_know 27 = .ok (.i2l, 1) := by decide +kernel
theorem dX11_know_28 : decode cX11_know 28 = .ok (.lconst 0, 1) := by decide +kernel
theorem dX11_know_29 : decode cX11_know 29 = .ok (.ldc2_w 69, 3) := by decide +kernel
theorem dX11_know_32 : decode cX11_know 32 = .ok (.invokestatic 25, 3) := by decide +kernel
theorem dX11_know_35 : decode cX11_know 35 = .ok (.ifCond .ne 5, 3) := by decide +kernel
theorem dX11_know_38 : decode cX11_know 38 = .ok (.iconst (-1), 1) := by decide +kernel
theorem dX11_know_39 : decode cX11_know 39 = .ok (.ireturn, 1) := by decide +kernel
theorem dX11_know_40 : decode cX11_know 40 = .ok (.aload_n 0, 1) := by decide +kernel
theorem dX11_know_41 : decode cX11_know 41 = .ok (.getfield 60, 3) := by decide +kernel
theorem dX11_know_44 : decode cX11_know 44 = .ok (.bipush 6, 2) := by decide +kernel
theorem dX11_know_46 : decode cX11_know 46 = .ok (.iload_n 1, 1) := by decide +kernel
theorem dX11_know_47 : decode cX11_know 47 = .ok (.imul, 1) := by decide +kernel
theorem dX11_know_48 : decode cX11_know 48 = .ok (.iload_n 2, 1) := by decide +kernel
theorem dX11_know_49 : decode cX11_know 49 = .ok (.iadd, 1) := by decide +kernel
theorem dX11_know_50 : decode cX11_know 50 = .ok (.iaload, 1) := by decide +kernel
theorem dX11_know_51 : decode cX11_know 51 = .ok (.istore 4, 2) := by decide +kernel
theorem dX11_know_53 : decode cX11_know 53 = .ok (.aload_n 0, 1) := by decide +kernel
theorem dX11_know_54 : decode cX11_know 54 = .ok (.iload_n 1, 1) := by decide +kernel
theorem dX11_know_55 : decode cX11_know 55 = .ok (.iload_n 2, 1) := by decide +kernel
theorem dX11_know_56 : decode cX11_know 56 = .ok (.iload_n 3, 1) := by decide +kernel
theorem dX11_know_57 : decode cX11_know 57 = .ok (.invokevirtual 89, 3) := by decide +kernel
theorem dX11_know_60 : decode cX11_know 60 = .ok (.iload 4, 2) := by decide +kernel
theorem dX11_know_62 : decode cX11_know 62 = .ok (.ireturn, 1) := by decide +kernel
theorem dX11_sheet_0 : decode cX11_sheet 0 = .ok (.aload_n 0, 1) := by decide +kernel
theorem dX11_sheet_1 : decode cX11_sheet 1 = .ok (.iconst 0, 1) := by decide +kernel
theorem dX11_sheet_2 : decode cX11_sheet 2 = .ok (.putfield 3, 3) := by decide +kernel
theorem dX11_sheet_5 : decode cX11_sheet 5 = .ok (.aload_n 0, 1) := by decide +kernel
theorem dX11_sheet_6 : decode cX11_sheet 6 = .ok (.iload_n 1, 1) := by decide +kernel
theorem dX11_sheet_7 : decode cX11_sheet 7 = .ok (.invokevirtual 77, 3) := by decide +kernel
theorem dX11_sheet_10 : decode cX11_sheet 10 = .ok (.ifCond .eq 21, 3) := by decide +kernel
theorem dX11_sheet_13 : decode cX11_sheet 13 = .ok (.iload_n 2, 1) := by decide +kernel
theorem dX11_sheet_14 : decode cX11_sheet 14 = .ok (.i2l, 1) := by decide +kernel
theorem dX11_sheet_15 : decode cX11_sheet 15 = .ok (.lconst 0, 1) := by decide +kernel
theorem dX11_sheet_16 : decode cX11_sheet 16 = .ok (.ldc2_w 93, 3) := by decide +kernel
theorem dX11_sheet_19 : decode cX11_sheet 19 = .ok (.invokestatic 25, 3) := by decide +kernel
theorem dX11_sheet_22 : decode cX11_sheet 22 = .ok (.ifCond .eq 9, 3) := by decide +kernel
theorem dX11_sheet_25 : decode cX11_sheet 25 = .ok (.iload_n 3, 1) := by decide +kernel
theorem dX11_sheet_26 : decode cX11_sheet 26 = .ok (.bipush 6, 2) := by decide +kernel
theorem dX11_sheet_28 : decode cX11_sheet 28 = .ok (.if_icmp .le 5, 3) := by decide +kernel
theorem dX11_sheet_31 : decode cX11_sheet 31 = .ok (.iconst (-1), 1) := by decide +kernel
theorem dX11_sheet_32 : decode cX11_sheet 32 = .ok (.ireturn, 1) := by decide +kernel
theorem dX11_sheet_33 : decode cX11_sheet 33 = .ok (.iload_n 2, 1) := by decide +kernel
theorem dX11_sheet_34 : decode cX11_sheet 34 = .ok (.iconst 3, 1) := by decide +kernel
theorem dX11_sheet_35 : decode cX11_sheet 35 = .ok (.if_icmp .eq 10, 3) := by decide +kernel
theorem dX11_sheet_38 : decode cX11_sheet 38 = .ok (.iload_n 3, 1) := by decide +kernel
theorem dX11_sheet_39 : decode cX11_sheet 39 = .ok (.ifCond .ge 6, 3) := by decide +kernel
theorem dX11_sheet_42 : decode cX11_sheet 42 = .ok (.bipush (-2), 2) := by decide +kernel
theorem dX11_sheet_44 : decode cX11_sheet 44 = .ok (.ireturn, 1) := by decide +kernel
theorem dX11_sheet_45 : decode cX11_sheet 45 = .ok (.iload 4, 2) := by decide +kernel
theorem dX11_sheet_47 : decode cX11_sheet 47 = .ok (.istore 6, 2) := by decide +kernel
theorem dX11_sheet_49 : decode cX11_sheet 49 = .ok (.iconst 0, 1) := by decide +kernel
theorem dX11_sheet_50 : decode cX11_sheet 50 = .ok (.istore 7, 2) := by decide +kernel
theorem dX11_sheet_52 : decode cX11_sheet 52 = .ok (.iconst 0, 1) := by decide +kernel
theorem dX11_sheet_53 : decode cX11_sheet 53 = .ok (.istore 8, 2) := by decide +kernel
theorem dX11_sheet_55 : decode cX11_sheet 55 = .ok (.iload 8, 2) := by decide +kernel
theorem dX11_sheet_57 : decode cX11_sheet 57 = .ok (.aload_n 0, 1) := by decide +kernel
theorem dX11_sheet_58 : decode cX11_sheet 58 = .ok (.getfield 22, 3) := by decide +kernel
theorem dX11_sheet_61 : decode cX11_sheet 61 = .ok (.if_icmp .ge 112, 3) := by decide +kernel
theorem dX11_sheet_64 : decode cX11_sheet 64 = .ok (.iload_n 2, 1) := by decide +kernel
theorem dX11_sheet_65 : decode cX11_sheet 65 = .ok (.iconst 3, 1) := by decide +kernel
theorem dX11_sheet_66 : decode cX11_sheet 66 = .ok (.if_icmp .ne 7, 3) := by decide +kernel
theorem dX11_sheet_69 : decode cX11_sheet 69 = .ok (.iconst 0, 1) := by decide +kernel
theorem dX11_sheet_70 : decode cX11_sheet 70 = .ok (.goto 26, 3) := by decide +kernel
theorem dX11_sheet_73 : decode cX11_sheet 73 = .ok (.iload_n 2, 1) := by decide +kernel
theorem dX11_sheet_74 : decode cX11_sheet 74 = .ok (.ifCond .ne 9, 3) := by decide +kernel
theorem dX11_sheet_77 : decode cX11_sheet 77 = .ok (.iload 6, 2) := by decide +kernel
theorem dX11_sheet_79 : decode cX11_sheet 79 = .ok (.i2b, 1) := by decide +kernel
theorem dX11_sheet_80 : decode cX11_sheet 80 = .ok (.goto 16, 3) := by decide +kernel
theorem dX11_sheet_83 : decode cX11_sheet 83 = .ok (.iload_n 2, 1) := by decide +kernel
theorem dX11_sheet_84 : decode cX11_sheet 84 = .ok (.iconst 1, 1) := by decide +kernel
theorem dX11_sheet_85 : decode cX11_sheet 85 = .ok (.if_icmp .ne 9, 3) := by decide +kernel
theorem dX11_sheet_88 : decode cX11_sheet 88 = .ok (.iload 6, 2) := by decide +kernel
theorem dX11_sheet_90 : decode cX11_sheet 90 = .ok (.i2s, 1) := by decide +kernel
theorem dX11_sheet_91 : decode cX11_sheet 91 = .ok (.goto 5, 3) := by decide +kernel
theorem dX11_sheet_94 : decode cX11_sheet 94 = .ok (.iload 6, 2) := by decide +kernel
theorem dX11_sheet_96 : decode cX11_sheet 96 = .ok (.istore 9, 2) := by decide +kernel
theorem dX11_sheet_98 : decode cX11_sheet 98 = .ok (.iload 8, 2) := by decide +kernel
theorem dX11_sheet_100 : decode cX11_sheet 100 = .ok (.iload_n 1, 1) := by decide +kernel
theorem dX11_sheet_101 : decode cX11_sheet 101 = .ok (.if_icmp .eq 32, 3) := by decide +kernel
theorem dX11_sheet_104 : decode cX11_sheet 104 = .ok (.iload_n 2, 1) := by decide +kernel
theorem dX11_sheet_105 : decode cX11_sheet 105 = .ok (.iconst 3, 1) := by decide +kernel
theorem dX11_sheet_106 : decode cX11_sheet 106 = .ok (.if_icmp .eq 9, 3) := by decide +kernel
theorem dX11_sheet_109 : decode cX11_sheet 109 = .ok (.iload 8, 2) := by decide +kernel
theorem dX11_sheet_111 : decode cX11_sheet 111 = .ok (.iload_n 3, 1) := by decide +kernel
theorem dX11_sheet_112 : decode cX11_sheet 112 = .ok (.if_icmp .ge 21, 3) := by decide +kernel
theorem dX11_sheet_115 : decode cX11_sheet 115 = .ok (.aload_n 0, 1) := by decide +kernel
theorem dX11_sheet_116 : decode cX11_sheet 116 = .ok (.iload_n 1, 1) := by decide +kernel
theorem dX11_sheet_117 : decode cX11_sheet 117 = .ok (.iload 8, 2) := by decide +kernel
theorem dX11_sheet_119 : decode cX11_sheet 119 = .ok (.iconst 0, 1) := by decide +kernel
theorem dX11_sheet_120 : decode cX11_sheet 120 = .ok (.bipush 9, 2) := by decide +kernel
theorem dX11_sheet_122 : decode cX11_sheet 122 = .ok (.iload 9, 2) := by decide +kernel
theorem dX11_sheet_124 : decode cX11_sheet 124 = .ok (.invokestatic 95, 3) := by decide +kernel
theorem dX11_sheet_127 : decode cX11_sheet 127 = .ok (.invokestatic 101, 3) := by decide +kernel
theorem dX11_sheet_130 : decode cX11_sheet 130 = .ok (.invokevirtual 89, 3) := by decide +kernel
theorem dX11_sheet_133 : decode cX11_sheet 133 = .ok (.iload 7, 2) := by decide +kernel
theorem dX11_sheet_135 : decode cX11_sheet 135 = .ok (.iload 8, 2) := by decide +kernel
theorem dX11_sheet_137 : decode cX11_sheet 137 = .ok (.iload_n 1, 1) := by decide +kernel
theorem dX11_sheet_138 : decode cX11_sheet 138 = .ok (.if_icmp .ne 7, 3) := by decide +kernel
theorem dX11_sheet_141 : decode cX11_sheet 141 = .ok (.iconst 0, 1) := by decide +kernel
theorem dX11_sheet_142 : decode cX11_sheet 142 = .ok (.goto 15, 3) := by decide +kernel
theorem dX11_sheet_145 : decode cX11_sheet 145 = .ok (.aload_n 0, 1) := by decide +kernel
theorem dX11_sheet_146 : decode cX11_sheet 146 = .ok (.getfield 60, 3) := by decide +kernel
theorem dX11_sheet_149 : decode cX11_sheet 149 = .ok (.bipush 6, 2) := by decide +kernel
theorem dX11_sheet_151 : decode cX11_sheet 151 = .ok (.iload_n 1, 1) := by decide +kernel
theorem dX11_sheet_152 : decode cX11_sheet 152 = .ok (.imul, 1) := by decide +kernel
theorem dX11_sheet_153 : decode cX11_sheet 153 = .ok (.iload 8, 2) := by decide +kernel
theorem dX11_sheet_155 : decode cX11_sheet 155 = .ok (.iadd, 1) := by decide +kernel
theorem dX11_sheet_156 : decode cX11_sheet 156 = .ok (.iaload, 1) := by decide +kernel
theorem dX11_sheet_157 : decode cX11_sheet 157 = .ok (.iadd, 1) := by decide +kernel
theorem dX11_sheet_158 : decode cX11_sheet 158 = .ok (.istore 7, 2) := by decide +kernel
theorem dX11_sheet_160 : decode cX11_sheet 160 = .ok (.iload 6, 2) := by decide +kernel
theorem dX11_sheet_162 : decode cX11_sheet 162 = .ok (.iload 5, 2) := by decide +kernel
theorem dX11_sheet_164 : decode cX11_sheet 164 = .ok (.iadd, 1) := by decide +kernel
theorem dX11_sheet_165 : decode cX11_sheet 165 = .ok (.istore 6, 2) := by decide +kernel
theorem dX11_sheet_167 : decode cX11_sheet 167 = .ok (.iinc 8 1, 3) := by decide +kernel
theorem dX11_sheet_170 : decode cX11_sheet 170 = .ok (.goto (-115), 3) := by decide +kernel
theorem dX11_sheet_173 : decode cX11_sheet 173 = .ok (.iload 7, 2) := by decide +kernel
theorem dX11_sheet_175 : decode cX11_sheet 175 = .ok (.ireturn, 1) := by decide +kernel
theorem dX11_set_0 : decode cX11_set 0 = .ok (.aload_n 0, 1) := by decide +kernel
theorem dX11_set_1 : decode cX11_set 1 = .ok (.iconst 0, 1) := by decide +kernel
theorem dX11_set_2 : decode cX11_set 2 = .ok (.putfield 3, 3) := by decide +kernel
theorem dX11_set_5 : decode cX11_set 5 = .ok (.iload_n 1, 1) := by decide +kernel
theorem dX11_set_6 : decode cX11_set 6 = .ok (.i2l, 1) := by decide +kernel
theorem dX11_set_7 : decode cX11_set 7 = .ok (.lconst 0, 1) := by decide +kernel
theorem dX11_set_8 : decode cX11_set 8 = .ok (.lconst 1, 1) := by decide +kernel
theorem dX11_set_9 : decode cX11_set 9 = .ok (.invokestatic 25, 3) := by decide +kernel
theorem dX11_set_12 : decode cX11_set 12 = .ok (.ifCond .eq 25, 3) := by decide +kernel
theorem dX11_set_15 : decode cX11_set 15 = .ok (.iload_n 2, 1) := by decide +kernel
theorem dX11_set_16 : decode cX11_set 16 = .ok (.i2l, 1) := by decide +kernel
theorem dX11_set_17 : decode cX11_set 17 = .ok (.lconst 0, 1) := by decide +kernel
theorem dX11_set_18 : decode cX11_set 18 = .ok (.iload_n 1, 1) := by decide +kernel
theorem dX11_set_19 : decode cX11_set 19 = .ok (.ifCond .ne 9, 3) := by decide +kernel
theorem dX11_set_22 : decode cX11_set 22 = .ok (.ldc2_w 104, 3) := by decide +kernel
theorem dX11_set_25 : decode cX11_set 25 = .ok (.goto 6, 3) := by decide +kernel
theorem dX11_set_28 : decode cX11_set 28 = .ok (.ldc2_w 106, 3) := by decide +kernel
theorem dX11_set_31 : decode cX11_set 31 = .ok (.invokestatic 25, 3) := by decide +kernel
theorem dX11_set_34 : decode cX11_set 34 = .ok (.ifCond .ne 5, 3) := by decide +kernel
theorem dX11_set_37 : decode cX11_set 37 = .ok (.iconst (-1), 1) := by decide +kernel
theorem dX11_set_38 : decode cX11_set 38 = .ok (.ireturn, 1) := by decide +kernel
theorem dX11_set_39 : decode cX11_set 39 = .ok (.iload_n 1, 1) := by decide +kernel
theorem dX11_set_40 : decode cX11_set 40 = .ok (.ifCond .ne 10, 3) := by decide +kernel
theorem dX11_set_43 : decode cX11_set 43 = .ok (.aload_n 0, 1) := by decide +kernel
theorem dX11_set_44 : decode cX11_set 44 = .ok (.getfield 108, 3) := by decide +kernel
theorem dX11_set_47 : decode cX11_set 47 = .ok (.goto 7, 3) := by decide +kernel
theorem dX11_set_50 : decode cX11_set 50 = .ok (.aload_n 0, 1) := by decide +kernel
theorem dX11_set_51 : decode cX11_set 51 = .ok (.getfield 111, 3) := by decide +kernel
theorem dX11_set_54 : decode cX11_set 54 = .ok (.istore_n 3, 1) := by decide +kernel
theorem dX11_set_55 : decode cX11_set 55 = .ok (.iload_n 1, 1) := by decide +kernel
theorem dX11_set_56 : decode cX11_set 56 = .ok (.ifCond .ne 11, 3) := by decide +kernel
theorem dX11_set_59 : decode cX11_set 59 = .ok (.aload_n 0, 1) := by decide +kernel
theorem dX11_set_60 : decode cX11_set 60 = .ok (.iload_n 2, 1) := by decide +kernel
theorem dX11_set_61 : decode cX11_set 61 = .ok (.putfield 108, 3) := by decide +kernel
theorem dX11_set_64 : decode cX11_set 64 = .ok (.goto 8, 3) := by decide +kernel
theorem dX11_set_67 : decode cX11_set 67 = .ok (.aload_n 0, 1) := by decide +kernel
theorem dX11_set_68 : decode cX11_set 68 = .ok (.iload_n 2, 1) := by decide +kernel
theorem dX11_set_69 : decode cX11_set 69 = .ok (.putfield 111, 3) := by decide +kernel
theorem dX11_set_72 : decode cX11_set 72 = .ok (.iload_n 3, 1) := by decide +kernel
theorem dX11_set_73 : decode cX11_set 73 = .ok (.ireturn, 1) := by decide +kernel
theorem dX11_isOpen_0 : decode cX11_isOpen 0 = .ok (.iload_n 2, 1) := by decide +kernel
theorem dX11_isOpen_1 : decode cX11_isOpen 1 = .ok (.aload_n 0, 1) := by decide +kernel
theorem dX11_isOpen_2 : decode cX11_isOpen 2 = .ok (.getfield 31, 3) := by decide +kernel
theorem dX11_isOpen_5 : decode cX11_isOpen 5 = .ok (.iload_n 1, 1) := by decide +kernel
theorem dX11_isOpen_6 : decode cX11_isOpen 6 = .ok (.iaload, 1) := by decide +kernel
theorem dX11_isOpen_7 : decode cX11_isOpen 7 = .ok (.iadd, 1) := by decide +kernel
theorem dX11_isOpen_8 : decode cX11_isOpen 8 = .ok (.iload_n 2, 1) := by decide +kernel
theorem dX11_isOpen_9 : decode cX11_isOpen 9 = .ok (.aload_n 0, 1) := by decide +kernel
theorem dX11_isOpen_10 : decode cX11_isOpen 10 = .ok (.getfield 50, 3) := by decide +kernel
theorem dX11_isOpen_13 : decode cX11_isOpen 13 = .ok (.iload_n 1, 1) := by decide +kernel
theorem dX11_isOpen_14 : decode cX11_isOpen 14 = .ok (.iaload, 1) := by decide +kernel
theorem dX11_isOpen_15 : decode cX11_isOpen 15 = .ok (.if_icmp .lt 12, 3) := by decide +kernel
theorem dX11_isOpen_18 : decode cX11_isOpen 18 = .ok (.aload_n 0, 1) := by decide +kernel
theorem dX11_isOpen_19 : decode cX11_isOpen 19 = .ok (.getfield 53, 3) := by decide +kernel
theorem dX11_isOpen_22 : decode cX11_isOpen 22 = .ok (.iload_n 1, 1) := by decide +kernel
theorem dX11_isOpen_23 : decode cX11_isOpen 23 = .ok (.iaload, 1) := by decide +kernel
theorem dX11_isOpen_24 : decode cX11_isOpen 24 = .ok (.goto 4, 3) := by decide +kernel
theorem dX11_isOpen_27 : decode cX11_isOpen 27 = .ok (.iconst 0, 1) := by decide +kernel
theorem dX11_isOpen_28 : decode cX11_isOpen 28 = .ok (.iadd, 1) := by decide +kernel
theorem dX11_isOpen_29 : decode cX11_isOpen 29 = .ok (.istore_n 3, 1) := by decide +kernel
theorem dX11_isOpen_30 : decode cX11_isOpen 30 = .ok (.iload_n 3, 1) := by decide +kernel
theorem dX11_isOpen_31 : decode cX11_isOpen 31 = .ok (.aload_n 0, 1) := by decide +kernel
theorem dX11_isOpen_32 : decode cX11_isOpen 32 = .ok (.getfield 35, 3) := by decide +kernel
theorem dX11_isOpen_35 : decode cX11_isOpen 35 = .ok (.iload_n 1, 1) := by decide +kernel
theorem dX11_isOpen_36 : decode cX11_isOpen 36 = .ok (.iaload, 1) := by decide +kernel
theorem dX11_isOpen_37 : decode cX11_isOpen 37 = .ok (.isub, 1) := by decide +kernel
theorem dX11_isOpen_38 : decode cX11_isOpen 38 = .ok (.bipush 24, 2) := by decide +kernel
theorem dX11_isOpen_40 : decode cX11_isOpen 40 = .ok (.invokestatic 114, 3) := by decide +kernel
theorem dX11_isOpen_43 : decode cX11_isOpen 43 = .ok (.istore 4, 2) := by decide +kernel
theorem dX11_isOpen_45 : decode cX11_isOpen 45 = .ok (.iload_n 3, 1) := by decide +kernel
theorem dX11_isOpen_46 : decode cX11_isOpen 46 = .ok (.iload 4, 2) := by decide +kernel
theorem dX11_isOpen_48 : decode cX11_isOpen 48 = .ok (.isub, 1) := by decide +kernel
theorem dX11_isOpen_49 : decode cX11_isOpen 49 = .ok (.bipush 24, 2) := by decide +kernel
theorem dX11_isOpen_51 : decode cX11_isOpen 51 = .ok (.invokestatic 117, 3) := by decide +kernel
theorem dX11_isOpen_54 : decode cX11_isOpen 54 = .ok (.istore 5, 2) := by decide +kernel
theorem dX11_isOpen_56 : decode cX11_isOpen 56 = .ok (.iload 4, 2) := by decide +kernel
theorem dX11_isOpen_58 : decode cX11_isOpen 58 = .ok (.aload_n 0, 1) := by decide +kernel
theorem dX11_isOpen_59 : decode cX11_isOpen 59 = .ok (.getfield 38, 3) := by decide +kernel
theorem dX11_isOpen_62 : decode cX11_isOpen 62 = .ok (.iload_n 1, 1) := by decide +kernel
theorem dX11_isOpen_63 : decode cX11_isOpen 63 = .ok (.iaload, 1) := by decide +kernel
theorem dX11_isOpen_64 : decode cX11_isOpen 64 = .ok (.if_icmp .ge 30, 3) := by decide +kernel
theorem dX11_isOpen_67 : decode cX11_isOpen 67 = .ok (.iload 5, 2) := by decide +kernel
theorem dX11_isOpen_69 : decode cX11_isOpen 69 = .ok (.invokestatic 86, 3) := by decide +kernel
theorem dX11_isOpen_72 : decode cX11_isOpen 72 = .ok (.ifCond .eq 18, 3) := by decide +kernel
theorem dX11_isOpen_75 : decode cX11_isOpen 75 = .ok (.aload_n 0, 1) := by decide +kernel
theorem dX11_isOpen_76 : decode cX11_isOpen 76 = .ok (.getfield 56, 3) := by decide +kernel
theorem dX11_isOpen_79 : decode cX11_isOpen 79 = .ok (.bipush 100, 2) := by decide +kernel
theorem dX11_isOpen_81 : decode cX11_isOpen 81 = .ok (.iload_n 1, 1) := by decide +kernel
theorem dX11_isOpen_82 : decode cX11_isOpen 82 = .ok (.imul, 1) := by decide +kernel
theorem dX11_isOpen_83 : decode cX11_isOpen 83 = .ok (.iload 5, 2) := by decide +kernel
theorem dX11_isOpen_85 : decode cX11_isOpen 85 = .ok (.iadd, 1) := by decide +kernel
theorem dX11_isOpen_86 : decode cX11_isOpen 86 = .ok (.baload, 1) := by decide +kernel
theorem dX11_isOpen_87 : decode cX11_isOpen 87 = .ok (.ifCond .ne 7, 3) := by decide +kernel
theorem dX11_isOpen_90 : decode cX11_isOpen 90 = .ok (.iconst 1, 1) := by decide +kernel
theorem dX11_isOpen_91 : decode cX11_isOpen 91 = .ok (.goto 4, 3) := by decide +kernel
theorem dX11_isOpen_94 : decode cX11_isOpen 94 = .ok (.iconst 0, 1) := by decide +kernel
theorem dX11_isOpen_95 : decode cX11_isOpen 95 = .ok (.ireturn, 1) := by decide +kernel
theorem dX11_overlapOf_0 : decode cX11_overlapOf 0 = .ok (.iconst 0, 1) := by decide +kernel
theorem dX11_overlapOf_1 : decode cX11_overlapOf 1 = .ok (.istore 4, 2) := by decide +kernel
theorem dX11_overlapOf_3 : decode cX11_overlapOf 3 = .ok (.iload_n 3, 1) := by decide +kernel
theorem dX11_overlapOf_4 : decode cX11_overlapOf 4 = .ok (.istore 5, 2) := by decide +kernel
theorem dX11_overlapOf_6 : decode cX11_overlapOf 6 = .ok (.iload 5, 2) := by decide +kernel
theorem dX11_overlapOf_8 : decode cX11_overlapOf 8 = .ok (.iload_n 3, 1) := by decide +kernel
theorem dX11_overlapOf_9 : decode cX11_overlapOf 9 = .ok (.bipush 24, 2) := by decide +kernel
theorem dX11_overlapOf_11 : decode cX11_overlapOf 11 = .ok (.iadd, 1) := by decide +kernel
theorem dX11_overlapOf_12 : decode cX11_overlapOf 12 = .ok (.if_icmp .ge 42, 3) := by decide +kernel
theorem dX11_overlapOf_15 : decode cX11_overlapOf 15 = .ok (.iload 4, 2) := by decide +kernel
theorem dX11_overlapOf_17 : decode cX11_overlapOf 17 = .ok (.aload_n 0, 1) := by decide +kernel
theorem dX11_overlapOf_18 : decode cX11_overlapOf 18 = .ok (.iload_n 1, 1) := by decide +kernel
theorem dX11_overlapOf_19 : decode cX11_overlapOf 19 = .ok (.iload 5, 2) := by decide +kernel
theorem dX11_overlapOf_21 : decode cX11_overlapOf 21 = .ok (.invokevirtual 120, 3) := by decide +kernel
theorem dX11_overlapOf_24 : decode cX11_overlapOf 24 = .ok (.ifCond .eq 17, 3) := by decide +kernel
theorem dX11_overlapOf_27 : decode cX11_overlapOf 27 = .ok (.aload_n 0, 1) := by decide +kernel
theorem dX11_overlapOf_28 : decode cX11_overlapOf 28 = .ok (.iload_n 2, 1) := by decide +kernel
theorem dX11_overlapOf_29 : decode cX11_overlapOf 29 = .ok (.iload 5, 2) := by decide +kernel
theorem dX11_overlapOf_31 : decode cX11_overlapOf 31 = .ok (.invokevirtual 120, 3) := by decide +kernel
theorem dX11_overlapOf_34 : decode cX11_overlapOf 34 = .ok (.ifCond .eq 7, 3) := by decide +kernel
theorem dX11_overlapOf_37 : decode cX11_overlapOf 37 = .ok (.iconst 1, 1) := by decide +kernel
theorem dX11_overlapOf_38 : decode cX11_overlapOf 38 = .ok (.goto 4, 3) := by decide +kernel
theorem dX11_overlapOf_41 : decode cX11_overlapOf 41 = .ok (.iconst 0, 1) := by decide +kernel
theorem dX11_overlapOf_42 : decode cX11_overlapOf 42 = .ok (.invokestatic 124, 3) := by decide +kernel
theorem dX11_overlapOf_45 : decode cX11_overlapOf 45 = .ok (.iadd, 1) := by decide +kernel
theorem dX11_overlapOf_46 : decode cX11_overlapOf 46 = .ok (.istore 4, 2) := by decide +kernel
theorem dX11_overlapOf_48 : decode cX11_overlapOf 48 = .ok (.iinc 5 1, 3) := by decide +kernel
theorem dX11_overlapOf_51 : decode cX11_overlapOf 51 = .ok (.goto (-45), 3) := by decide +kernel
theorem dX11_overlapOf_54 : decode cX11_overlapOf 54 = .ok (.iload 4, 2) := by decide +kernel
theorem dX11_overlapOf_56 : decode cX11_overlapOf 56 = .ok (.ireturn, 1) := by decide +kernel
theorem dX11_lostOf_0 : decode cX11_lostOf 0 = .ok (.iload_n 1, 1) := by decide +kernel
theorem dX11_lostOf_1 : decode cX11_lostOf 1 = .ok (.iload_n 2, 1) := by decide +kernel
theorem dX11_lostOf_2 : decode cX11_lostOf 2 = .ok (.if_icmp .ne 5, 3) := by decide +kernel
theorem dX11_lostOf_5 : decode cX11_lostOf 5 = .ok (.iconst 0, 1) := by decide +kernel
theorem dX11_lostOf_6 : decode cX11_lostOf 6 = .ok (.ireturn, 1) := by decide +kernel
theorem dX11_lostOf_7 : decode cX11_lostOf 7 = .ok (.iconst 0, 1) := by decide +kernel
theorem dX11_lostOf_8 : decode cX11_lostOf 8 = .ok (.aload_n 0, 1) := by decide +kernel
theorem dX11_lostOf_9 : decode cX11_lostOf 9 = .ok (.getfield 108, 3) := by decide +kernel
theorem dX11_lostOf_12 : decode cX11_lostOf 12 = .ok (.aload_n 0, 1) := by decide +kernel
theorem dX11_lostOf_13 : decode cX11_lostOf 13 = .ok (.getfield 60, 3) := by decide +kernel
theorem dX11_lostOf_16 : decode cX11_lostOf 16 = .ok (.bipush 6, 2) := by decide +kernel
theorem dX11_lostOf_18 : decode cX11_lostOf 18 = .ok (.iload_n 1, 1) := by decide +kernel
theorem dX11_lostOf_19 : decode cX11_lostOf 19 = .ok (.imul, 1) := by decide +kernel
theorem dX11_lostOf_20 : decode cX11_lostOf 20 = .ok (.iload_n 2, 1) := by decide +kernel
theorem dX11_lostOf_21 : decode cX11_lostOf 21 = .ok (.iadd, 1) := by decide +kernel
theorem dX11_lostOf_22 : decode cX11_lostOf 22 = .ok (.iaload, 1) := by decide +kernel
theorem dX11_lostOf_23 : decode cX11_lostOf 23 = .ok (.isub, 1) := by decide +kernel
theorem dX11_lostOf_24 : decode cX11_lostOf 24 = .ok (.invokestatic 101, 3) := by decide +kernel
theorem dX11_lostOf_27 : decode cX11_lostOf 27 = .ok (.aload_n 0, 1) := by decide +kernel
theorem dX11_lostOf_28 : decode cX11_lostOf 28 = .ok (.iload_n 1, 1) := by decide +kernel
theorem dX11_lostOf_29 : decode cX11_lostOf 29 = .ok (.iload_n 2, 1) := by decide +kernel
theorem dX11_lostOf_30 : decode cX11_lostOf 30 = .ok (.iload_n 3, 1) := by decide +kernel
theorem dX11_lostOf_31 : decode cX11_lostOf 31 = .ok (.invokevirtual 128, 3) := by decide +kernel
theorem dX11_lostOf_34 : decode cX11_lostOf 34 = .ok (.ifCond .ne 7, 3) := by decide +kernel
theorem dX11_lostOf_37 : decode cX11_lostOf 37 = .ok (.iconst 2, 1) := by decide +kernel
theorem dX11_lostOf_38 : decode cX11_lostOf 38 = .ok (.goto 4, 3) := by decide +kernel
theorem dX11_lostOf_41 : decode cX11_lostOf 41 = .ok (.iconst 0, 1) := by decide +kernel
theorem dX11_lostOf_42 : decode cX11_lostOf 42 = .ok (.iadd, 1) := by decide +kernel
theorem dX11_lostOf_43 : decode cX11_lostOf 43 = .ok (.ireturn, 1) := by decide +kernel
theorem dX11_open_0 : decode cX11_open 0 = .ok (.aload_n 0, 1) := by decide +kernel
theorem dX11_open_1 : decode cX11_open 1 = .ok (.iconst 0, 1) := by decide +kernel
theorem dX11_open_2 : decode cX11_open 2 = .ok (.putfield 3, 3) := by decide +kernel
theorem dX11_open_5 : decode cX11_open 5 = .ok (.aload_n 0, 1) := by decide +kernel
theorem dX11_open_6 : decode cX11_open 6 = .ok (.iload_n 1, 1) := by decide +kernel
theorem dX11_open_7 : decode cX11_open 7 = .ok (.invokevirtual 77, 3) := by decide +kernel
theorem dX11_open_10 : decode cX11_open 10 = .ok (.ifCond .eq 22, 3) := by decide +kernel
theorem dX11_open_13 : decode cX11_open 13 = .ok (.iload_n 2, 1) := by decide +kernel
theorem dX11_open_14 : decode cX11_open 14 = .ok (.invokestatic 81, 3) := by decide +kernel
theorem dX11_open_17 : decode cX11_open 17 = .ok (.ifCond .eq 15, 3) := by decide +kernel
theorem dX11_open_20 : decode cX11_open 20 = .ok (.aload_n 0, 1) := by decide +kernel
theorem dX11_open_21 : decode cX11_open 21 = .ok (.iload_n 1, 1) := by decide +kernel
theorem dX11_open_22 : decode cX11_open 22 = .ok (.iload_n 2, 1) := by decide +kernel
theorem dX11_open_23 : decode cX11_open 23 = .ok (.invokevirtual 120, 3) := by decide +kernel
theorem dX11_open_26 : decode cX11_open 26 = .ok (.invokestatic 124, 3) := by decide +kernel
theorem dX11_open_29 : decode cX11_open 29 = .ok (.goto 4, 3) := by decide +kernel
theorem dX11_open_32 : decode cX11_open 32 = .ok (.iconst (-1), 1) := by decide +kernel
theorem dX11_open_33 : decode cX11_open 33 = .ok (.ireturn, 1) := by decide +kernel
theorem dX11_overlap_0 : decode cX11_overlap 0 = .ok (.aload_n 0, 1) := by decide +kernel
theorem dX11_overlap_1 : decode cX11_overlap 1 = .ok (.iconst 0, 1) := by decide +kernel
theorem dX11_overlap_2 : decode cX11_overlap 2 = .ok (.putfield 3, 3) := by decide +kernel
theorem dX11_overlap_5 : decode cX11_overlap 5 = .ok (.aload_n 0, 1) := by decide +kernel
theorem dX11_overlap_6 : decode cX11_overlap 6 = .ok (.iload_n 1, 1) := by decide +kernel
theorem dX11_overlap_7 : decode cX11_overlap 7 = .ok (.invokevirtual 77, 3) := by decide +kernel
theorem dX11_overlap_10 : decode cX11_overlap 10 = .ok (.ifCond .eq 28, 3) := by decide +kernel
theorem dX11_overlap_13 : decode cX11_overlap 13 = .ok (.aload_n 0, 1) := by decide +kernel
theorem dX11_overlap_14 : decode cX11_overlap 14 = .ok (.iload_n 2, 1) := by decide +kernel
theorem dX11_overlap_15 : decode cX11_overlap 15 = .ok (.invokevirtual 77, 3) := by decide +kernel
theorem dX11_overlap_18 : decode cX11_overlap 18 = .ok (.ifCond .eq 20, 3) := by decide +kernel
theorem dX11_overlap_21 : decode cX11_overlap 21 = .ok (.iload_n 3, 1) := by decide +kernel
theorem dX11_overlap_22 : decode cX11_overlap 22 = .ok (.invokestatic 81, 3) := by decide +kernel
theorem dX11_overlap_25 : decode cX11_overlap 25 = .ok (.ifCond .eq 13, 3) := by decide +kernel
theorem dX11_overlap_28 : decode cX11_overlap 28 = .ok (.aload_n 0, 1) := by decide +kernel
theorem dX11_overlap_29 : decode cX11_overlap 29 = .ok (.iload_n 1, 1) := by decide +kernel
theorem dX11_overlap_30 : decode cX11_overlap 30 = .ok (.iload_n 2, 1) := by decide +kernel
theorem dX11_overlap_31 : decode cX11_overlap 31 = .ok (.iload_n 3, 1) := by decide +kernel
theorem dX11_overlap_32 : decode cX11_overlap 32 = .ok (.invokevirtual 128, 3) := by decide +kernel
theorem dX11_overlap_35 : decode cX11_overlap 35 = .ok (.goto 4, 3) := by decide +kernel
theorem dX11_overlap_38 : decode cX11_overlap 38 = .ok (.iconst (-1), 1) := by decide +kernel
theorem dX11_overlap_39 : decode cX11_overlap 39 = .ok (.ireturn, 1) := by decide +kernel
theorem dX11_loses_0 : decode cX11_loses 0 = .ok (.aload_n 0, 1) := by decide +kernel
theorem dX11_loses_1 : decode cX11_loses 1 = .ok (.iconst 0, 1) := by decide +kernel
theorem dX11_loses_2 : decode cX11_loses 2 = .ok (.putfield 3, 3) := by decide +kernel
theorem dX11_loses_5 : decode cX11_loses 5 = .ok (.aload_n 0, 1) := by decide +kernel
theorem dX11_loses_6 : decode cX11_loses 6 = .ok (.iload_n 1, 1) := by decide +kernel
theorem dX11_loses_7 : decode cX11_loses 7 = .ok (.invokevirtual 77, 3) := by decide +kernel
theorem dX11_loses_10 : decode cX11_loses 10 = .ok (.ifCond .eq 28, 3) := by decide +kernel
theorem dX11_loses_13 : decode cX11_loses 13 = .ok (.aload_n 0, 1) := by decide +kernel
theorem dX11_loses_14 : decode cX11_loses 14 = .ok (.iload_n 2, 1) := by decide +kernel
theorem dX11_loses_15 : decode cX11_loses 15 = .ok (.invokevirtual 77, 3) := by decide +kernel
theorem dX11_loses_18 : decode cX11_loses 18 = .ok (.ifCond .eq 20, 3) := by decide +kernel
theorem dX11_loses_21 : decode cX11_loses 21 = .ok (.iload_n 3, 1) := by decide +kernel
theorem dX11_loses_22 : decode cX11_loses 22 = .ok (.invokestatic 81, 3) := by decide +kernel
theorem dX11_loses_25 : decode cX11_loses 25 = .ok (.ifCond .eq 13, 3) := by decide +kernel
theorem dX11_loses_28 : decode cX11_loses 28 = .ok (.aload_n 0, 1) := by decide +kernel
theorem dX11_loses_29 : decode cX11_loses 29 = .ok (.iload_n 1, 1) := by decide +kernel
theorem dX11_loses_30 : decode cX11_loses 30 = .ok (.iload_n 2, 1) := by decide +kernel
theorem dX11_loses_31 : decode cX11_loses 31 = .ok (.iload_n 3, 1) := by decide +kernel
theorem dX11_loses_32 : decode cX11_loses 32 = .ok (.invokevirtual 132, 3) := by decide +kernel
theorem dX11_loses_35 : decode cX11_loses 35 = .ok (.goto 4, 3) := by decide +kernel
theorem dX11_loses_38 : decode cX11_loses 38 = .ok (.iconst (-1), 1) := by decide +kernel
theorem dX11_loses_39 : decode cX11_loses 39 = .ok (.ireturn, 1) := by decide +kernel
theorem dX11_dark_0 : decode cX11_dark 0 = .ok (.aload_n 0, 1) := by decide +kernel
theorem dX11_dark_1 : decode cX11_dark 1 = .ok (.iconst 0, 1) := by decide +kernel
theorem dX11_dark_2 : decode cX11_dark 2 = .ok (.putfield 3, 3) := by decide +kernel
theorem dX11_dark_5 : decode cX11_dark 5 = .ok (.iload_n 1, 1) := by decide +kernel
theorem dX11_dark_6 : decode cX11_dark 6 = .ok (.i2l, 1) := by decide +kernel
theorem dX11_dark_7 : decode cX11_dark 7 = .ok (.lconst 0, 1) := by decide +kernel
theorem dX11_dark_8 : decode cX11_dark 8 = .ok (.ldc2_w 135, 3) := by decide +kernel
theorem dX11_dark_11 : decode cX11_dark 11 = .ok (.invokestatic 25, 3) := by decide +kernel
theorem dX11_dark_14 : decode cX11_dark 14 = .ok (.ifCond .eq 17, 3) := by decide +kernel
theorem dX11_dark_17 : decode cX11_dark 17 = .ok (.iload_n 2, 1) := by decide +kernel
theorem dX11_dark_18 : decode cX11_dark 18 = .ok (.invokestatic 81, 3) := by decide +kernel
theorem dX11_dark_21 : decode cX11_dark 21 = .ok (.ifCond .eq 10, 3) := by decide +kernel
theorem dX11_dark_24 : decode cX11_dark 24 = .ok (.aload_n 0, 1) := by decide +kernel
theorem dX11_dark_25 : decode cX11_dark 25 = .ok (.getfield 22, 3) := by decide +kernel
theorem dX11_dark_28 : decode cX11_dark 28 = .ok (.ifCond .ne 5, 3) := by decide +kernel
theorem dX11_dark_31 : decode cX11_dark 31 = .ok (.iconst (-1), 1) := by decide +kernel
theorem dX11_dark_32 : decode cX11_dark 32 = .ok (.ireturn, 1) := by decide +kernel
theorem dX11_dark_33 : decode cX11_dark 33 = .ok (.iconst 0, 1) := by decide +kernel
theorem dX11_dark_34 : decode cX11_dark 34 = .ok (.istore_n 3, 1) := by decide +kernel
theorem dX11_dark_35 : decode cX11_dark 35 = .ok (.iconst (-1), 1) := by decide +kernel
theorem dX11_dark_36 : decode cX11_dark 36 = .ok (.istore 4, 2) := by decide +kernel
theorem dX11_dark_38 : decode cX11_dark 38 = .ok (.iconst (-1), 1) := by decide +kernel
theorem dX11_dark_39 : decode cX11_dark 39 = .ok (.istore 5, 2) := by decide +kernel
theorem dX11_dark_41 : decode cX11_dark 41 = .ok (.iconst 0, 1) := by decide +kernel
theorem dX11_dark_42 : decode cX11_dark 42 = .ok (.istore 6, 2) := by decide +kernel
theorem dX11_dark_44 : decode cX11_dark 44 = .ok (.iload_n 2, 1) := by decide +kernel
theorem dX11_dark_45 : decode cX11_dark 45 = .ok (.istore 7, 2) := by decide +kernel
theorem dX11_dark_47 : decode cX11_dark 47 = .ok (.iload 7, 2) := by decide +kernel
theorem dX11_dark_49 : decode cX11_dark 49 = .ok (.iload_n 2, 1) := by decide +kernel
theorem dX11_dark_50 : decode cX11_dark 50 = .ok (.bipush 24, 2) := by decide +kernel
theorem dX11_dark_52 : decode cX11_dark 52 = .ok (.iadd, 1) := by decide +kernel
theorem dX11_dark_53 : decode cX11_dark 53 = .ok (.if_icmp .ge 128, 3) := by decide +kernel
theorem dX11_dark_56 : decode cX11_dark 56 = .ok (.iconst 0, 1) := by decide +kernel
theorem dX11_dark_57 : decode cX11_dark 57 = .ok (.istore 8, 2) := by decide +kernel
theorem dX11_dark_59 : decode cX11_dark 59 = .ok (.iconst 0, 1) := by decide +kernel
theorem dX11_dark_60 : decode cX11_dark 60 = .ok (.istore 9, 2) := by decide +kernel
theorem dX11_dark_62 : decode cX11_dark 62 = .ok (.iload 9, 2) := by decide +kernel
theorem dX11_dark_64 : decode cX11_dark 64 = .ok (.aload_n 0, 1) := by decide +kernel
theorem dX11_dark_65 : decode cX11_dark 65 = .ok (.getfield 22, 3) := by decide +kernel
theorem dX11_dark_68 : decode cX11_dark 68 = .ok (.if_icmp .ge 47, 3) := by decide +kernel
theorem dX11_dark_71 : decode cX11_dark 71 = .ok (.iload 8, 2) := by decide +kernel
theorem dX11_dark_73 : decode cX11_dark 73 = .ok (.aload_n 0, 1) := by decide +kernel
theorem dX11_dark_74 : decode cX11_dark 74 = .ok (.getfield 47, 3) := by decide +kernel
theorem dX11_dark_77 : decode cX11_dark 77 = .ok (.iload 9, 2) := by decide +kernel
theorem dX11_dark_79 : decode cX11_dark 79 = .ok (.iaload, 1) := by decide +kernel
theorem dX11_dark_80 : decode cX11_dark 80 = .ok (.iload_n 1, 1) := by decide +kernel
theorem dX11_dark_81 : decode cX11_dark 81 = .ok (.invokestatic 137, 3) := by decide +kernel
theorem dX11_dark_84 : decode cX11_dark 84 = .ok (.ifCond .eq 18, 3) := by decide +kernel
theorem dX11_dark_87 : decode cX11_dark 87 = .ok (.aload_n 0, 1) := by decide +kernel
theorem dX11_dark_88 : decode cX11_dark 88 = .ok (.iload 9, 2) := by decide +kernel
theorem dX11_dark_90 : decode cX11_dark 90 = .ok (.iload 7, 2) := by decide +kernel
theorem dX11_dark_92 : decode cX11_dark 92 = .ok (.invokevirtual 120, 3) := by decide +kernel
theorem dX11_dark_95 : decode cX11_dark 95 = .ok (.ifCond .eq 7, 3) := by decide +kernel
theorem dX11_dark_98 : decode cX11_dark 98 = .ok (.iconst 1, 1) := by decide +kernel
theorem dX11_dark_99 : decode cX11_dark 99 = .ok (.goto 4, 3) := by decide +kernel
theorem dX11_dark_102 : decode cX11_dark 102 = .ok (.iconst 0, 1) := by decide +kernel
theorem dX11_dark_103 : decode cX11_dark 103 = .ok (.invokestatic 124, 3) := by decide +kernel
theorem dX11_dark_106 : decode cX11_dark 106 = .ok (.iadd, 1) := by decide +kernel
theorem dX11_dark_107 : decode cX11_dark 107 = .ok (.istore 8, 2) := by decide +kernel
theorem dX11_dark_109 : decode cX11_dark 109 = .ok (.iinc 9 1, 3) := by decide +kernel
theorem dX11_dark_112 : decode cX11_dark 112 = .ok (.goto (-50), 3) := by decide +kernel
theorem dX11_dark_115 : decode cX11_dark 115 = .ok (.iload_n 3, 1) := by decide +kernel
theorem dX11_dark_116 : decode cX11_dark 116 = .ok (.iload 8, 2) := by decide +kernel
theorem dX11_dark_118 : decode cX11_dark 118 = .ok (.ifCond .ne 7, 3) := by decide +kernel
theorem dX11_dark_121 : decode cX11_dark 121 = .ok (.iconst 1, 1) := by decide +kernel
theorem dX11_dark_122 : decode cX11_dark 122 = .ok (.goto 4, 3) := by decide +kernel
theorem dX11_dark_125 : decode cX11_dark 125 = .ok (.iconst 0, 1) := by decide +kernel
theorem dX11_dark_126 : decode cX11_dark 126 = .ok (.invokestatic 124, 3) := by decide +kernel
theorem dX11_dark_129 : decode cX11_dark 129 = .ok (.iadd, 1) := by decide +kernel
theorem dX11_dark_130 : decode cX11_dark 130 = .ok (.istore_n 3, 1) := by decide +kernel
theorem dX11_dark_131 : decode cX11_dark 131 = .ok (.iload 8, 2) := by decide +kernel
theorem dX11_dark_133 : decode cX11_dark 133 = .ok (.ifCond .ne 13, 3) := by decide +kernel
theorem dX11_dark_136 : decode cX11_dark 136 = .ok (.iload 4, 2) := by decide +kernel
theorem dX11_dark_138 : decode cX11_dark 138 = .ok (.ifCond .ge 8, 3) := by decide +kernel
theorem dX11_dark_141 : decode cX11_dark 141 = .ok (.iload 7, 2) := by decide +kernel
theorem dX11_dark_143 : decode cX11_dark 143 = .ok (.goto 5, 3) := by decide +kernel
theorem dX11_dark_146 : decode cX11_dark 146 = .ok (.iload 4, 2) := by decide +kernel
theorem dX11_dark_148 : decode cX11_dark 148 = .ok (.istore 4, 2) := by decide +kernel
theorem dX11_dark_150 : decode cX11_dark 150 = .ok (.iload 8, 2) := by decide +kernel
theorem dX11_dark_152 : decode cX11_dark 152 = .ok (.iload 5, 2) := by decide +kernel
theorem dX11_dark_154 : decode cX11_dark 154 = .ok (.if_icmp .le 8, 3) := by decide +kernel
theorem dX11_dark_157 : decode cX11_dark 157 = .ok (.iload 7, 2) := by decide +kernel
theorem dX11_dark_159 : decode cX11_dark 159 = .ok (.goto 5, 3) := by decide +kernel
theorem dX11_dark_162 : decode cX11_dark 162 = .ok (.iload 6, 2) := by decide +kernel
theorem dX11_dark_164 : decode cX11_dark 164 = .ok (.istore 6, 2) := by decide +kernel
theorem dX11_dark_166 : decode cX11_dark 166 = .ok (.iload 5, 2) := by decide +kernel
theorem dX11_dark_168 : decode cX11_dark 168 = .ok (.iload 8, 2) := by decide +kernel
theorem dX11_dark_170 : decode cX11_dark 170 = .ok (.invokestatic 101, 3) := by decide +kernel
theorem dX11_dark_173 : decode cX11_dark 173 = .ok (.istore 5, 2) := by decide +kernel
theorem dX11_dark_175 : decode cX11_dark 175 = .ok (.iinc 7 1, 3) := by decide +kernel
theorem dX11_dark_178 : decode cX11_dark 178 = .ok (.goto (-131), 3) := by decide +kernel
theorem dX11_dark_181 : decode cX11_dark 181 = .ok (.aload_n 0, 1) := by decide +kernel
theorem dX11_dark_182 : decode cX11_dark 182 = .ok (.iconst 0, 1) := by decide +kernel
theorem dX11_dark_183 : decode cX11_dark 183 = .ok (.putfield 11, 3) := by decide +kernel
theorem dX11_dark_186 : decode cX11_dark 186 = .ok (.aload_n 0, 1) := by decide +kernel
theorem dX11_dark_187 : decode cX11_dark 187 = .ok (.iload 4, 2) := by decide +kernel
theorem dX11_dark_189 : decode cX11_dark 189 = .ok (.i2l, 1) := by decide +kernel
theorem dX11_dark_190 : decode cX11_dark 190 = .ok (.invokevirtual 18, 3) := by decide +kernel
theorem dX11_dark_193 : decode cX11_dark 193 = .ok (.aload_n 0, 1) := by decide +kernel
theorem dX11_dark_194 : decode cX11_dark 194 = .ok (.iload 5, 2) := by decide +kernel
theorem dX11_dark_196 : decode cX11_dark 196 = .ok (.i2l, 1) := by decide +kernel
theorem dX11_dark_197 : decode cX11_dark 197 = .ok (.invokevirtual 18, 3) := by decide +kernel
theorem dX11_dark_200 : decode cX11_dark 200 = .ok (.aload_n 0, 1) := by decide +kernel
theorem dX11_dark_201 : decode cX11_dark 201 = .ok (.iload 6, 2) := by decide +kernel
theorem dX11_dark_203 : decode cX11_dark 203 = .ok (.i2l, 1) := by decide +kernel
theorem dX11_dark_204 : decode cX11_dark 204 = .ok (.invokevirtual 18, 3) := by decide +kernel
theorem dX11_dark_207 : decode cX11_dark 207 = .ok (.iload_n 3, 1) := by decide +kernel
theorem dX11_dark_208 : decode cX11_dark 208 = .ok (.ireturn, 1) := by decide +kernel
theorem dX11_putsBy_0 : decode cX11_putsBy 0 = .ok (.iconst 0, 1) := by decide +kernel
theorem dX11_putsBy_1 : decode cX11_putsBy 1 = .ok (.istore_n 2, 1) := by decide +kernel
theorem dX11_putsBy_2 : decode cX11_putsBy 2 = .ok (.iload_n 2, 1) := by decide +kernel
theorem dX11_putsBy_3 : decode cX11_putsBy 3 = .ok (.bipush 127, 2) := by decide +kernel
theorem dX11_putsBy_5 : decode cX11_putsBy 5 = .ok (.if_icmp .ge 18, 3) := by decide +kernel
theorem dX11_putsBy_8 : decode cX11_putsBy 8 = .ok (.aload_n 1, 1) := by decide +kernel
theorem dX11_putsBy_9 : decode cX11_putsBy 9 = .ok (.iload_n 2, 1) := by decide +kernel
theorem dX11_putsBy_10 : decode cX11_putsBy 10 = .ok (.aload_n 0, 1) := by decide +kernel
theorem dX11_putsBy_11 : decode cX11_putsBy 11 = .ok (.getfield 140, 3) := by decide +kernel
theorem dX11_putsBy_14 : decode cX11_putsBy 14 = .ok (.iload_n 2, 1) := by decide +kernel
theorem dX11_putsBy_15 : decode cX11_putsBy 15 = .ok (.iaload, 1) := by decide +kernel
theorem dX11_putsBy_16 : decode cX11_putsBy 16 = .ok (.iastore, 1) := by decide +kernel
theorem dX11_putsBy_17 : decode cX11_putsBy 17 = .ok (.iinc 2 1, 3) := by decide +kernel
theorem dX11_putsBy_20 : decode cX11_putsBy 20 = .ok (.goto (-18), 3) := by decide +kernel
theorem dX11_putsBy_23 : decode cX11_putsBy 23 = .ok (.return_, 1) := by decide +kernel
theorem dX11_takesBack_0 : decode cX11_takesBack 0 = .ok (.iconst 0, 1) := by decide +kernel
theorem dX11_takesBack_1 : decode cX11_takesBack 1 = .ok (.istore_n 2, 1) := by decide +kernel
theorem dX11_takesBack_2 : decode cX11_takesBack 2 = .ok (.iload_n 2, 1) := by decide +kernel
theorem dX11_takesBack_3 : decode cX11_takesBack 3 = .ok (.bipush 127, 2) := by decide +kernel
theorem dX11_takesBack_5 : decode cX11_takesBack 5 = .ok (.if_icmp .ge 18, 3) := by decide +kernel
theorem dX11_takesBack_8 : decode cX11_takesBack 8 = .ok (.aload_n 0, 1) := by decide +kernel
theorem dX11_takesBack_9 : decode cX11_takesBack 9 = .ok (.getfield 140, 3) := by decide +kernel
theorem dX11_takesBack_12 : decode cX11_takesBack 12 = .ok (.iload_n 2, 1) := by decide +kernel
theorem dX11_takesBack_13 : decode cX11_takesBack 13 = .ok (.aload_n 1, 1) := by decide +kernel
theorem dX11_takesBack_14 : decode cX11_takesBack 14 = .ok (.iload_n 2, 1) := by decide +kernel
theorem dX11_takesBack_15 : decode cX11_takesBack 15 = .ok (.iaload, 1) := by decide +kernel
theorem dX11_takesBack_16 : decode cX11_takesBack 16 = .ok (.iastore, 1) := by decide +kernel
theorem dX11_takesBack_17 : decode cX11_takesBack 17 = .ok (.iinc 2 1, 3) := by decide +kernel
theorem dX11_takesBack_20 : decode cX11_takesBack 20 = .ok (.goto (-18), 3) := by decide +kernel
theorem dX11_takesBack_23 : decode cX11_takesBack 23 = .ok (.return_, 1) := by decide +kernel
theorem dX11_lays_0 : decode cX11_lays 0 = .ok (.aload_n 0, 1) := by decide +kernel
theorem dX11_lays_1 : decode cX11_lays 1 = .ok (.getfield 140, 3) := by decide +kernel
theorem dX11_lays_4 : decode cX11_lays 4 = .ok (.iconst 3, 1) := by decide +kernel
theorem dX11_lays_5 : decode cX11_lays 5 = .ok (.iload_n 1, 1) := by decide +kernel
theorem dX11_lays_6 : decode cX11_lays 6 = .ok (.iadd, 1) := by decide +kernel
theorem dX11_lays_7 : decode cX11_lays 7 = .ok (.aload_n 0, 1) := by decide +kernel
theorem dX11_lays_8 : decode cX11_lays 8 = .ok (.getfield 143, 3) := by decide +kernel
theorem dX11_lays_11 : decode cX11_lays 11 = .ok (.iload_n 1, 1) := by decide +kernel
theorem dX11_lays_12 : decode cX11_lays 12 = .ok (.iaload, 1) := by decide +kernel
theorem dX11_lays_13 : decode cX11_lays 13 = .ok (.iastore, 1) := by decide +kernel
theorem dX11_lays_14 : decode cX11_lays 14 = .ok (.aload_n 0, 1) := by decide +kernel
theorem dX11_lays_15 : decode cX11_lays 15 = .ok (.getfield 140, 3) := by decide +kernel
theorem dX11_lays_18 : decode cX11_lays 18 = .ok (.bipush 11, 2) := by decide +kernel
theorem dX11_lays_20 : decode cX11_lays 20 = .ok (.iload_n 1, 1) := by decide +kernel
theorem dX11_lays_21 : decode cX11_lays 21 = .ok (.iadd, 1) := by decide +kernel
theorem dX11_lays_22 : decode cX11_lays 22 = .ok (.aload_n 0, 1) := by decide +kernel
theorem dX11_lays_23 : decode cX11_lays 23 = .ok (.getfield 146, 3) := by decide +kernel
theorem dX11_lays_26 : decode cX11_lays 26 = .ok (.iload_n 1, 1) := by decide +kernel
theorem dX11_lays_27 : decode cX11_lays 27 = .ok (.iaload, 1) := by decide +kernel
theorem dX11_lays_28 : decode cX11_lays 28 = .ok (.iastore, 1) := by decide +kernel
theorem dX11_lays_29 : decode cX11_lays 29 = .ok (.aload_n 0, 1) := by decide +kernel
theorem dX11_lays_30 : decode cX11_lays 30 = .ok (.getfield 140, 3) := by decide +kernel
theorem dX11_lays_33 : decode cX11_lays 33 = .ok (.bipush 19, 2) := by decide +kernel
theorem dX11_lays_35 : decode cX11_lays 35 = .ok (.iload_n 1, 1) := by decide +kernel
theorem dX11_lays_36 : decode cX11_lays 36 = .ok (.iadd, 1) := by decide +kernel
theorem dX11_lays_37 : decode cX11_lays 37 = .ok (.iconst 0, 1) := by decide +kernel
theorem dX11_lays_38 : decode cX11_lays 38 = .ok (.iastore, 1) := by decide +kernel
theorem dX11_lays_39 : decode cX11_lays 39 = .ok (.aload_n 0, 1) := by decide +kernel
theorem dX11_lays_40 : decode cX11_lays 40 = .ok (.getfield 140, 3) := by decide +kernel
theorem dX11_lays_43 : decode cX11_lays 43 = .ok (.bipush 27, 2) := by decide +kernel
theorem dX11_lays_45 : decode cX11_lays 45 = .ok (.iload_n 1, 1) := by decide +kernel
theorem dX11_lays_46 : decode cX11_lays 46 = .ok (.iadd, 1) := by decide +kernel
theorem dX11_lays_47 : decode cX11_lays 47 = .ok (.iconst 0, 1) := by decide +kernel
theorem dX11_lays_48 : decode cX11_lays 48 = .ok (.iastore, 1) := by decide +kernel
theorem dX11_lays_49 : decode cX11_lays 49 = .ok (.aload_n 0, 1) := by decide +kernel
theorem dX11_lays_50 : decode cX11_lays 50 = .ok (.getfield 140, 3) := by decide +kernel
theorem dX11_lays_53 : decode cX11_lays 53 = .ok (.bipush 35, 2) := by decide +kernel
theorem dX11_lays_55 : decode cX11_lays 55 = .ok (.iload_n 1, 1) := by decide +kernel
theorem dX11_lays_56 : decode cX11_lays 56 = .ok (.iadd, 1) := by decide +kernel
theorem dX11_lays_57 : decode cX11_lays 57 = .ok (.iconst (-1), 1) := by decide +kernel
theorem dX11_lays_58 : decode cX11_lays 58 = .ok (.iastore, 1) := by decide +kernel
theorem dX11_lays_59 : decode cX11_lays 59 = .ok (.aload_n 0, 1) := by decide +kernel
theorem dX11_lays_60 : decode cX11_lays 60 = .ok (.getfield 140, 3) := by decide +kernel
theorem dX11_lays_63 : decode cX11_lays 63 = .ok (.bipush 43, 2) := by decide +kernel
theorem dX11_lays_65 : decode cX11_lays 65 = .ok (.iload_n 1, 1) := by decide +kernel
theorem dX11_lays_66 : decode cX11_lays 66 = .ok (.iadd, 1) := by decide +kernel
theorem dX11_lays_67 : decode cX11_lays 67 = .ok (.iconst 0, 1) := by decide +kernel
theorem dX11_lays_68 : decode cX11_lays 68 = .ok (.iastore, 1) := by decide +kernel
theorem dX11_lays_69 : decode cX11_lays 69 = .ok (.aload_n 0, 1) := by decide +kernel
theorem dX11_lays_70 : decode cX11_lays 70 = .ok (.getfield 140, 3) := by decide +kernel
theorem dX11_lays_73 : decode cX11_lays 73 = .ok (.bipush 51, 2) := by decide +kernel
theorem dX11_lays_75 : decode cX11_lays 75 = .ok (.iload_n 1, 1) := by decide +kernel
theorem dX11_lays_76 : decode cX11_lays 76 = .ok (.iadd, 1) := by decide +kernel
theorem dX11_lays_77 : decode cX11_lays 77 = .ok (.iconst 0, 1) := by decide +kernel
theorem dX11_lays_78 : decode cX11_lays 78 = .ok (.iastore, 1) := by decide +kernel
theorem dX11_lays_79 : decode cX11_lays 79 = .ok (.aload_n 0, 1) := by decide +kernel
theorem dX11_lays_80 : decode cX11_lays 80 = .ok (.getfield 140, 3) := by decide +kernel
theorem dX11_lays_83 : decode cX11_lays 83 = .ok (.bipush 59, 2) := by decide +kernel
theorem dX11_lays_85 : decode cX11_lays 85 = .ok (.iload_n 1, 1) := by decide +kernel
theorem dX11_lays_86 : decode cX11_lays 86 = .ok (.iadd, 1) := by decide +kernel
theorem dX11_lays_87 : decode cX11_lays 87 = .ok (.iconst 0, 1) := by decide +kernel
theorem dX11_lays_88 : decode cX11_lays 88 = .ok (.iastore, 1) := by decide +kernel
theorem dX11_lays_89 : decode cX11_lays 89 = .ok (.return_, 1) := by decide +kernel
noncomputable def f_X11_clock (fu : Nat) (x1 : Int32) (x2 : Int32) (x3 : Int32) (m : hM) : Option (Int32 × hM) :=
  hLet (sI m 96 0 0) fun m1 =>
hBd (f_X11_isOffice fu x1 m1) fun y2 m3 =>
if y2 = 0 then (
some (0, m3)) else (
hBd (f_X11_isHour fu x2 m3) fun y5 m6 =>
if y5 = 0 then (
some (0, m6)) else (
hBd (f_X11_in fu (Int32.toInt64 x3) (-1) 1 m6) fun y8 m9 =>
if ¬ y8 = 0 then (
if hIn x1 6 then (
hLet (sI m9 104 (Int32.toNatClampNeg x1) x2) fun m12 =>
if hIn x1 6 then (
hLet (sI m12 105 (Int32.toNatClampNeg x1) x3) fun m14 =>
some (1, m14)) else none) else none) else (
some (0, m9))))
set_option maxRecDepth 100000 in
set_option maxHeartbeats 4000000 in
theorem c_X11_clock (G : hG) (fu : Nat) (x1 : Int32) (x2 : Int32) (x3 : Int32) (m : hM) : Mt vI G 3 yX11_clock cX11_clock 4 (some .boolean) [hA G 96, .int x1, .int x2, .int x3] m (f_X11_clock fu x1 x2 x3 m) := by
  refine mt_of (by decide +kernel) (Nat.le_of_ble_eq_true rfl) (fun X C K => ?_)
  have C : Cx G X 3 cX11_clock 4 RX11 (some .boolean) := C
  show Rf vI G X 0 [(0, hA G 96), (1, .int x1), (2, .int x2), (3, .int x3)] [] m _
  unfold f_X11_clock
  refine rf_aload_n C (n := 1) (q := 0) dX11_clock_0 rfl rfl rfl ?_
  refine rf_iconst C (n := 2) (v := 0) dX11_clock_1 rfl (by decide) ?_
  refine rf_putI C (n := 5) pl_RX11_3 ly_96 rfl ⟨rfl, rfl⟩ dX11_clock_2 rfl ?_
  refine rf_letM (fun m1 => ?_)
  refine rf_aload_n C (n := 6) (q := 0) dX11_clock_5 rfl rfl rfl ?_
  refine rf_iload_n C (n := 7) (q := 1) dX11_clock_6 rfl rfl rfl ?_
  refine rf_callVi C (n := 10) (c_X11_isOffice G fu _ _) mw_RX11_77 ly_96 rfl ⟨by decide, by decide⟩ rfl (Nat.le_of_ble_eq_true rfl) rfl dX11_clock_7 rfl (fun y2 m3 => ?_)
  refine rf_if_eq C (tgt := 32) (n := 13) dX11_clock_10 (by decide) rfl (fun h4 => ?_) (fun h4 => ?_)
  · refine rf_iconst C (n := 33) (v := 0) dX11_clock_32 rfl (by decide) ?_
    exact rf_zret C K (by decide) dX11_clock_33
  · refine rf_iload_n C (n := 14) (q := 2) dX11_clock_13 rfl rfl rfl ?_
    refine rf_callSi C (n := 17) (c_X11_isHour G fu _ _) sw_RX11_81 ⟨by decide, by decide⟩ rfl (Nat.le_of_ble_eq_true rfl) rfl dX11_clock_14 rfl (fun y5 m6 => ?_)
    refine rf_if_eq C (tgt := 32) (n := 20) dX11_clock_17 (by decide) rfl (fun h7 => ?_) (fun h7 => ?_)
    · refine rf_iconst C (n := 33) (v := 0) dX11_clock_32 rfl (by decide) ?_
      exact rf_zret C K (by decide) dX11_clock_33
    · refine rf_iload_n C (n := 21) (q := 3) dX11_clock_20 rfl rfl rfl ?_
      refine rf_i2l C (n := 22) dX11_clock_21 rfl ?_
      refine rf_ldc2 C (n := 25) dX11_clock_22 rfl kl_RX11_84 ?_
      refine rf_lconst C (n := 26) (v := 1) dX11_clock_25 rfl (by decide) ?_
      refine rf_callSi C (n := 29) (c_X11_in G fu _ _ _ _) sw_RX11_25 ⟨by decide, by decide⟩ rfl (Nat.le_of_ble_eq_true rfl) rfl dX11_clock_26 rfl (fun y8 m9 => ?_)
      refine rf_if_ne C (tgt := 34) (n := 32) dX11_clock_29 (by decide) rfl (fun h10 => ?_) (fun h10 => ?_)
      · refine rf_aload_n C (n := 35) (q := 0) dX11_clock_34 rfl rfl rfl ?_
        refine rf_getS C (n := 38) fl_RX11_50 ly_96 rfl dX11_clock_35 rfl ?_
        refine rf_iload_n C (n := 39) (q := 1) dX11_clock_38 rfl rfl rfl ?_
        refine rf_iload_n C (n := 40) (q := 2) dX11_clock_39 rfl rfl rfl ?_
        refine rf_guard (fun h11 => ?_)
        refine rf_iast C (n := 41) ly_104 h11 rfl dX11_clock_40 rfl ?_
        refine rf_letM (fun m12 => ?_)
        refine rf_aload_n C (n := 42) (q := 0) dX11_clock_41 rfl rfl rfl ?_
        refine rf_getS C (n := 45) fl_RX11_53 ly_96 rfl dX11_clock_42 rfl ?_
        refine rf_iload_n C (n := 46) (q := 1) dX11_clock_45 rfl rfl rfl ?_
        refine rf_iload_n C (n := 47) (q := 3) dX11_clock_46 rfl rfl rfl ?_
        refine rf_guard (fun h13 => ?_)
        refine rf_iast C (n := 48) ly_105 h13 rfl dX11_clock_47 rfl ?_
        refine rf_letM (fun m14 => ?_)
        refine rf_iconst C (n := 49) (v := 1) dX11_clock_48 rfl (by decide) ?_
        exact rf_zret C K (by decide) dX11_clock_49
      · refine rf_iconst C (n := 33) (v := 0) dX11_clock_32 rfl (by decide) ?_
        exact rf_zret C K (by decide) dX11_clock_33
noncomputable def f_X11_isDay (fu : Nat) (x0 : Int32) (m : hM) : Option (Int32 × hM) :=
  hBd (f_X11_in fu (Int32.toInt64 x0) 0 99 m) fun y1 m2 =>
if y1 = 0 ∨ y1 = 1 then (
some (y1, m2)) else none
set_option maxRecDepth 100000 in
set_option maxHeartbeats 4000000 in
theorem c_X11_isDay (G : hG) (fu : Nat) (x0 : Int32) (m : hM) : Mt vI G 2 yX11_isDay cX11_isDay 1 (some .boolean) [.int x0] m (f_X11_isDay fu x0 m) := by
  refine mt_of (by decide +kernel) (Nat.le_of_ble_eq_true rfl) (fun X C K => ?_)
  have C : Cx G X 2 cX11_isDay 1 RX11 (some .boolean) := C
  show Rf vI G X 0 [(0, .int x0)] [] m _
  unfold f_X11_isDay
  refine rf_iload_n C (n := 1) (q := 0) dX11_isDay_0 rfl rfl rfl ?_
  refine rf_i2l C (n := 2) dX11_isDay_1 rfl ?_
  refine rf_lconst C (n := 3) (v := 0) dX11_isDay_2 rfl (by decide) ?_
  refine rf_ldc2 C (n := 6) dX11_isDay_3 rfl kl_RX11_67 ?_
  refine rf_callSi C (n := 9) (c_X11_in G fu _ _ _ _) sw_RX11_25 ⟨by decide, by decide⟩ rfl (Nat.le_of_ble_eq_true rfl) rfl dX11_isDay_6 rfl (fun y1 m2 => ?_)
  refine rf_guard (fun h3 => ?_)
  exact rf_zret C K (hz_bool h3).1 dX11_isDay_9
noncomputable def f_X11_feast (fu : Nat) (x1 : Int32) (x2 : Int32) (x3 : Int32) (m : hM) : Option (Int32 × hM) :=
  hLet (sI m 96 0 0) fun m1 =>
hBd (f_X11_isOffice fu x1 m1) fun y2 m3 =>
if y2 = 0 then (
some (0, m3)) else (
hBd (f_X11_isDay fu x2 m3) fun y5 m6 =>
if ¬ y5 = 0 then (
if hIn ((100 * x1) + x2) 600 then (
hLet (sI m6 106 (Int32.toNatClampNeg ((100 * x1) + x2)) (vp_nar .boolean x3)) fun m9 =>
some (1, m9)) else none) else (
some (0, m6)))
set_option maxRecDepth 100000 in
set_option maxHeartbeats 4000000 in
theorem c_X11_feast (G : hG) (fu : Nat) (x1 : Int32) (x2 : Int32) (x3 : Int32) (m : hM) : Mt vI G 3 yX11_feast cX11_feast 4 (some .boolean) [hA G 96, .int x1, .int x2, .int x3] m (f_X11_feast fu x1 x2 x3 m) := by
  refine mt_of (by decide +kernel) (Nat.le_of_ble_eq_true rfl) (fun X C K => ?_)
  have C : Cx G X 3 cX11_feast 4 RX11 (some .boolean) := C
  show Rf vI G X 0 [(0, hA G 96), (1, .int x1), (2, .int x2), (3, .int x3)] [] m _
  unfold f_X11_feast
  refine rf_aload_n C (n := 1) (q := 0) dX11_feast_0 rfl rfl rfl ?_
  refine rf_iconst C (n := 2) (v := 0) dX11_feast_1 rfl (by decide) ?_
  refine rf_putI C (n := 5) pl_RX11_3 ly_96 rfl ⟨rfl, rfl⟩ dX11_feast_2 rfl ?_
  refine rf_letM (fun m1 => ?_)
  refine rf_aload_n C (n := 6) (q := 0) dX11_feast_5 rfl rfl rfl ?_
  refine rf_iload_n C (n := 7) (q := 1) dX11_feast_6 rfl rfl rfl ?_
  refine rf_callVi C (n := 10) (c_X11_isOffice G fu _ _) mw_RX11_77 ly_96 rfl ⟨by decide, by decide⟩ rfl (Nat.le_of_ble_eq_true rfl) rfl dX11_feast_7 rfl (fun y2 m3 => ?_)
  refine rf_if_eq C (tgt := 20) (n := 13) dX11_feast_10 (by decide) rfl (fun h4 => ?_) (fun h4 => ?_)
  · refine rf_iconst C (n := 21) (v := 0) dX11_feast_20 rfl (by decide) ?_
    exact rf_zret C K (by decide) dX11_feast_21
  · refine rf_iload_n C (n := 14) (q := 2) dX11_feast_13 rfl rfl rfl ?_
    refine rf_callSi C (n := 17) (c_X11_isDay G fu _ _) sw_RX11_86 ⟨by decide, by decide⟩ rfl (Nat.le_of_ble_eq_true rfl) rfl dX11_feast_14 rfl (fun y5 m6 => ?_)
    refine rf_if_ne C (tgt := 22) (n := 20) dX11_feast_17 (by decide) rfl (fun h7 => ?_) (fun h7 => ?_)
    · refine rf_aload_n C (n := 23) (q := 0) dX11_feast_22 rfl rfl rfl ?_
      refine rf_getS C (n := 26) fl_RX11_56 ly_96 rfl dX11_feast_23 rfl ?_
      refine rf_bipush C (n := 28) (v := 100) dX11_feast_26 rfl (by decide) ?_
      refine rf_iload_n C (n := 29) (q := 1) dX11_feast_28 rfl rfl rfl ?_
      refine rf_imul C (n := 30) dX11_feast_29 rfl ?_
      refine rf_iload_n C (n := 31) (q := 2) dX11_feast_30 rfl rfl rfl ?_
      refine rf_iadd C (n := 32) dX11_feast_31 rfl ?_
      refine rf_iload_n C (n := 33) (q := 3) dX11_feast_32 rfl rfl rfl ?_
      refine rf_guard (fun h8 => ?_)
      refine rf_zast C (n := 34) ly_106 h8 rfl dX11_feast_33 rfl ?_
      refine rf_letM (fun m9 => ?_)
      refine rf_iconst C (n := 35) (v := 1) dX11_feast_34 rfl (by decide) ?_
      exact rf_zret C K (by decide) dX11_feast_35
    · refine rf_iconst C (n := 21) (v := 0) dX11_feast_20 rfl (by decide) ?_
      exact rf_zret C K (by decide) dX11_feast_21
noncomputable def f_X11_knows (fu : Nat) (x1 : Int32) (x2 : Int32) (x3 : Int32) (m : hM) : Option (Unit × hM) :=
  if hIn ((6 * x1) + x2) 36 then (
hLet (sI m 107 (Int32.toNatClampNeg ((6 * x1) + x2)) x3) fun m2 =>
if hIn ((6 * x2) + x1) 36 then (
hLet (sI m2 107 (Int32.toNatClampNeg ((6 * x2) + x1)) x3) fun m4 =>
some ((), m4)) else none) else none
set_option maxRecDepth 100000 in
set_option maxHeartbeats 4000000 in
theorem c_X11_knows (G : hG) (fu : Nat) (x1 : Int32) (x2 : Int32) (x3 : Int32) (m : hM) : Mt vU G 1 yX11_knows cX11_knows 4 none [hA G 96, .int x1, .int x2, .int x3] m (f_X11_knows fu x1 x2 x3 m) := by
  refine mt_of (by decide +kernel) (Nat.le_of_ble_eq_true rfl) (fun X C K => ?_)
  have C : Cx G X 1 cX11_knows 4 RX11 none := C
  show Rf vU G X 0 [(0, hA G 96), (1, .int x1), (2, .int x2), (3, .int x3)] [] m _
  unfold f_X11_knows
  refine rf_aload_n C (n := 1) (q := 0) dX11_knows_0 rfl rfl rfl ?_
  refine rf_getS C (n := 4) fl_RX11_60 ly_96 rfl dX11_knows_1 rfl ?_
  refine rf_bipush C (n := 6) (v := 6) dX11_knows_4 rfl (by decide) ?_
  refine rf_iload_n C (n := 7) (q := 1) dX11_knows_6 rfl rfl rfl ?_
  refine rf_imul C (n := 8) dX11_knows_7 rfl ?_
  refine rf_iload_n C (n := 9) (q := 2) dX11_knows_8 rfl rfl rfl ?_
  refine rf_iadd C (n := 10) dX11_knows_9 rfl ?_
  refine rf_iload_n C (n := 11) (q := 3) dX11_knows_10 rfl rfl rfl ?_
  refine rf_guard (fun h1 => ?_)
  refine rf_iast C (n := 12) ly_107 h1 rfl dX11_knows_11 rfl ?_
  refine rf_letM (fun m2 => ?_)
  refine rf_aload_n C (n := 13) (q := 0) dX11_knows_12 rfl rfl rfl ?_
  refine rf_getS C (n := 16) fl_RX11_60 ly_96 rfl dX11_knows_13 rfl ?_
  refine rf_bipush C (n := 18) (v := 6) dX11_knows_16 rfl (by decide) ?_
  refine rf_iload_n C (n := 19) (q := 2) dX11_knows_18 rfl rfl rfl ?_
  refine rf_imul C (n := 20) dX11_knows_19 rfl ?_
  refine rf_iload_n C (n := 21) (q := 1) dX11_knows_20 rfl rfl rfl ?_
  refine rf_iadd C (n := 22) dX11_knows_21 rfl ?_
  refine rf_iload_n C (n := 23) (q := 3) dX11_knows_22 rfl rfl rfl ?_
  refine rf_guard (fun h3 => ?_)
  refine rf_iast C (n := 24) ly_107 h3 rfl dX11_knows_23 rfl ?_
  refine rf_letM (fun m4 => ?_)
  exact rf_vret C K dX11_knows_24
noncomputable def f_X11_know (fu : Nat) (x1 : Int32) (x2 : Int32) (x3 : Int32) (m : hM) : Option (Int32 × hM) :=
  hLet (sI m 96 0 0) fun m1 =>
hBd (f_X11_isOffice fu x1 m1) fun y2 m3 =>
if y2 = 0 then (
some ((-1), m3)) else (
hBd (f_X11_isOffice fu x2 m3) fun y5 m6 =>
if y5 = 0 then (
some ((-1), m6)) else (
if x1 = x2 then (
some ((-1), m6)) else (
hBd (f_X11_in fu (Int32.toInt64 x3) 0 9 m6) fun y9 m10 =>
if ¬ y9 = 0 then (
if hIn ((6 * x1) + x2) 36 then (
hLet (gI m10 107 (Int32.toNatClampNeg ((6 * x1) + x2))) fun y13 =>
hBd (f_X11_knows fu x1 x2 x3 m10) fun _ m14 =>
some (y13, m14)) else none) else (
some ((-1), m10)))))
set_option maxRecDepth 100000 in
set_option maxHeartbeats 4000000 in
theorem c_X11_know (G : hG) (fu : Nat) (x1 : Int32) (x2 : Int32) (x3 : Int32) (m : hM) : Mt vI G 3 yX11_know cX11_know 5 (some .int) [hA G 96, .int x1, .int x2, .int x3] m (f_X11_know fu x1 x2 x3 m) := by
  refine mt_of (by decide +kernel) (Nat.le_of_ble_eq_true rfl) (fun X C K => ?_)
  have C : Cx G X 3 cX11_know 5 RX11 (some .int) := C
  show Rf vI G X 0 [(0, hA G 96), (1, .int x1), (2, .int x2), (3, .int x3)] [] m _
  unfold f_X11_know
  refine rf_aload_n C (n := 1) (q := 0) dX11_know_0 rfl rfl rfl ?_
  refine rf_iconst C (n := 2) (v := 0) dX11_know_1 rfl (by decide) ?_
  refine rf_putI C (n := 5) pl_RX11_3 ly_96 rfl ⟨rfl, rfl⟩ dX11_know_2 rfl ?_
  refine rf_letM (fun m1 => ?_)
  refine rf_aload_n C (n := 6) (q := 0) dX11_know_5 rfl rfl rfl ?_
  refine rf_iload_n C (n := 7) (q := 1) dX11_know_6 rfl rfl rfl ?_
  refine rf_callVi C (n := 10) (c_X11_isOffice G fu _ _) mw_RX11_77 ly_96 rfl ⟨by decide, by decide⟩ rfl (Nat.le_of_ble_eq_true rfl) rfl dX11_know_7 rfl (fun y2 m3 => ?_)
  refine rf_if_eq C (tgt := 38) (n := 13) dX11_know_10 (by decide) rfl (fun h4 => ?_) (fun h4 => ?_)
  · refine rf_iconst C (n := 39) (v := (-1)) dX11_know_38 rfl (by decide) ?_
    exact rf_iret C K dX11_know_39
  · refine rf_aload_n C (n := 14) (q := 0) dX11_know_13 rfl rfl rfl ?_
    refine rf_iload_n C (n := 15) (q := 2) dX11_know_14 rfl rfl rfl ?_
    refine rf_callVi C (n := 18) (c_X11_isOffice G fu _ _) mw_RX11_77 ly_96 rfl ⟨by decide, by decide⟩ rfl (Nat.le_of_ble_eq_true rfl) rfl dX11_know_15 rfl (fun y5 m6 => ?_)
    refine rf_if_eq C (tgt := 38) (n := 21) dX11_know_18 (by decide) rfl (fun h7 => ?_) (fun h7 => ?_)
    · refine rf_iconst C (n := 39) (v := (-1)) dX11_know_38 rfl (by decide) ?_
      exact rf_iret C K dX11_know_39
    · refine rf_iload_n C (n := 22) (q := 1) dX11_know_21 rfl rfl rfl ?_
      refine rf_iload_n C (n := 23) (q := 2) dX11_know_22 rfl rfl rfl ?_
      refine rf_icmp_eq C (tgt := 38) (n := 26) dX11_know_23 (by decide) rfl (fun h8 => ?_) (fun h8 => ?_)
      · refine rf_iconst C (n := 39) (v := (-1)) dX11_know_38 rfl (by decide) ?_
        exact rf_iret C K dX11_know_39
      · refine rf_iload_n C (n := 27) (q := 3) dX11_know_26 rfl rfl rfl ?_
        refine rf_i2l C (n := 28) dX11_know_27 rfl ?_
        refine rf_lconst C (n := 29) (v := 0) dX11_know_28 rfl (by decide) ?_
        refine rf_ldc2 C (n := 32) dX11_know_29 rfl kl_RX11_69 ?_
        refine rf_callSi C (n := 35) (c_X11_in G fu _ _ _ _) sw_RX11_25 ⟨by decide, by decide⟩ rfl (Nat.le_of_ble_eq_true rfl) rfl dX11_know_32 rfl (fun y9 m10 => ?_)
        refine rf_if_ne C (tgt := 40) (n := 38) dX11_know_35 (by decide) rfl (fun h11 => ?_) (fun h11 => ?_)
        · refine rf_aload_n C (n := 41) (q := 0) dX11_know_40 rfl rfl rfl ?_
          refine rf_getS C (n := 44) fl_RX11_60 ly_96 rfl dX11_know_41 rfl ?_
          refine rf_bipush C (n := 46) (v := 6) dX11_know_44 rfl (by decide) ?_
          refine rf_iload_n C (n := 47) (q := 1) dX11_know_46 rfl rfl rfl ?_
          refine rf_imul C (n := 48) dX11_know_47 rfl ?_
          refine rf_iload_n C (n := 49) (q := 2) dX11_know_48 rfl rfl rfl ?_
          refine rf_iadd C (n := 50) dX11_know_49 rfl ?_
          refine rf_guard (fun h12 => ?_)
          refine rf_iald C (n := 51) ly_107 h12 rfl dX11_know_50 rfl ?_
          refine rf_letI (fun y13 => ?_)
          refine rf_istore C (n := 53) [(4, .int y13), (0, hA G 96), (1, .int x1), (2, .int x2), (3, .int x3)] dX11_know_51 rfl (by decide) rfl ?_
          refine rf_aload_n C (n := 54) (q := 1) dX11_know_53 rfl rfl rfl ?_
          refine rf_iload_n C (n := 55) (q := 2) dX11_know_54 rfl rfl rfl ?_
          refine rf_iload_n C (n := 56) (q := 3) dX11_know_55 rfl rfl rfl ?_
          refine rf_iload_n C (n := 57) (q := 4) dX11_know_56 rfl rfl rfl ?_
          refine rf_callVv C (n := 60) (c_X11_knows G fu _ _ _ _) mw_RX11_89 ly_96 rfl ⟨by decide, by decide⟩ rfl (Nat.le_of_ble_eq_true rfl) rfl dX11_know_57 rfl (fun _ m14 => ?_)
          refine rf_iload C (n := 62) (q := 0) dX11_know_60 rfl rfl ?_
          exact rf_iret C K dX11_know_62
        · refine rf_iconst C (n := 39) (v := (-1)) dX11_know_38 rfl (by decide) ?_
          exact rf_iret C K dX11_know_39
noncomputable def f_X11_sheet_157 (fu : Nat) (k55 : Int32 → Int32 → Int32 → Int32 → Int32 → Int32 → Int32 → hM → Option (Int32 × hM)) (x1 : Int32) (x2 : Int32) (x3 : Int32) (x5 : Int32) (x6 : Int32) (x8 : Int32) (s0 : Int32) (s1 : Int32) (m : hM) : Option (Int32 × hM) :=
  hLet (s0 + s1) fun y17 =>
hLet (x6 + x5) fun y18 =>
hLet (x8 + 1) fun y19 =>
k55 x1 x2 x3 x5 y18 y17 y19 m
set_option maxRecDepth 100000 in
set_option maxHeartbeats 4000000 in
theorem r_X11_sheet_157 {G : hG} {X : hX} (C : Cx G X 3 cX11_sheet 10 RX11 (some .int)) (K : Cr G X) (fu : Nat) (k55 : Int32 → Int32 → Int32 → Int32 → Int32 → Int32 → Int32 → hM → Option (Int32 × hM)) (hk55 : ∀ (x1 : Int32) (x2 : Int32) (x3 : Int32) (x5 : Int32) (x6 : Int32) (x7 : Int32) (x8 : Int32) (m : hM), Rf vI G X 55 [(0, hA G 96), (1, .int x1), (2, .int x2), (3, .int x3), (5, .int x5), (6, .int x6), (7, .int x7), (8, .int x8)] [] m (k55 x1 x2 x3 x5 x6 x7 x8 m)) (x1 : Int32) (x2 : Int32) (x3 : Int32) (x5 : Int32) (x6 : Int32) (x8 : Int32) (s0 : Int32) (s1 : Int32) (m : hM) : Rf vI G X 157 [(0, hA G 96), (1, .int x1), (2, .int x2), (3, .int x3), (5, .int x5), (6, .int x6), (8, .int x8)] [.int s1, .int s0] m (f_X11_sheet_157 fu k55 x1 x2 x3 x5 x6 x8 s0 s1 m) := by
  unfold f_X11_sheet_157
  refine rf_iadd C (n := 158) dX11_sheet_157 rfl ?_
  refine rf_letI (fun y17 => ?_)
  refine rf_istore C (n := 160) [(7, .int y17), (0, hA G 96), (1, .int x1), (2, .int x2), (3, .int x3), (5, .int x5), (6, .int x6), (8, .int x8)] dX11_sheet_158 rfl (by decide) rfl ?_
  refine rf_iload C (n := 162) (q := 6) dX11_sheet_160 rfl rfl ?_
  refine rf_iload C (n := 164) (q := 5) dX11_sheet_162 rfl rfl ?_
  refine rf_iadd C (n := 165) dX11_sheet_164 rfl ?_
  refine rf_letI (fun y18 => ?_)
  refine rf_istore C (n := 167) [(6, .int y18), (7, .int y17), (0, hA G 96), (1, .int x1), (2, .int x2), (3, .int x3), (5, .int x5), (8, .int x8)] dX11_sheet_165 rfl (by decide) rfl ?_
  refine rf_iinc2 C (n := 170) (q := 7) (fun y19 => [(8, .int y19), (6, .int y18), (7, .int y17), (0, hA G 96), (1, .int x1), (2, .int x2), (3, .int x3), (5, .int x5)]) dX11_sheet_167 rfl rfl (by decide) (by decide) (fun _ => rfl) (fun y19 => ?_)
  refine rf_goto C (n := 55) dX11_sheet_170 (by decide) ?_
  exact rf_lv _ [3, 4, 5, 6, 7, 1, 2, 0] rfl (hk55 _ _ _ _ _ _ _ _)
noncomputable def f_X11_sheet_133 (fu : Nat) (k55 : Int32 → Int32 → Int32 → Int32 → Int32 → Int32 → Int32 → hM → Option (Int32 × hM)) (x1 : Int32) (x2 : Int32) (x3 : Int32) (x5 : Int32) (x6 : Int32) (x7 : Int32) (x8 : Int32) (m : hM) : Option (Int32 × hM) :=
  if ¬ x8 = x1 then (
if hIn ((6 * x1) + x8) 36 then (
f_X11_sheet_157 fu k55 x1 x2 x3 x5 x6 x8 x7 (gI m 107 (Int32.toNatClampNeg ((6 * x1) + x8))) m) else none) else (
f_X11_sheet_157 fu k55 x1 x2 x3 x5 x6 x8 x7 0 m)
set_option maxRecDepth 100000 in
set_option maxHeartbeats 4000000 in
theorem r_X11_sheet_133 {G : hG} {X : hX} (C : Cx G X 3 cX11_sheet 10 RX11 (some .int)) (K : Cr G X) (fu : Nat) (k55 : Int32 → Int32 → Int32 → Int32 → Int32 → Int32 → Int32 → hM → Option (Int32 × hM)) (hk55 : ∀ (x1 : Int32) (x2 : Int32) (x3 : Int32) (x5 : Int32) (x6 : Int32) (x7 : Int32) (x8 : Int32) (m : hM), Rf vI G X 55 [(0, hA G 96), (1, .int x1), (2, .int x2), (3, .int x3), (5, .int x5), (6, .int x6), (7, .int x7), (8, .int x8)] [] m (k55 x1 x2 x3 x5 x6 x7 x8 m)) (x1 : Int32) (x2 : Int32) (x3 : Int32) (x5 : Int32) (x6 : Int32) (x7 : Int32) (x8 : Int32) (m : hM) : Rf vI G X 133 [(0, hA G 96), (1, .int x1), (2, .int x2), (3, .int x3), (5, .int x5), (6, .int x6), (7, .int x7), (8, .int x8)] [] m (f_X11_sheet_133 fu k55 x1 x2 x3 x5 x6 x7 x8 m) := by
  unfold f_X11_sheet_133
  refine rf_iload C (n := 135) (q := 6) dX11_sheet_133 rfl rfl ?_
  refine rf_iload C (n := 137) (q := 7) dX11_sheet_135 rfl rfl ?_
  refine rf_iload_n C (n := 138) (q := 1) dX11_sheet_137 rfl rfl rfl ?_
  refine rf_icmp_ne C (tgt := 145) (n := 141) dX11_sheet_138 (by decide) rfl (fun h15 => ?_) (fun h15 => ?_)
  · refine rf_aload_n C (n := 146) (q := 0) dX11_sheet_145 rfl rfl rfl ?_
    refine rf_getS C (n := 149) fl_RX11_60 ly_96 rfl dX11_sheet_146 rfl ?_
    refine rf_bipush C (n := 151) (v := 6) dX11_sheet_149 rfl (by decide) ?_
    refine rf_iload_n C (n := 152) (q := 1) dX11_sheet_151 rfl rfl rfl ?_
    refine rf_imul C (n := 153) dX11_sheet_152 rfl ?_
    refine rf_iload C (n := 155) (q := 7) dX11_sheet_153 rfl rfl ?_
    refine rf_iadd C (n := 156) dX11_sheet_155 rfl ?_
    refine rf_guard (fun h16 => ?_)
    refine rf_iald C (n := 157) ly_107 h16 rfl dX11_sheet_156 rfl ?_
    exact rf_lv _ [0, 1, 2, 3, 4, 5, 7] rfl (r_X11_sheet_157 C K fu _ hk55 _ _ _ _ _ _ _ _ _)
  · refine rf_iconst C (n := 142) (v := 0) dX11_sheet_141 rfl (by decide) ?_
    refine rf_goto C (n := 157) dX11_sheet_142 (by decide) ?_
    exact rf_lv _ [0, 1, 2, 3, 4, 5, 7] rfl (r_X11_sheet_157 C K fu _ hk55 _ _ _ _ _ _ _ _ _)
noncomputable def f_X11_sheet_115 (fu : Nat) (k55 : Int32 → Int32 → Int32 → Int32 → Int32 → Int32 → Int32 → hM → Option (Int32 × hM)) (x1 : Int32) (x2 : Int32) (x3 : Int32) (x5 : Int32) (x6 : Int32) (x7 : Int32) (x8 : Int32) (x9 : Int32) (m : hM) : Option (Int32 × hM) :=
  hBd (f_J9_min_7cf53 fu 9 x9 m) fun y21 m22 =>
hBd (f_J9_max_7cf53 fu 0 y21 m22) fun y23 m24 =>
hBd (f_X11_knows fu x1 x8 y23 m24) fun _ m25 =>
f_X11_sheet_133 fu k55 x1 x2 x3 x5 x6 x7 x8 m25
set_option maxRecDepth 100000 in
set_option maxHeartbeats 4000000 in
theorem r_X11_sheet_115 {G : hG} {X : hX} (C : Cx G X 3 cX11_sheet 10 RX11 (some .int)) (K : Cr G X) (fu : Nat) (k55 : Int32 → Int32 → Int32 → Int32 → Int32 → Int32 → Int32 → hM → Option (Int32 × hM)) (hk55 : ∀ (x1 : Int32) (x2 : Int32) (x3 : Int32) (x5 : Int32) (x6 : Int32) (x7 : Int32) (x8 : Int32) (m : hM), Rf vI G X 55 [(0, hA G 96), (1, .int x1), (2, .int x2), (3, .int x3), (5, .int x5), (6, .int x6), (7, .int x7), (8, .int x8)] [] m (k55 x1 x2 x3 x5 x6 x7 x8 m)) (x1 : Int32) (x2 : Int32) (x3 : Int32) (x5 : Int32) (x6 : Int32) (x7 : Int32) (x8 : Int32) (x9 : Int32) (m : hM) : Rf vI G X 115 [(0, hA G 96), (1, .int x1), (2, .int x2), (3, .int x3), (5, .int x5), (6, .int x6), (7, .int x7), (8, .int x8), (9, .int x9)] [] m (f_X11_sheet_115 fu k55 x1 x2 x3 x5 x6 x7 x8 x9 m) := by
  unfold f_X11_sheet_115
  refine rf_aload_n C (n := 116) (q := 0) dX11_sheet_115 rfl rfl rfl ?_
  refine rf_iload_n C (n := 117) (q := 1) dX11_sheet_116 rfl rfl rfl ?_
  refine rf_iload C (n := 119) (q := 7) dX11_sheet_117 rfl rfl ?_
  refine rf_iconst C (n := 120) (v := 0) dX11_sheet_119 rfl (by decide) ?_
  refine rf_bipush C (n := 122) (v := 9) dX11_sheet_120 rfl (by decide) ?_
  refine rf_iload C (n := 124) (q := 8) dX11_sheet_122 rfl rfl ?_
  refine rf_callSi C (n := 127) (c_J9_min_7cf53 G fu _ _ _) sw_RX11_95 ⟨by decide, by decide⟩ rfl (Nat.le_of_ble_eq_true rfl) rfl dX11_sheet_124 rfl (fun y21 m22 => ?_)
  refine rf_callSi C (n := 130) (c_J9_max_7cf53 G fu _ _ _) sw_RX11_101 ⟨by decide, by decide⟩ rfl (Nat.le_of_ble_eq_true rfl) rfl dX11_sheet_127 rfl (fun y23 m24 => ?_)
  refine rf_callVv C (n := 133) (c_X11_knows G fu _ _ _ _) mw_RX11_89 ly_96 rfl ⟨by decide, by decide⟩ rfl (Nat.le_of_ble_eq_true rfl) rfl dX11_sheet_130 rfl (fun _ m25 => ?_)
  exact rf_lv _ [0, 1, 2, 3, 4, 5, 6, 7] rfl (r_X11_sheet_133 C K fu _ hk55 _ _ _ _ _ _ _ _)
noncomputable def f_X11_sheet_96 (fu : Nat) (k55 : Int32 → Int32 → Int32 → Int32 → Int32 → Int32 → Int32 → hM → Option (Int32 × hM)) (x1 : Int32) (x2 : Int32) (x3 : Int32) (x5 : Int32) (x6 : Int32) (x7 : Int32) (x8 : Int32) (s0 : Int32) (m : hM) : Option (Int32 × hM) :=
  if x8 = x1 then (
f_X11_sheet_133 fu k55 x1 x2 x3 x5 x6 x7 x8 m) else (
if x2 = 3 then (
f_X11_sheet_115 fu k55 x1 x2 x3 x5 x6 x7 x8 s0 m) else (
if x3 ≤ x8 then (
f_X11_sheet_133 fu k55 x1 x2 x3 x5 x6 x7 x8 m) else (
f_X11_sheet_115 fu k55 x1 x2 x3 x5 x6 x7 x8 s0 m)))
set_option maxRecDepth 100000 in
set_option maxHeartbeats 4000000 in
theorem r_X11_sheet_96 {G : hG} {X : hX} (C : Cx G X 3 cX11_sheet 10 RX11 (some .int)) (K : Cr G X) (fu : Nat) (k55 : Int32 → Int32 → Int32 → Int32 → Int32 → Int32 → Int32 → hM → Option (Int32 × hM)) (hk55 : ∀ (x1 : Int32) (x2 : Int32) (x3 : Int32) (x5 : Int32) (x6 : Int32) (x7 : Int32) (x8 : Int32) (m : hM), Rf vI G X 55 [(0, hA G 96), (1, .int x1), (2, .int x2), (3, .int x3), (5, .int x5), (6, .int x6), (7, .int x7), (8, .int x8)] [] m (k55 x1 x2 x3 x5 x6 x7 x8 m)) (x1 : Int32) (x2 : Int32) (x3 : Int32) (x5 : Int32) (x6 : Int32) (x7 : Int32) (x8 : Int32) (s0 : Int32) (m : hM) : Rf vI G X 96 [(0, hA G 96), (1, .int x1), (2, .int x2), (3, .int x3), (5, .int x5), (6, .int x6), (7, .int x7), (8, .int x8)] [.int s0] m (f_X11_sheet_96 fu k55 x1 x2 x3 x5 x6 x7 x8 s0 m) := by
  unfold f_X11_sheet_96
  refine rf_istore C (n := 98) [(9, .int s0), (0, hA G 96), (1, .int x1), (2, .int x2), (3, .int x3), (5, .int x5), (6, .int x6), (7, .int x7), (8, .int x8)] dX11_sheet_96 rfl (by decide) rfl ?_
  refine rf_iload C (n := 100) (q := 8) dX11_sheet_98 rfl rfl ?_
  refine rf_iload_n C (n := 101) (q := 2) dX11_sheet_100 rfl rfl rfl ?_
  refine rf_icmp_eq C (tgt := 133) (n := 104) dX11_sheet_101 (by decide) rfl (fun h14 => ?_) (fun h14 => ?_)
  · exact rf_lv _ [1, 2, 3, 4, 5, 6, 7, 8] rfl (r_X11_sheet_133 C K fu _ hk55 _ _ _ _ _ _ _ _)
  · refine rf_iload_n C (n := 105) (q := 3) dX11_sheet_104 rfl rfl rfl ?_
    refine rf_iconst C (n := 106) (v := 3) dX11_sheet_105 rfl (by decide) ?_
    refine rf_icmp_eq C (tgt := 115) (n := 109) dX11_sheet_106 (by decide) rfl (fun h20 => ?_) (fun h20 => ?_)
    · exact rf_lv _ [1, 2, 3, 4, 5, 6, 7, 8, 0] rfl (r_X11_sheet_115 C K fu _ hk55 _ _ _ _ _ _ _ _ _)
    · refine rf_iload C (n := 111) (q := 8) dX11_sheet_109 rfl rfl ?_
      refine rf_iload_n C (n := 112) (q := 4) dX11_sheet_111 rfl rfl rfl ?_
      refine rf_icmp_ge C (tgt := 133) (n := 115) dX11_sheet_112 (by decide) rfl (fun h26 => ?_) (fun h26 => ?_)
      · exact rf_lv _ [1, 2, 3, 4, 5, 6, 7, 8] rfl (r_X11_sheet_133 C K fu _ hk55 _ _ _ _ _ _ _ _)
      · exact rf_lv _ [1, 2, 3, 4, 5, 6, 7, 8, 0] rfl (r_X11_sheet_115 C K fu _ hk55 _ _ _ _ _ _ _ _ _)
noncomputable def s_X11_sheet_55 (fu : Nat) (ih : Int32 → Int32 → Int32 → Int32 → Int32 → Int32 → Int32 → hM → Option (Int32 × hM)) (x1 : Int32) (x2 : Int32) (x3 : Int32) (x5 : Int32) (x6 : Int32) (x7 : Int32) (x8 : Int32) (m : hM) : Option (Int32 × hM) :=
  if (gI m 96 3) ≤ x8 then (
some (x7, m)) else (
if ¬ x2 = 3 then (
if ¬ x2 = 0 then (
if ¬ x2 = 1 then (
f_X11_sheet_96 fu ih x1 x2 x3 x5 x6 x7 x8 x6 m) else (
f_X11_sheet_96 fu ih x1 x2 x3 x5 x6 x7 x8 ((Int32.toInt16 x6).toInt32) m)) else (
f_X11_sheet_96 fu ih x1 x2 x3 x5 x6 x7 x8 ((Int32.toInt8 x6).toInt32) m)) else (
f_X11_sheet_96 fu ih x1 x2 x3 x5 x6 x7 x8 0 m))
noncomputable def f_X11_sheet_55 (fu : Nat) (n : Nat) : Int32 → Int32 → Int32 → Int32 → Int32 → Int32 → Int32 → hM → Option (Int32 × hM) :=
  Nat.rec (motive := fun _ => Int32 → Int32 → Int32 → Int32 → Int32 → Int32 → Int32 → hM → Option (Int32 × hM)) (fun _ _ _ _ _ _ _ _ => none) (fun _ ih => s_X11_sheet_55 fu ih) n
theorem f_X11_sheet_55_s (fu : Nat) (n : Nat) (x1 : Int32) (x2 : Int32) (x3 : Int32) (x5 : Int32) (x6 : Int32) (x7 : Int32) (x8 : Int32) (m : hM) : f_X11_sheet_55 fu (n + 1) x1 x2 x3 x5 x6 x7 x8 m = s_X11_sheet_55 fu (f_X11_sheet_55 fu n) x1 x2 x3 x5 x6 x7 x8 m := rfl
set_option maxRecDepth 100000 in
set_option maxHeartbeats 4000000 in
theorem r_X11_sheet_55 {G : hG} {X : hX} (C : Cx G X 3 cX11_sheet 10 RX11 (some .int)) (K : Cr G X) (fu : Nat) (n : Nat) : ∀ (x1 : Int32) (x2 : Int32) (x3 : Int32) (x5 : Int32) (x6 : Int32) (x7 : Int32) (x8 : Int32) (m : hM), Rf vI G X 55 [(0, hA G 96), (1, .int x1), (2, .int x2), (3, .int x3), (5, .int x5), (6, .int x6), (7, .int x7), (8, .int x8)] [] m (f_X11_sheet_55 fu n x1 x2 x3 x5 x6 x7 x8 m) := by
  induction n with
  | zero => intros; exact rf_none
  | succ n ih =>
    intro x1 x2 x3 x5 x6 x7 x8 m
    show Rf vI G X 55 [(0, hA G 96), (1, .int x1), (2, .int x2), (3, .int x3), (5, .int x5), (6, .int x6), (7, .int x7), (8, .int x8)] [] m (s_X11_sheet_55 fu (f_X11_sheet_55 fu n) x1 x2 x3 x5 x6 x7 x8 m)
    unfold s_X11_sheet_55
    refine rf_iload C (n := 57) (q := 7) dX11_sheet_55 rfl rfl ?_
    refine rf_aload_n C (n := 58) (q := 0) dX11_sheet_57 rfl rfl rfl ?_
    refine rf_getI C (n := 61) fl_RX11_22 ly_96 rfl dX11_sheet_58 rfl ?_
    refine rf_icmp_ge C (tgt := 173) (n := 64) dX11_sheet_61 (by decide) rfl (fun h10 => ?_) (fun h10 => ?_)
    · refine rf_iload C (n := 175) (q := 6) dX11_sheet_173 rfl rfl ?_
      exact rf_iret C K dX11_sheet_175
    · refine rf_iload_n C (n := 65) (q := 2) dX11_sheet_64 rfl rfl rfl ?_
      refine rf_iconst C (n := 66) (v := 3) dX11_sheet_65 rfl (by decide) ?_
      refine rf_icmp_ne C (tgt := 73) (n := 69) dX11_sheet_66 (by decide) rfl (fun h11 => ?_) (fun h11 => ?_)
      · refine rf_iload_n C (n := 74) (q := 2) dX11_sheet_73 rfl rfl rfl ?_
        refine rf_if_ne C (tgt := 83) (n := 77) dX11_sheet_74 (by decide) rfl (fun h12 => ?_) (fun h12 => ?_)
        · refine rf_iload_n C (n := 84) (q := 2) dX11_sheet_83 rfl rfl rfl ?_
          refine rf_iconst C (n := 85) (v := 1) dX11_sheet_84 rfl (by decide) ?_
          refine rf_icmp_ne C (tgt := 94) (n := 88) dX11_sheet_85 (by decide) rfl (fun h13 => ?_) (fun h13 => ?_)
          · refine rf_iload C (n := 96) (q := 5) dX11_sheet_94 rfl rfl ?_
            exact rf_lv _ [0, 1, 2, 3, 4, 5, 6, 7] rfl (r_X11_sheet_96 C K fu _ ih _ _ _ _ _ _ _ _ _)
          · refine rf_iload C (n := 90) (q := 5) dX11_sheet_88 rfl rfl ?_
            refine rf_i2s C (n := 91) dX11_sheet_90 rfl ?_
            refine rf_goto C (n := 96) dX11_sheet_91 (by decide) ?_
            exact rf_lv _ [0, 1, 2, 3, 4, 5, 6, 7] rfl (r_X11_sheet_96 C K fu _ ih _ _ _ _ _ _ _ _ _)
        · refine rf_iload C (n := 79) (q := 5) dX11_sheet_77 rfl rfl ?_
          refine rf_i2b C (n := 80) dX11_sheet_79 rfl ?_
          refine rf_goto C (n := 96) dX11_sheet_80 (by decide) ?_
          exact rf_lv _ [0, 1, 2, 3, 4, 5, 6, 7] rfl (r_X11_sheet_96 C K fu _ ih _ _ _ _ _ _ _ _ _)
      · refine rf_iconst C (n := 70) (v := 0) dX11_sheet_69 rfl (by decide) ?_
        refine rf_goto C (n := 96) dX11_sheet_70 (by decide) ?_
        exact rf_lv _ [0, 1, 2, 3, 4, 5, 6, 7] rfl (r_X11_sheet_96 C K fu _ ih _ _ _ _ _ _ _ _ _)
noncomputable def f_X11_sheet_45 (fu : Nat) (x1 : Int32) (x2 : Int32) (x3 : Int32) (x4 : Int32) (x5 : Int32) (m : hM) : Option (Int32 × hM) :=
  f_X11_sheet_55 fu fu x1 x2 x3 x5 x4 0 0 m
set_option maxRecDepth 100000 in
set_option maxHeartbeats 4000000 in
theorem r_X11_sheet_45 {G : hG} {X : hX} (C : Cx G X 3 cX11_sheet 10 RX11 (some .int)) (K : Cr G X) (fu : Nat) (x1 : Int32) (x2 : Int32) (x3 : Int32) (x4 : Int32) (x5 : Int32) (m : hM) : Rf vI G X 45 [(0, hA G 96), (1, .int x1), (2, .int x2), (3, .int x3), (4, .int x4), (5, .int x5)] [] m (f_X11_sheet_45 fu x1 x2 x3 x4 x5 m) := by
  unfold f_X11_sheet_45
  refine rf_iload C (n := 47) (q := 4) dX11_sheet_45 rfl rfl ?_
  refine rf_istore C (n := 49) [(6, .int x4), (0, hA G 96), (1, .int x1), (2, .int x2), (3, .int x3), (4, .int x4), (5, .int x5)] dX11_sheet_47 rfl (by decide) rfl ?_
  refine rf_iconst C (n := 50) (v := 0) dX11_sheet_49 rfl (by decide) ?_
  refine rf_istore C (n := 52) [(7, .int 0), (6, .int x4), (0, hA G 96), (1, .int x1), (2, .int x2), (3, .int x3), (4, .int x4), (5, .int x5)] dX11_sheet_50 rfl (by decide) rfl ?_
  refine rf_iconst C (n := 53) (v := 0) dX11_sheet_52 rfl (by decide) ?_
  refine rf_istore C (n := 55) [(8, .int 0), (7, .int 0), (6, .int x4), (0, hA G 96), (1, .int x1), (2, .int x2), (3, .int x3), (4, .int x4), (5, .int x5)] dX11_sheet_53 rfl (by decide) rfl ?_
  exact rf_lv _ [3, 4, 5, 6, 8, 2, 1, 0] rfl (r_X11_sheet_55 C K fu fu _ _ _ _ _ _ _ _)
noncomputable def f_X11_sheet (fu : Nat) (x1 : Int32) (x2 : Int32) (x3 : Int32) (x4 : Int32) (x5 : Int32) (m : hM) : Option (Int32 × hM) :=
  hLet (sI m 96 0 0) fun m1 =>
hBd (f_X11_isOffice fu x1 m1) fun y2 m3 =>
if y2 = 0 then (
some ((-1), m3)) else (
hBd (f_X11_in fu (Int32.toInt64 x2) 0 3 m3) fun y5 m6 =>
if y5 = 0 then (
some ((-1), m6)) else (
if x3 ≤ 6 then (
if x2 = 3 then (
f_X11_sheet_45 fu x1 x2 x3 x4 x5 m6) else (
if 0 ≤ x3 then (
f_X11_sheet_45 fu x1 x2 x3 x4 x5 m6) else (
some ((-2), m6)))) else (
some ((-1), m6))))
set_option maxRecDepth 100000 in
set_option maxHeartbeats 4000000 in
theorem c_X11_sheet (G : hG) (fu : Nat) (x1 : Int32) (x2 : Int32) (x3 : Int32) (x4 : Int32) (x5 : Int32) (m : hM) : Mt vI G 3 yX11_sheet cX11_sheet 10 (some .int) [hA G 96, .int x1, .int x2, .int x3, .int x4, .int x5] m (f_X11_sheet fu x1 x2 x3 x4 x5 m) := by
  refine mt_of (by decide +kernel) (Nat.le_of_ble_eq_true rfl) (fun X C K => ?_)
  have C : Cx G X 3 cX11_sheet 10 RX11 (some .int) := C
  show Rf vI G X 0 [(0, hA G 96), (1, .int x1), (2, .int x2), (3, .int x3), (4, .int x4), (5, .int x5)] [] m _
  unfold f_X11_sheet
  refine rf_aload_n C (n := 1) (q := 0) dX11_sheet_0 rfl rfl rfl ?_
  refine rf_iconst C (n := 2) (v := 0) dX11_sheet_1 rfl (by decide) ?_
  refine rf_putI C (n := 5) pl_RX11_3 ly_96 rfl ⟨rfl, rfl⟩ dX11_sheet_2 rfl ?_
  refine rf_letM (fun m1 => ?_)
  refine rf_aload_n C (n := 6) (q := 0) dX11_sheet_5 rfl rfl rfl ?_
  refine rf_iload_n C (n := 7) (q := 1) dX11_sheet_6 rfl rfl rfl ?_
  refine rf_callVi C (n := 10) (c_X11_isOffice G fu _ _) mw_RX11_77 ly_96 rfl ⟨by decide, by decide⟩ rfl (Nat.le_of_ble_eq_true rfl) rfl dX11_sheet_7 rfl (fun y2 m3 => ?_)
  refine rf_if_eq C (tgt := 31) (n := 13) dX11_sheet_10 (by decide) rfl (fun h4 => ?_) (fun h4 => ?_)
  · refine rf_iconst C (n := 32) (v := (-1)) dX11_sheet_31 rfl (by decide) ?_
    exact rf_iret C K dX11_sheet_32
  · refine rf_iload_n C (n := 14) (q := 2) dX11_sheet_13 rfl rfl rfl ?_
    refine rf_i2l C (n := 15) dX11_sheet_14 rfl ?_
    refine rf_lconst C (n := 16) (v := 0) dX11_sheet_15 rfl (by decide) ?_
    refine rf_ldc2 C (n := 19) dX11_sheet_16 rfl kl_RX11_93 ?_
    refine rf_callSi C (n := 22) (c_X11_in G fu _ _ _ _) sw_RX11_25 ⟨by decide, by decide⟩ rfl (Nat.le_of_ble_eq_true rfl) rfl dX11_sheet_19 rfl (fun y5 m6 => ?_)
    refine rf_if_eq C (tgt := 31) (n := 25) dX11_sheet_22 (by decide) rfl (fun h7 => ?_) (fun h7 => ?_)
    · refine rf_iconst C (n := 32) (v := (-1)) dX11_sheet_31 rfl (by decide) ?_
      exact rf_iret C K dX11_sheet_32
    · refine rf_iload_n C (n := 26) (q := 3) dX11_sheet_25 rfl rfl rfl ?_
      refine rf_bipush C (n := 28) (v := 6) dX11_sheet_26 rfl (by decide) ?_
      refine rf_icmp_le C (tgt := 33) (n := 31) dX11_sheet_28 (by decide) rfl (fun h8 => ?_) (fun h8 => ?_)
      · refine rf_iload_n C (n := 34) (q := 2) dX11_sheet_33 rfl rfl rfl ?_
        refine rf_iconst C (n := 35) (v := 3) dX11_sheet_34 rfl (by decide) ?_
        refine rf_icmp_eq C (tgt := 45) (n := 38) dX11_sheet_35 (by decide) rfl (fun h9 => ?_) (fun h9 => ?_)
        · exact rf_lv _ [0, 1, 2, 3, 4, 5] rfl (r_X11_sheet_45 C K fu _ _ _ _ _ _)
        · refine rf_iload_n C (n := 39) (q := 3) dX11_sheet_38 rfl rfl rfl ?_
          refine rf_if_ge C (tgt := 45) (n := 42) dX11_sheet_39 (by decide) rfl (fun h27 => ?_) (fun h27 => ?_)
          · exact rf_lv _ [0, 1, 2, 3, 4, 5] rfl (r_X11_sheet_45 C K fu _ _ _ _ _ _)
          · refine rf_bipush C (n := 44) (v := (-2)) dX11_sheet_42 rfl (by decide) ?_
            exact rf_iret C K dX11_sheet_44
      · refine rf_iconst C (n := 32) (v := (-1)) dX11_sheet_31 rfl (by decide) ?_
        exact rf_iret C K dX11_sheet_32
noncomputable def f_X11_set_54 (fu : Nat) (x1 : Int32) (x2 : Int32) (s0 : Int32) (m : hM) : Option (Int32 × hM) :=
  if ¬ x1 = 0 then (
hLet (sI m 96 15 x2) fun m11 =>
some (s0, m11)) else (
hLet (sI m 96 14 x2) fun m12 =>
some (s0, m12))
set_option maxRecDepth 100000 in
set_option maxHeartbeats 4000000 in
theorem r_X11_set_54 {G : hG} {X : hX} (C : Cx G X 2 cX11_set 4 RX11 (some .int)) (K : Cr G X) (fu : Nat) (x1 : Int32) (x2 : Int32) (s0 : Int32) (m : hM) : Rf vI G X 54 [(0, hA G 96), (1, .int x1), (2, .int x2)] [.int s0] m (f_X11_set_54 fu x1 x2 s0 m) := by
  unfold f_X11_set_54
  refine rf_istore_n C (n := 55) [(3, .int s0), (0, hA G 96), (1, .int x1), (2, .int x2)] dX11_set_54 rfl rfl (by decide) rfl ?_
  refine rf_iload_n C (n := 56) (q := 2) dX11_set_55 rfl rfl rfl ?_
  refine rf_if_ne C (tgt := 67) (n := 59) dX11_set_56 (by decide) rfl (fun h10 => ?_) (fun h10 => ?_)
  · refine rf_aload_n C (n := 68) (q := 1) dX11_set_67 rfl rfl rfl ?_
    refine rf_iload_n C (n := 69) (q := 3) dX11_set_68 rfl rfl rfl ?_
    refine rf_putI C (n := 72) pl_RX11_111 ly_96 rfl ⟨rfl, rfl⟩ dX11_set_69 rfl ?_
    refine rf_letM (fun m11 => ?_)
    refine rf_iload_n C (n := 73) (q := 0) dX11_set_72 rfl rfl rfl ?_
    exact rf_iret C K dX11_set_73
  · refine rf_aload_n C (n := 60) (q := 1) dX11_set_59 rfl rfl rfl ?_
    refine rf_iload_n C (n := 61) (q := 3) dX11_set_60 rfl rfl rfl ?_
    refine rf_putI C (n := 64) pl_RX11_108 ly_96 rfl ⟨rfl, rfl⟩ dX11_set_61 rfl ?_
    refine rf_letM (fun m12 => ?_)
    refine rf_goto C (n := 72) dX11_set_64 (by decide) ?_
    refine rf_iload_n C (n := 73) (q := 0) dX11_set_72 rfl rfl rfl ?_
    exact rf_iret C K dX11_set_73
noncomputable def f_X11_set_31 (fu : Nat) (x1 : Int32) (x2 : Int32) (s0 : Int64) (s1 : Int64) (s2 : Int64) (m : hM) : Option (Int32 × hM) :=
  hBd (f_X11_in fu s0 s1 s2 m) fun y6 m7 =>
if ¬ y6 = 0 then (
if ¬ x1 = 0 then (
f_X11_set_54 fu x1 x2 (gI m7 96 15) m7) else (
f_X11_set_54 fu x1 x2 (gI m7 96 14) m7)) else (
some ((-1), m7))
set_option maxRecDepth 100000 in
set_option maxHeartbeats 4000000 in
theorem r_X11_set_31 {G : hG} {X : hX} (C : Cx G X 2 cX11_set 4 RX11 (some .int)) (K : Cr G X) (fu : Nat) (x1 : Int32) (x2 : Int32) (s0 : Int64) (s1 : Int64) (s2 : Int64) (m : hM) : Rf vI G X 31 [(0, hA G 96), (1, .int x1), (2, .int x2)] [.long s2, .long s1, .long s0] m (f_X11_set_31 fu x1 x2 s0 s1 s2 m) := by
  unfold f_X11_set_31
  refine rf_callSi C (n := 34) (c_X11_in G fu _ _ _ _) sw_RX11_25 ⟨by decide, by decide⟩ rfl (Nat.le_of_ble_eq_true rfl) rfl dX11_set_31 rfl (fun y6 m7 => ?_)
  refine rf_if_ne C (tgt := 39) (n := 37) dX11_set_34 (by decide) rfl (fun h8 => ?_) (fun h8 => ?_)
  · refine rf_iload_n C (n := 40) (q := 1) dX11_set_39 rfl rfl rfl ?_
    refine rf_if_ne C (tgt := 50) (n := 43) dX11_set_40 (by decide) rfl (fun h9 => ?_) (fun h9 => ?_)
    · refine rf_aload_n C (n := 51) (q := 0) dX11_set_50 rfl rfl rfl ?_
      refine rf_getI C (n := 54) fl_RX11_111 ly_96 rfl dX11_set_51 rfl ?_
      exact rf_lv _ [0, 1, 2] rfl (r_X11_set_54 C K fu _ _ _ _)
    · refine rf_aload_n C (n := 44) (q := 0) dX11_set_43 rfl rfl rfl ?_
      refine rf_getI C (n := 47) fl_RX11_108 ly_96 rfl dX11_set_44 rfl ?_
      refine rf_goto C (n := 54) dX11_set_47 (by decide) ?_
      exact rf_lv _ [0, 1, 2] rfl (r_X11_set_54 C K fu _ _ _ _)
  · refine rf_iconst C (n := 38) (v := (-1)) dX11_set_37 rfl (by decide) ?_
    exact rf_iret C K dX11_set_38
noncomputable def f_X11_set (fu : Nat) (x1 : Int32) (x2 : Int32) (m : hM) : Option (Int32 × hM) :=
  hLet (sI m 96 0 0) fun m1 =>
hBd (f_X11_in fu (Int32.toInt64 x1) 0 1 m1) fun y2 m3 =>
if y2 = 0 then (
some ((-1), m3)) else (
if ¬ x1 = 0 then (
f_X11_set_31 fu x1 x2 (Int32.toInt64 x2) 0 100 m3) else (
f_X11_set_31 fu x1 x2 (Int32.toInt64 x2) 0 20 m3))
set_option maxRecDepth 100000 in
set_option maxHeartbeats 4000000 in
theorem c_X11_set (G : hG) (fu : Nat) (x1 : Int32) (x2 : Int32) (m : hM) : Mt vI G 2 yX11_set cX11_set 4 (some .int) [hA G 96, .int x1, .int x2] m (f_X11_set fu x1 x2 m) := by
  refine mt_of (by decide +kernel) (Nat.le_of_ble_eq_true rfl) (fun X C K => ?_)
  have C : Cx G X 2 cX11_set 4 RX11 (some .int) := C
  show Rf vI G X 0 [(0, hA G 96), (1, .int x1), (2, .int x2)] [] m _
  unfold f_X11_set
  refine rf_aload_n C (n := 1) (q := 0) dX11_set_0 rfl rfl rfl ?_
  refine rf_iconst C (n := 2) (v := 0) dX11_set_1 rfl (by decide) ?_
  refine rf_putI C (n := 5) pl_RX11_3 ly_96 rfl ⟨rfl, rfl⟩ dX11_set_2 rfl ?_
  refine rf_letM (fun m1 => ?_)
  refine rf_iload_n C (n := 6) (q := 1) dX11_set_5 rfl rfl rfl ?_
  refine rf_i2l C (n := 7) dX11_set_6 rfl ?_
  refine rf_lconst C (n := 8) (v := 0) dX11_set_7 rfl (by decide) ?_
  refine rf_lconst C (n := 9) (v := 1) dX11_set_8 rfl (by decide) ?_
  refine rf_callSi C (n := 12) (c_X11_in G fu _ _ _ _) sw_RX11_25 ⟨by decide, by decide⟩ rfl (Nat.le_of_ble_eq_true rfl) rfl dX11_set_9 rfl (fun y2 m3 => ?_)
  refine rf_if_eq C (tgt := 37) (n := 15) dX11_set_12 (by decide) rfl (fun h4 => ?_) (fun h4 => ?_)
  · refine rf_iconst C (n := 38) (v := (-1)) dX11_set_37 rfl (by decide) ?_
    exact rf_iret C K dX11_set_38
  · refine rf_iload_n C (n := 16) (q := 2) dX11_set_15 rfl rfl rfl ?_
    refine rf_i2l C (n := 17) dX11_set_16 rfl ?_
    refine rf_lconst C (n := 18) (v := 0) dX11_set_17 rfl (by decide) ?_
    refine rf_iload_n C (n := 19) (q := 1) dX11_set_18 rfl rfl rfl ?_
    refine rf_if_ne C (tgt := 28) (n := 22) dX11_set_19 (by decide) rfl (fun h5 => ?_) (fun h5 => ?_)
    · refine rf_ldc2 C (n := 31) dX11_set_28 rfl kl_RX11_106 ?_
      exact rf_lv _ [0, 1, 2] rfl (r_X11_set_31 C K fu _ _ _ _ _ _)
    · refine rf_ldc2 C (n := 25) dX11_set_22 rfl kl_RX11_104 ?_
      refine rf_goto C (n := 31) dX11_set_25 (by decide) ?_
      exact rf_lv _ [0, 1, 2] rfl (r_X11_set_31 C K fu _ _ _ _ _ _)
noncomputable def f_X11_isOpen_28 (fu : Nat) (x1 : Int32) (s0 : Int32) (s1 : Int32) (m : hM) : Option (Int32 × hM) :=
  hLet (s0 + s1) fun y4 =>
if hIn x1 6 then (
hBd (f_J9_floorMod_7cf53 fu (y4 - (gI m 99 (Int32.toNatClampNeg x1))) 24 m) fun y6 m7 =>
hBd (f_J9_floorDiv_7cf53 fu (y4 - y6) 24 m7) fun y8 m9 =>
if hIn x1 6 then (
if (gI m9 100 (Int32.toNatClampNeg x1)) ≤ y6 then (
some (0, m9)) else (
hBd (f_X11_isDay fu y8 m9) fun y12 m13 =>
if y12 = 0 then (
some (1, m13)) else (
if hIn ((100 * x1) + y8) 600 then (
if ¬ (gI m13 106 (Int32.toNatClampNeg ((100 * x1) + y8))) = 0 then (
some (0, m13)) else (
some (1, m13))) else none))) else none) else none
set_option maxRecDepth 100000 in
set_option maxHeartbeats 4000000 in
theorem r_X11_isOpen_28 {G : hG} {X : hX} (C : Cx G X 3 cX11_isOpen 6 RX11 (some .boolean)) (K : Cr G X) (fu : Nat) (x1 : Int32) (s0 : Int32) (s1 : Int32) (m : hM) : Rf vI G X 28 [(0, hA G 96), (1, .int x1)] [.int s1, .int s0] m (f_X11_isOpen_28 fu x1 s0 s1 m) := by
  unfold f_X11_isOpen_28
  refine rf_iadd C (n := 29) dX11_isOpen_28 rfl ?_
  refine rf_letI (fun y4 => ?_)
  refine rf_istore_n C (n := 30) [(3, .int y4), (0, hA G 96), (1, .int x1)] dX11_isOpen_29 rfl rfl (by decide) rfl ?_
  refine rf_iload_n C (n := 31) (q := 0) dX11_isOpen_30 rfl rfl rfl ?_
  refine rf_aload_n C (n := 32) (q := 1) dX11_isOpen_31 rfl rfl rfl ?_
  refine rf_getS C (n := 35) fl_RX11_35 ly_96 rfl dX11_isOpen_32 rfl ?_
  refine rf_iload_n C (n := 36) (q := 2) dX11_isOpen_35 rfl rfl rfl ?_
  refine rf_guard (fun h5 => ?_)
  refine rf_iald C (n := 37) ly_99 h5 rfl dX11_isOpen_36 rfl ?_
  refine rf_isub C (n := 38) dX11_isOpen_37 rfl ?_
  refine rf_bipush C (n := 40) (v := 24) dX11_isOpen_38 rfl (by decide) ?_
  refine rf_callSi C (n := 43) (c_J9_floorMod_7cf53 G fu _ _ _) sw_RX11_114 ⟨by decide, by decide⟩ rfl (Nat.le_of_ble_eq_true rfl) rfl dX11_isOpen_40 rfl (fun y6 m7 => ?_)
  refine rf_istore C (n := 45) [(4, .int y6), (3, .int y4), (0, hA G 96), (1, .int x1)] dX11_isOpen_43 rfl (by decide) rfl ?_
  refine rf_iload_n C (n := 46) (q := 1) dX11_isOpen_45 rfl rfl rfl ?_
  refine rf_iload C (n := 48) (q := 0) dX11_isOpen_46 rfl rfl ?_
  refine rf_isub C (n := 49) dX11_isOpen_48 rfl ?_
  refine rf_bipush C (n := 51) (v := 24) dX11_isOpen_49 rfl (by decide) ?_
  refine rf_callSi C (n := 54) (c_J9_floorDiv_7cf53 G fu _ _ _) sw_RX11_117 ⟨by decide, by decide⟩ rfl (Nat.le_of_ble_eq_true rfl) rfl dX11_isOpen_51 rfl (fun y8 m9 => ?_)
  refine rf_istore C (n := 56) [(5, .int y8), (4, .int y6), (3, .int y4), (0, hA G 96), (1, .int x1)] dX11_isOpen_54 rfl (by decide) rfl ?_
  refine rf_iload C (n := 58) (q := 1) dX11_isOpen_56 rfl rfl ?_
  refine rf_aload_n C (n := 59) (q := 3) dX11_isOpen_58 rfl rfl rfl ?_
  refine rf_getS C (n := 62) fl_RX11_38 ly_96 rfl dX11_isOpen_59 rfl ?_
  refine rf_iload_n C (n := 63) (q := 4) dX11_isOpen_62 rfl rfl rfl ?_
  refine rf_guard (fun h10 => ?_)
  refine rf_iald C (n := 64) ly_100 h10 rfl dX11_isOpen_63 rfl ?_
  refine rf_icmp_ge C (tgt := 94) (n := 67) dX11_isOpen_64 (by decide) rfl (fun h11 => ?_) (fun h11 => ?_)
  · refine rf_iconst C (n := 95) (v := 0) dX11_isOpen_94 rfl (by decide) ?_
    exact rf_zret C K (by decide) dX11_isOpen_95
  · refine rf_iload C (n := 69) (q := 0) dX11_isOpen_67 rfl rfl ?_
    refine rf_callSi C (n := 72) (c_X11_isDay G fu _ _) sw_RX11_86 ⟨by decide, by decide⟩ rfl (Nat.le_of_ble_eq_true rfl) rfl dX11_isOpen_69 rfl (fun y12 m13 => ?_)
    refine rf_if_eq C (tgt := 90) (n := 75) dX11_isOpen_72 (by decide) rfl (fun h14 => ?_) (fun h14 => ?_)
    · refine rf_iconst C (n := 91) (v := 1) dX11_isOpen_90 rfl (by decide) ?_
      refine rf_goto C (n := 95) dX11_isOpen_91 (by decide) ?_
      exact rf_zret C K (by decide) dX11_isOpen_95
    · refine rf_aload_n C (n := 76) (q := 3) dX11_isOpen_75 rfl rfl rfl ?_
      refine rf_getS C (n := 79) fl_RX11_56 ly_96 rfl dX11_isOpen_76 rfl ?_
      refine rf_bipush C (n := 81) (v := 100) dX11_isOpen_79 rfl (by decide) ?_
      refine rf_iload_n C (n := 82) (q := 4) dX11_isOpen_81 rfl rfl rfl ?_
      refine rf_imul C (n := 83) dX11_isOpen_82 rfl ?_
      refine rf_iload C (n := 85) (q := 0) dX11_isOpen_83 rfl rfl ?_
      refine rf_iadd C (n := 86) dX11_isOpen_85 rfl ?_
      refine rf_guard (fun h15 => ?_)
      refine rf_zald C (n := 87) ly_106 h15 rfl dX11_isOpen_86 rfl ?_
      refine rf_if_ne C (tgt := 94) (n := 90) dX11_isOpen_87 (by decide) rfl (fun h16 => ?_) (fun h16 => ?_)
      · refine rf_iconst C (n := 95) (v := 0) dX11_isOpen_94 rfl (by decide) ?_
        exact rf_zret C K (by decide) dX11_isOpen_95
      · refine rf_iconst C (n := 91) (v := 1) dX11_isOpen_90 rfl (by decide) ?_
        refine rf_goto C (n := 95) dX11_isOpen_91 (by decide) ?_
        exact rf_zret C K (by decide) dX11_isOpen_95
noncomputable def f_X11_isOpen (fu : Nat) (x1 : Int32) (x2 : Int32) (m : hM) : Option (Int32 × hM) :=
  if hIn x1 6 then (
if hIn x1 6 then (
if x2 < (gI m 104 (Int32.toNatClampNeg x1)) then (
f_X11_isOpen_28 fu x1 (x2 + (gI m 98 (Int32.toNatClampNeg x1))) 0 m) else (
if hIn x1 6 then (
f_X11_isOpen_28 fu x1 (x2 + (gI m 98 (Int32.toNatClampNeg x1))) (gI m 105 (Int32.toNatClampNeg x1)) m) else none)) else none) else none
set_option maxRecDepth 100000 in
set_option maxHeartbeats 4000000 in
theorem c_X11_isOpen (G : hG) (fu : Nat) (x1 : Int32) (x2 : Int32) (m : hM) : Mt vI G 3 yX11_isOpen cX11_isOpen 6 (some .boolean) [hA G 96, .int x1, .int x2] m (f_X11_isOpen fu x1 x2 m) := by
  refine mt_of (by decide +kernel) (Nat.le_of_ble_eq_true rfl) (fun X C K => ?_)
  have C : Cx G X 3 cX11_isOpen 6 RX11 (some .boolean) := C
  show Rf vI G X 0 [(0, hA G 96), (1, .int x1), (2, .int x2)] [] m _
  unfold f_X11_isOpen
  refine rf_iload_n C (n := 1) (q := 2) dX11_isOpen_0 rfl rfl rfl ?_
  refine rf_aload_n C (n := 2) (q := 0) dX11_isOpen_1 rfl rfl rfl ?_
  refine rf_getS C (n := 5) fl_RX11_31 ly_96 rfl dX11_isOpen_2 rfl ?_
  refine rf_iload_n C (n := 6) (q := 1) dX11_isOpen_5 rfl rfl rfl ?_
  refine rf_guard (fun h1 => ?_)
  refine rf_iald C (n := 7) ly_98 h1 rfl dX11_isOpen_6 rfl ?_
  refine rf_iadd C (n := 8) dX11_isOpen_7 rfl ?_
  refine rf_iload_n C (n := 9) (q := 2) dX11_isOpen_8 rfl rfl rfl ?_
  refine rf_aload_n C (n := 10) (q := 0) dX11_isOpen_9 rfl rfl rfl ?_
  refine rf_getS C (n := 13) fl_RX11_50 ly_96 rfl dX11_isOpen_10 rfl ?_
  refine rf_iload_n C (n := 14) (q := 1) dX11_isOpen_13 rfl rfl rfl ?_
  refine rf_guard (fun h2 => ?_)
  refine rf_iald C (n := 15) ly_104 h2 rfl dX11_isOpen_14 rfl ?_
  refine rf_icmp_lt C (tgt := 27) (n := 18) dX11_isOpen_15 (by decide) rfl (fun h3 => ?_) (fun h3 => ?_)
  · refine rf_iconst C (n := 28) (v := 0) dX11_isOpen_27 rfl (by decide) ?_
    exact rf_lv _ [0, 1] rfl (r_X11_isOpen_28 C K fu _ _ _ _)
  · refine rf_aload_n C (n := 19) (q := 0) dX11_isOpen_18 rfl rfl rfl ?_
    refine rf_getS C (n := 22) fl_RX11_53 ly_96 rfl dX11_isOpen_19 rfl ?_
    refine rf_iload_n C (n := 23) (q := 1) dX11_isOpen_22 rfl rfl rfl ?_
    refine rf_guard (fun h17 => ?_)
    refine rf_iald C (n := 24) ly_105 h17 rfl dX11_isOpen_23 rfl ?_
    refine rf_goto C (n := 28) dX11_isOpen_24 (by decide) ?_
    exact rf_lv _ [0, 1] rfl (r_X11_isOpen_28 C K fu _ _ _ _)
noncomputable def f_X11_overlapOf_42 (fu : Nat) (k6 : Int32 → Int32 → Int32 → Int32 → Int32 → hM → Option (Int32 × hM)) (x1 : Int32) (x2 : Int32) (x3 : Int32) (x5 : Int32) (s0 : Int32) (s1 : Int32) (m : hM) : Option (Int32 × hM) :=
  hBd (f_X11_flag fu s1 m) fun y5 m6 =>
hLet (s0 + y5) fun y7 =>
hLet (x5 + 1) fun y8 =>
k6 x1 x2 x3 y7 y8 m6
set_option maxRecDepth 100000 in
set_option maxHeartbeats 4000000 in
theorem r_X11_overlapOf_42 {G : hG} {X : hX} (C : Cx G X 4 cX11_overlapOf 6 RX11 (some .int)) (K : Cr G X) (fu : Nat) (k6 : Int32 → Int32 → Int32 → Int32 → Int32 → hM → Option (Int32 × hM)) (hk6 : ∀ (x1 : Int32) (x2 : Int32) (x3 : Int32) (x4 : Int32) (x5 : Int32) (m : hM), Rf vI G X 6 [(0, hA G 96), (1, .int x1), (2, .int x2), (3, .int x3), (4, .int x4), (5, .int x5)] [] m (k6 x1 x2 x3 x4 x5 m)) (x1 : Int32) (x2 : Int32) (x3 : Int32) (x5 : Int32) (s0 : Int32) (s1 : Int32) (m : hM) : Rf vI G X 42 [(0, hA G 96), (1, .int x1), (2, .int x2), (3, .int x3), (5, .int x5)] [.int s1, .int s0] m (f_X11_overlapOf_42 fu k6 x1 x2 x3 x5 s0 s1 m) := by
  unfold f_X11_overlapOf_42
  refine rf_callSi C (n := 45) (c_X11_flag G fu _ _) sw_RX11_124 ⟨by decide, by decide⟩ rfl (Nat.le_of_ble_eq_true rfl) rfl dX11_overlapOf_42 rfl (fun y5 m6 => ?_)
  refine rf_iadd C (n := 46) dX11_overlapOf_45 rfl ?_
  refine rf_letI (fun y7 => ?_)
  refine rf_istore C (n := 48) [(4, .int y7), (0, hA G 96), (1, .int x1), (2, .int x2), (3, .int x3), (5, .int x5)] dX11_overlapOf_46 rfl (by decide) rfl ?_
  refine rf_iinc2 C (n := 51) (q := 5) (fun y8 => [(5, .int y8), (4, .int y7), (0, hA G 96), (1, .int x1), (2, .int x2), (3, .int x3)]) dX11_overlapOf_48 rfl rfl (by decide) (by decide) (fun _ => rfl) (fun y8 => ?_)
  refine rf_goto C (n := 6) dX11_overlapOf_51 (by decide) ?_
  exact rf_lv _ [2, 3, 4, 5, 1, 0] rfl (hk6 _ _ _ _ _ _)
noncomputable def f_X11_overlapOf_41 (fu : Nat) (k6 : Int32 → Int32 → Int32 → Int32 → Int32 → hM → Option (Int32 × hM)) (x1 : Int32) (x2 : Int32) (x3 : Int32) (x5 : Int32) (s0 : Int32) (m : hM) : Option (Int32 × hM) :=
  f_X11_overlapOf_42 fu k6 x1 x2 x3 x5 s0 0 m
set_option maxRecDepth 100000 in
set_option maxHeartbeats 4000000 in
theorem r_X11_overlapOf_41 {G : hG} {X : hX} (C : Cx G X 4 cX11_overlapOf 6 RX11 (some .int)) (K : Cr G X) (fu : Nat) (k6 : Int32 → Int32 → Int32 → Int32 → Int32 → hM → Option (Int32 × hM)) (hk6 : ∀ (x1 : Int32) (x2 : Int32) (x3 : Int32) (x4 : Int32) (x5 : Int32) (m : hM), Rf vI G X 6 [(0, hA G 96), (1, .int x1), (2, .int x2), (3, .int x3), (4, .int x4), (5, .int x5)] [] m (k6 x1 x2 x3 x4 x5 m)) (x1 : Int32) (x2 : Int32) (x3 : Int32) (x5 : Int32) (s0 : Int32) (m : hM) : Rf vI G X 41 [(0, hA G 96), (1, .int x1), (2, .int x2), (3, .int x3), (5, .int x5)] [.int s0] m (f_X11_overlapOf_41 fu k6 x1 x2 x3 x5 s0 m) := by
  unfold f_X11_overlapOf_41
  refine rf_iconst C (n := 42) (v := 0) dX11_overlapOf_41 rfl (by decide) ?_
  exact rf_lv _ [0, 1, 2, 3, 4] rfl (r_X11_overlapOf_42 C K fu _ hk6 _ _ _ _ _ _ _)
noncomputable def s_X11_overlapOf_6 (fu : Nat) (ih : Int32 → Int32 → Int32 → Int32 → Int32 → hM → Option (Int32 × hM)) (x1 : Int32) (x2 : Int32) (x3 : Int32) (x4 : Int32) (x5 : Int32) (m : hM) : Option (Int32 × hM) :=
  if (x3 + 24) ≤ x5 then (
some (x4, m)) else (
hBd (f_X11_isOpen fu x1 x5 m) fun y2 m3 =>
if y2 = 0 then (
f_X11_overlapOf_41 fu ih x1 x2 x3 x5 x4 m3) else (
hBd (f_X11_isOpen fu x2 x5 m3) fun y9 m10 =>
if y9 = 0 then (
f_X11_overlapOf_41 fu ih x1 x2 x3 x5 x4 m10) else (
f_X11_overlapOf_42 fu ih x1 x2 x3 x5 x4 1 m10)))
noncomputable def f_X11_overlapOf_6 (fu : Nat) (n : Nat) : Int32 → Int32 → Int32 → Int32 → Int32 → hM → Option (Int32 × hM) :=
  Nat.rec (motive := fun _ => Int32 → Int32 → Int32 → Int32 → Int32 → hM → Option (Int32 × hM)) (fun _ _ _ _ _ _ => none) (fun _ ih => s_X11_overlapOf_6 fu ih) n
theorem f_X11_overlapOf_6_s (fu : Nat) (n : Nat) (x1 : Int32) (x2 : Int32) (x3 : Int32) (x4 : Int32) (x5 : Int32) (m : hM) : f_X11_overlapOf_6 fu (n + 1) x1 x2 x3 x4 x5 m = s_X11_overlapOf_6 fu (f_X11_overlapOf_6 fu n) x1 x2 x3 x4 x5 m := rfl
set_option maxRecDepth 100000 in
set_option maxHeartbeats 4000000 in
theorem r_X11_overlapOf_6 {G : hG} {X : hX} (C : Cx G X 4 cX11_overlapOf 6 RX11 (some .int)) (K : Cr G X) (fu : Nat) (n : Nat) : ∀ (x1 : Int32) (x2 : Int32) (x3 : Int32) (x4 : Int32) (x5 : Int32) (m : hM), Rf vI G X 6 [(0, hA G 96), (1, .int x1), (2, .int x2), (3, .int x3), (4, .int x4), (5, .int x5)] [] m (f_X11_overlapOf_6 fu n x1 x2 x3 x4 x5 m) := by
  induction n with
  | zero => intros; exact rf_none
  | succ n ih =>
    intro x1 x2 x3 x4 x5 m
    show Rf vI G X 6 [(0, hA G 96), (1, .int x1), (2, .int x2), (3, .int x3), (4, .int x4), (5, .int x5)] [] m (s_X11_overlapOf_6 fu (f_X11_overlapOf_6 fu n) x1 x2 x3 x4 x5 m)
    unfold s_X11_overlapOf_6
    refine rf_iload C (n := 8) (q := 5) dX11_overlapOf_6 rfl rfl ?_
    refine rf_iload_n C (n := 9) (q := 3) dX11_overlapOf_8 rfl rfl rfl ?_
    refine rf_bipush C (n := 11) (v := 24) dX11_overlapOf_9 rfl (by decide) ?_
    refine rf_iadd C (n := 12) dX11_overlapOf_11 rfl ?_
    refine rf_icmp_ge C (tgt := 54) (n := 15) dX11_overlapOf_12 (by decide) rfl (fun h1 => ?_) (fun h1 => ?_)
    · refine rf_iload C (n := 56) (q := 4) dX11_overlapOf_54 rfl rfl ?_
      exact rf_iret C K dX11_overlapOf_56
    · refine rf_iload C (n := 17) (q := 4) dX11_overlapOf_15 rfl rfl ?_
      refine rf_aload_n C (n := 18) (q := 0) dX11_overlapOf_17 rfl rfl rfl ?_
      refine rf_iload_n C (n := 19) (q := 1) dX11_overlapOf_18 rfl rfl rfl ?_
      refine rf_iload C (n := 21) (q := 5) dX11_overlapOf_19 rfl rfl ?_
      refine rf_callVi C (n := 24) (c_X11_isOpen G fu _ _ _) mw_RX11_120 ly_96 rfl ⟨by decide, by decide⟩ rfl (Nat.le_of_ble_eq_true rfl) rfl dX11_overlapOf_21 rfl (fun y2 m3 => ?_)
      refine rf_if_eq C (tgt := 41) (n := 27) dX11_overlapOf_24 (by decide) rfl (fun h4 => ?_) (fun h4 => ?_)
      · exact rf_lv _ [0, 1, 2, 3, 5] rfl (r_X11_overlapOf_41 C K fu _ ih _ _ _ _ _ _)
      · refine rf_aload_n C (n := 28) (q := 0) dX11_overlapOf_27 rfl rfl rfl ?_
        refine rf_iload_n C (n := 29) (q := 2) dX11_overlapOf_28 rfl rfl rfl ?_
        refine rf_iload C (n := 31) (q := 5) dX11_overlapOf_29 rfl rfl ?_
        refine rf_callVi C (n := 34) (c_X11_isOpen G fu _ _ _) mw_RX11_120 ly_96 rfl ⟨by decide, by decide⟩ rfl (Nat.le_of_ble_eq_true rfl) rfl dX11_overlapOf_31 rfl (fun y9 m10 => ?_)
        refine rf_if_eq C (tgt := 41) (n := 37) dX11_overlapOf_34 (by decide) rfl (fun h11 => ?_) (fun h11 => ?_)
        · exact rf_lv _ [0, 1, 2, 3, 5] rfl (r_X11_overlapOf_41 C K fu _ ih _ _ _ _ _ _)
        · refine rf_iconst C (n := 38) (v := 1) dX11_overlapOf_37 rfl (by decide) ?_
          refine rf_goto C (n := 42) dX11_overlapOf_38 (by decide) ?_
          exact rf_lv _ [0, 1, 2, 3, 5] rfl (r_X11_overlapOf_42 C K fu _ ih _ _ _ _ _ _ _)
noncomputable def f_X11_overlapOf (fu : Nat) (x1 : Int32) (x2 : Int32) (x3 : Int32) (m : hM) : Option (Int32 × hM) :=
  f_X11_overlapOf_6 fu fu x1 x2 x3 0 x3 m
set_option maxRecDepth 100000 in
set_option maxHeartbeats 4000000 in
theorem c_X11_overlapOf (G : hG) (fu : Nat) (x1 : Int32) (x2 : Int32) (x3 : Int32) (m : hM) : Mt vI G 4 yX11_overlapOf cX11_overlapOf 6 (some .int) [hA G 96, .int x1, .int x2, .int x3] m (f_X11_overlapOf fu x1 x2 x3 m) := by
  refine mt_of (by decide +kernel) (Nat.le_of_ble_eq_true rfl) (fun X C K => ?_)
  have C : Cx G X 4 cX11_overlapOf 6 RX11 (some .int) := C
  show Rf vI G X 0 [(0, hA G 96), (1, .int x1), (2, .int x2), (3, .int x3)] [] m _
  unfold f_X11_overlapOf
  refine rf_iconst C (n := 1) (v := 0) dX11_overlapOf_0 rfl (by decide) ?_
  refine rf_istore C (n := 3) [(4, .int 0), (0, hA G 96), (1, .int x1), (2, .int x2), (3, .int x3)] dX11_overlapOf_1 rfl (by decide) rfl ?_
  refine rf_iload_n C (n := 4) (q := 4) dX11_overlapOf_3 rfl rfl rfl ?_
  refine rf_istore C (n := 6) [(5, .int x3), (4, .int 0), (0, hA G 96), (1, .int x1), (2, .int x2), (3, .int x3)] dX11_overlapOf_4 rfl (by decide) rfl ?_
  exact rf_lv _ [2, 3, 4, 5, 1, 0] rfl (r_X11_overlapOf_6 C K fu fu _ _ _ _ _ _)
noncomputable def f_X11_lostOf (fu : Nat) (x1 : Int32) (x2 : Int32) (x3 : Int32) (m : hM) : Option (Int32 × hM) :=
  if ¬ x1 = x2 then (
if hIn ((6 * x1) + x2) 36 then (
hBd (f_J9_max_7cf53 fu 0 ((gI m 96 14) - (gI m 107 (Int32.toNatClampNeg ((6 * x1) + x2)))) m) fun y3 m4 =>
hBd (f_X11_overlapOf fu x1 x2 x3 m4) fun y5 m6 =>
if ¬ y5 = 0 then (
some (y3 + 0, m6)) else (
some (y3 + 2, m6))) else none) else (
some (0, m))
set_option maxRecDepth 100000 in
set_option maxHeartbeats 4000000 in
theorem c_X11_lostOf (G : hG) (fu : Nat) (x1 : Int32) (x2 : Int32) (x3 : Int32) (m : hM) : Mt vI G 5 yX11_lostOf cX11_lostOf 4 (some .int) [hA G 96, .int x1, .int x2, .int x3] m (f_X11_lostOf fu x1 x2 x3 m) := by
  refine mt_of (by decide +kernel) (Nat.le_of_ble_eq_true rfl) (fun X C K => ?_)
  have C : Cx G X 5 cX11_lostOf 4 RX11 (some .int) := C
  show Rf vI G X 0 [(0, hA G 96), (1, .int x1), (2, .int x2), (3, .int x3)] [] m _
  unfold f_X11_lostOf
  refine rf_iload_n C (n := 1) (q := 1) dX11_lostOf_0 rfl rfl rfl ?_
  refine rf_iload_n C (n := 2) (q := 2) dX11_lostOf_1 rfl rfl rfl ?_
  refine rf_icmp_ne C (tgt := 7) (n := 5) dX11_lostOf_2 (by decide) rfl (fun h1 => ?_) (fun h1 => ?_)
  · refine rf_iconst C (n := 8) (v := 0) dX11_lostOf_7 rfl (by decide) ?_
    refine rf_aload_n C (n := 9) (q := 0) dX11_lostOf_8 rfl rfl rfl ?_
    refine rf_getI C (n := 12) fl_RX11_108 ly_96 rfl dX11_lostOf_9 rfl ?_
    refine rf_aload_n C (n := 13) (q := 0) dX11_lostOf_12 rfl rfl rfl ?_
    refine rf_getS C (n := 16) fl_RX11_60 ly_96 rfl dX11_lostOf_13 rfl ?_
    refine rf_bipush C (n := 18) (v := 6) dX11_lostOf_16 rfl (by decide) ?_
    refine rf_iload_n C (n := 19) (q := 1) dX11_lostOf_18 rfl rfl rfl ?_
    refine rf_imul C (n := 20) dX11_lostOf_19 rfl ?_
    refine rf_iload_n C (n := 21) (q := 2) dX11_lostOf_20 rfl rfl rfl ?_
    refine rf_iadd C (n := 22) dX11_lostOf_21 rfl ?_
    refine rf_guard (fun h2 => ?_)
    refine rf_iald C (n := 23) ly_107 h2 rfl dX11_lostOf_22 rfl ?_
    refine rf_isub C (n := 24) dX11_lostOf_23 rfl ?_
    refine rf_callSi C (n := 27) (c_J9_max_7cf53 G fu _ _ _) sw_RX11_101 ⟨by decide, by decide⟩ rfl (Nat.le_of_ble_eq_true rfl) rfl dX11_lostOf_24 rfl (fun y3 m4 => ?_)
    refine rf_aload_n C (n := 28) (q := 0) dX11_lostOf_27 rfl rfl rfl ?_
    refine rf_iload_n C (n := 29) (q := 1) dX11_lostOf_28 rfl rfl rfl ?_
    refine rf_iload_n C (n := 30) (q := 2) dX11_lostOf_29 rfl rfl rfl ?_
    refine rf_iload_n C (n := 31) (q := 3) dX11_lostOf_30 rfl rfl rfl ?_
    refine rf_callVi C (n := 34) (c_X11_overlapOf G fu _ _ _ _) mw_RX11_128 ly_96 rfl ⟨by decide, by decide⟩ rfl (Nat.le_of_ble_eq_true rfl) rfl dX11_lostOf_31 rfl (fun y5 m6 => ?_)
    refine rf_if_ne C (tgt := 41) (n := 37) dX11_lostOf_34 (by decide) rfl (fun h7 => ?_) (fun h7 => ?_)
    · refine rf_iconst C (n := 42) (v := 0) dX11_lostOf_41 rfl (by decide) ?_
      refine rf_iadd C (n := 43) dX11_lostOf_42 rfl ?_
      exact rf_iret C K dX11_lostOf_43
    · refine rf_iconst C (n := 38) (v := 2) dX11_lostOf_37 rfl (by decide) ?_
      refine rf_goto C (n := 42) dX11_lostOf_38 (by decide) ?_
      refine rf_iadd C (n := 43) dX11_lostOf_42 rfl ?_
      exact rf_iret C K dX11_lostOf_43
  · refine rf_iconst C (n := 6) (v := 0) dX11_lostOf_5 rfl (by decide) ?_
    exact rf_iret C K dX11_lostOf_6
noncomputable def f_X11_open (fu : Nat) (x1 : Int32) (x2 : Int32) (m : hM) : Option (Int32 × hM) :=
  hLet (sI m 96 0 0) fun m1 =>
hBd (f_X11_isOffice fu x1 m1) fun y2 m3 =>
if y2 = 0 then (
some ((-1), m3)) else (
hBd (f_X11_isHour fu x2 m3) fun y5 m6 =>
if y5 = 0 then (
some ((-1), m6)) else (
hBd (f_X11_isOpen fu x1 x2 m6) fun y8 m9 =>
hBd (f_X11_flag fu y8 m9) fun y10 m11 =>
some (y10, m11)))
set_option maxRecDepth 100000 in
set_option maxHeartbeats 4000000 in
theorem c_X11_open (G : hG) (fu : Nat) (x1 : Int32) (x2 : Int32) (m : hM) : Mt vI G 4 yX11_open cX11_open 3 (some .int) [hA G 96, .int x1, .int x2] m (f_X11_open fu x1 x2 m) := by
  refine mt_of (by decide +kernel) (Nat.le_of_ble_eq_true rfl) (fun X C K => ?_)
  have C : Cx G X 4 cX11_open 3 RX11 (some .int) := C
  show Rf vI G X 0 [(0, hA G 96), (1, .int x1), (2, .int x2)] [] m _
  unfold f_X11_open
  refine rf_aload_n C (n := 1) (q := 0) dX11_open_0 rfl rfl rfl ?_
  refine rf_iconst C (n := 2) (v := 0) dX11_open_1 rfl (by decide) ?_
  refine rf_putI C (n := 5) pl_RX11_3 ly_96 rfl ⟨rfl, rfl⟩ dX11_open_2 rfl ?_
  refine rf_letM (fun m1 => ?_)
  refine rf_aload_n C (n := 6) (q := 0) dX11_open_5 rfl rfl rfl ?_
  refine rf_iload_n C (n := 7) (q := 1) dX11_open_6 rfl rfl rfl ?_
  refine rf_callVi C (n := 10) (c_X11_isOffice G fu _ _) mw_RX11_77 ly_96 rfl ⟨by decide, by decide⟩ rfl (Nat.le_of_ble_eq_true rfl) rfl dX11_open_7 rfl (fun y2 m3 => ?_)
  refine rf_if_eq C (tgt := 32) (n := 13) dX11_open_10 (by decide) rfl (fun h4 => ?_) (fun h4 => ?_)
  · refine rf_iconst C (n := 33) (v := (-1)) dX11_open_32 rfl (by decide) ?_
    exact rf_iret C K dX11_open_33
  · refine rf_iload_n C (n := 14) (q := 2) dX11_open_13 rfl rfl rfl ?_
    refine rf_callSi C (n := 17) (c_X11_isHour G fu _ _) sw_RX11_81 ⟨by decide, by decide⟩ rfl (Nat.le_of_ble_eq_true rfl) rfl dX11_open_14 rfl (fun y5 m6 => ?_)
    refine rf_if_eq C (tgt := 32) (n := 20) dX11_open_17 (by decide) rfl (fun h7 => ?_) (fun h7 => ?_)
    · refine rf_iconst C (n := 33) (v := (-1)) dX11_open_32 rfl (by decide) ?_
      exact rf_iret C K dX11_open_33
    · refine rf_aload_n C (n := 21) (q := 0) dX11_open_20 rfl rfl rfl ?_
      refine rf_iload_n C (n := 22) (q := 1) dX11_open_21 rfl rfl rfl ?_
      refine rf_iload_n C (n := 23) (q := 2) dX11_open_22 rfl rfl rfl ?_
      refine rf_callVi C (n := 26) (c_X11_isOpen G fu _ _ _) mw_RX11_120 ly_96 rfl ⟨by decide, by decide⟩ rfl (Nat.le_of_ble_eq_true rfl) rfl dX11_open_23 rfl (fun y8 m9 => ?_)
      refine rf_callSi C (n := 29) (c_X11_flag G fu _ _) sw_RX11_124 ⟨by decide, by decide⟩ rfl (Nat.le_of_ble_eq_true rfl) rfl dX11_open_26 rfl (fun y10 m11 => ?_)
      refine rf_goto C (n := 33) dX11_open_29 (by decide) ?_
      exact rf_iret C K dX11_open_33
noncomputable def f_X11_overlap (fu : Nat) (x1 : Int32) (x2 : Int32) (x3 : Int32) (m : hM) : Option (Int32 × hM) :=
  hLet (sI m 96 0 0) fun m1 =>
hBd (f_X11_isOffice fu x1 m1) fun y2 m3 =>
if y2 = 0 then (
some ((-1), m3)) else (
hBd (f_X11_isOffice fu x2 m3) fun y5 m6 =>
if y5 = 0 then (
some ((-1), m6)) else (
hBd (f_X11_isHour fu x3 m6) fun y8 m9 =>
if y8 = 0 then (
some ((-1), m9)) else (
hBd (f_X11_overlapOf fu x1 x2 x3 m9) fun y11 m12 =>
some (y11, m12))))
set_option maxRecDepth 100000 in
set_option maxHeartbeats 4000000 in
theorem c_X11_overlap (G : hG) (fu : Nat) (x1 : Int32) (x2 : Int32) (x3 : Int32) (m : hM) : Mt vI G 5 yX11_overlap cX11_overlap 4 (some .int) [hA G 96, .int x1, .int x2, .int x3] m (f_X11_overlap fu x1 x2 x3 m) := by
  refine mt_of (by decide +kernel) (Nat.le_of_ble_eq_true rfl) (fun X C K => ?_)
  have C : Cx G X 5 cX11_overlap 4 RX11 (some .int) := C
  show Rf vI G X 0 [(0, hA G 96), (1, .int x1), (2, .int x2), (3, .int x3)] [] m _
  unfold f_X11_overlap
  refine rf_aload_n C (n := 1) (q := 0) dX11_overlap_0 rfl rfl rfl ?_
  refine rf_iconst C (n := 2) (v := 0) dX11_overlap_1 rfl (by decide) ?_
  refine rf_putI C (n := 5) pl_RX11_3 ly_96 rfl ⟨rfl, rfl⟩ dX11_overlap_2 rfl ?_
  refine rf_letM (fun m1 => ?_)
  refine rf_aload_n C (n := 6) (q := 0) dX11_overlap_5 rfl rfl rfl ?_
  refine rf_iload_n C (n := 7) (q := 1) dX11_overlap_6 rfl rfl rfl ?_
  refine rf_callVi C (n := 10) (c_X11_isOffice G fu _ _) mw_RX11_77 ly_96 rfl ⟨by decide, by decide⟩ rfl (Nat.le_of_ble_eq_true rfl) rfl dX11_overlap_7 rfl (fun y2 m3 => ?_)
  refine rf_if_eq C (tgt := 38) (n := 13) dX11_overlap_10 (by decide) rfl (fun h4 => ?_) (fun h4 => ?_)
  · refine rf_iconst C (n := 39) (v := (-1)) dX11_overlap_38 rfl (by decide) ?_
    exact rf_iret C K dX11_overlap_39
  · refine rf_aload_n C (n := 14) (q := 0) dX11_overlap_13 rfl rfl rfl ?_
    refine rf_iload_n C (n := 15) (q := 2) dX11_overlap_14 rfl rfl rfl ?_
    refine rf_callVi C (n := 18) (c_X11_isOffice G fu _ _) mw_RX11_77 ly_96 rfl ⟨by decide, by decide⟩ rfl (Nat.le_of_ble_eq_true rfl) rfl dX11_overlap_15 rfl (fun y5 m6 => ?_)
    refine rf_if_eq C (tgt := 38) (n := 21) dX11_overlap_18 (by decide) rfl (fun h7 => ?_) (fun h7 => ?_)
    · refine rf_iconst C (n := 39) (v := (-1)) dX11_overlap_38 rfl (by decide) ?_
      exact rf_iret C K dX11_overlap_39
    · refine rf_iload_n C (n := 22) (q := 3) dX11_overlap_21 rfl rfl rfl ?_
      refine rf_callSi C (n := 25) (c_X11_isHour G fu _ _) sw_RX11_81 ⟨by decide, by decide⟩ rfl (Nat.le_of_ble_eq_true rfl) rfl dX11_overlap_22 rfl (fun y8 m9 => ?_)
      refine rf_if_eq C (tgt := 38) (n := 28) dX11_overlap_25 (by decide) rfl (fun h10 => ?_) (fun h10 => ?_)
      · refine rf_iconst C (n := 39) (v := (-1)) dX11_overlap_38 rfl (by decide) ?_
        exact rf_iret C K dX11_overlap_39
      · refine rf_aload_n C (n := 29) (q := 0) dX11_overlap_28 rfl rfl rfl ?_
        refine rf_iload_n C (n := 30) (q := 1) dX11_overlap_29 rfl rfl rfl ?_
        refine rf_iload_n C (n := 31) (q := 2) dX11_overlap_30 rfl rfl rfl ?_
        refine rf_iload_n C (n := 32) (q := 3) dX11_overlap_31 rfl rfl rfl ?_
        refine rf_callVi C (n := 35) (c_X11_overlapOf G fu _ _ _ _) mw_RX11_128 ly_96 rfl ⟨by decide, by decide⟩ rfl (Nat.le_of_ble_eq_true rfl) rfl dX11_overlap_32 rfl (fun y11 m12 => ?_)
        refine rf_goto C (n := 39) dX11_overlap_35 (by decide) ?_
        exact rf_iret C K dX11_overlap_39
noncomputable def f_X11_loses (fu : Nat) (x1 : Int32) (x2 : Int32) (x3 : Int32) (m : hM) : Option (Int32 × hM) :=
  hLet (sI m 96 0 0) fun m1 =>
hBd (f_X11_isOffice fu x1 m1) fun y2 m3 =>
if y2 = 0 then (
some ((-1), m3)) else (
hBd (f_X11_isOffice fu x2 m3) fun y5 m6 =>
if y5 = 0 then (
some ((-1), m6)) else (
hBd (f_X11_isHour fu x3 m6) fun y8 m9 =>
if y8 = 0 then (
some ((-1), m9)) else (
hBd (f_X11_lostOf fu x1 x2 x3 m9) fun y11 m12 =>
some (y11, m12))))
set_option maxRecDepth 100000 in
set_option maxHeartbeats 4000000 in
theorem c_X11_loses (G : hG) (fu : Nat) (x1 : Int32) (x2 : Int32) (x3 : Int32) (m : hM) : Mt vI G 6 yX11_loses cX11_loses 4 (some .int) [hA G 96, .int x1, .int x2, .int x3] m (f_X11_loses fu x1 x2 x3 m) := by
  refine mt_of (by decide +kernel) (Nat.le_of_ble_eq_true rfl) (fun X C K => ?_)
  have C : Cx G X 6 cX11_loses 4 RX11 (some .int) := C
  show Rf vI G X 0 [(0, hA G 96), (1, .int x1), (2, .int x2), (3, .int x3)] [] m _
  unfold f_X11_loses
  refine rf_aload_n C (n := 1) (q := 0) dX11_loses_0 rfl rfl rfl ?_
  refine rf_iconst C (n := 2) (v := 0) dX11_loses_1 rfl (by decide) ?_
  refine rf_putI C (n := 5) pl_RX11_3 ly_96 rfl ⟨rfl, rfl⟩ dX11_loses_2 rfl ?_
  refine rf_letM (fun m1 => ?_)
  refine rf_aload_n C (n := 6) (q := 0) dX11_loses_5 rfl rfl rfl ?_
  refine rf_iload_n C (n := 7) (q := 1) dX11_loses_6 rfl rfl rfl ?_
  refine rf_callVi C (n := 10) (c_X11_isOffice G fu _ _) mw_RX11_77 ly_96 rfl ⟨by decide, by decide⟩ rfl (Nat.le_of_ble_eq_true rfl) rfl dX11_loses_7 rfl (fun y2 m3 => ?_)
  refine rf_if_eq C (tgt := 38) (n := 13) dX11_loses_10 (by decide) rfl (fun h4 => ?_) (fun h4 => ?_)
  · refine rf_iconst C (n := 39) (v := (-1)) dX11_loses_38 rfl (by decide) ?_
    exact rf_iret C K dX11_loses_39
  · refine rf_aload_n C (n := 14) (q := 0) dX11_loses_13 rfl rfl rfl ?_
    refine rf_iload_n C (n := 15) (q := 2) dX11_loses_14 rfl rfl rfl ?_
    refine rf_callVi C (n := 18) (c_X11_isOffice G fu _ _) mw_RX11_77 ly_96 rfl ⟨by decide, by decide⟩ rfl (Nat.le_of_ble_eq_true rfl) rfl dX11_loses_15 rfl (fun y5 m6 => ?_)
    refine rf_if_eq C (tgt := 38) (n := 21) dX11_loses_18 (by decide) rfl (fun h7 => ?_) (fun h7 => ?_)
    · refine rf_iconst C (n := 39) (v := (-1)) dX11_loses_38 rfl (by decide) ?_
      exact rf_iret C K dX11_loses_39
    · refine rf_iload_n C (n := 22) (q := 3) dX11_loses_21 rfl rfl rfl ?_
      refine rf_callSi C (n := 25) (c_X11_isHour G fu _ _) sw_RX11_81 ⟨by decide, by decide⟩ rfl (Nat.le_of_ble_eq_true rfl) rfl dX11_loses_22 rfl (fun y8 m9 => ?_)
      refine rf_if_eq C (tgt := 38) (n := 28) dX11_loses_25 (by decide) rfl (fun h10 => ?_) (fun h10 => ?_)
      · refine rf_iconst C (n := 39) (v := (-1)) dX11_loses_38 rfl (by decide) ?_
        exact rf_iret C K dX11_loses_39
      · refine rf_aload_n C (n := 29) (q := 0) dX11_loses_28 rfl rfl rfl ?_
        refine rf_iload_n C (n := 30) (q := 1) dX11_loses_29 rfl rfl rfl ?_
        refine rf_iload_n C (n := 31) (q := 2) dX11_loses_30 rfl rfl rfl ?_
        refine rf_iload_n C (n := 32) (q := 3) dX11_loses_31 rfl rfl rfl ?_
        refine rf_callVi C (n := 35) (c_X11_lostOf G fu _ _ _ _) mw_RX11_132 ly_96 rfl ⟨by decide, by decide⟩ rfl (Nat.le_of_ble_eq_true rfl) rfl dX11_loses_32 rfl (fun y11 m12 => ?_)
        refine rf_goto C (n := 39) dX11_loses_35 (by decide) ?_
        exact rf_iret C K dX11_loses_39
noncomputable def f_X11_dark_181 (fu : Nat) (x3 : Int32) (x4 : Int32) (x5 : Int32) (x6 : Int32) (m : hM) : Option (Int32 × hM) :=
  hLet (sI m 96 1 0) fun m10 =>
hBd (f_X11_enters fu (Int32.toInt64 x4) m10) fun _ m11 =>
hBd (f_X11_enters fu (Int32.toInt64 x5) m11) fun _ m12 =>
hBd (f_X11_enters fu (Int32.toInt64 x6) m12) fun _ m13 =>
some (x3, m13)
set_option maxRecDepth 100000 in
set_option maxHeartbeats 4000000 in
theorem r_X11_dark_181 {G : hG} {X : hX} (C : Cx G X 4 cX11_dark 10 RX11 (some .int)) (K : Cr G X) (fu : Nat) (x3 : Int32) (x4 : Int32) (x5 : Int32) (x6 : Int32) (m : hM) : Rf vI G X 181 [(0, hA G 96), (3, .int x3), (4, .int x4), (5, .int x5), (6, .int x6)] [] m (f_X11_dark_181 fu x3 x4 x5 x6 m) := by
  unfold f_X11_dark_181
  refine rf_aload_n C (n := 182) (q := 0) dX11_dark_181 rfl rfl rfl ?_
  refine rf_iconst C (n := 183) (v := 0) dX11_dark_182 rfl (by decide) ?_
  refine rf_putI C (n := 186) pl_RX11_11 ly_96 rfl ⟨rfl, rfl⟩ dX11_dark_183 rfl ?_
  refine rf_letM (fun m10 => ?_)
  refine rf_aload_n C (n := 187) (q := 0) dX11_dark_186 rfl rfl rfl ?_
  refine rf_iload C (n := 189) (q := 2) dX11_dark_187 rfl rfl ?_
  refine rf_i2l C (n := 190) dX11_dark_189 rfl ?_
  refine rf_callVv C (n := 193) (c_X11_enters G fu _ _) mw_RX11_18 ly_96 rfl ⟨by decide, by decide⟩ rfl (Nat.le_of_ble_eq_true rfl) rfl dX11_dark_190 rfl (fun _ m11 => ?_)
  refine rf_aload_n C (n := 194) (q := 0) dX11_dark_193 rfl rfl rfl ?_
  refine rf_iload C (n := 196) (q := 3) dX11_dark_194 rfl rfl ?_
  refine rf_i2l C (n := 197) dX11_dark_196 rfl ?_
  refine rf_callVv C (n := 200) (c_X11_enters G fu _ _) mw_RX11_18 ly_96 rfl ⟨by decide, by decide⟩ rfl (Nat.le_of_ble_eq_true rfl) rfl dX11_dark_197 rfl (fun _ m12 => ?_)
  refine rf_aload_n C (n := 201) (q := 0) dX11_dark_200 rfl rfl rfl ?_
  refine rf_iload C (n := 203) (q := 4) dX11_dark_201 rfl rfl ?_
  refine rf_i2l C (n := 204) dX11_dark_203 rfl ?_
  refine rf_callVv C (n := 207) (c_X11_enters G fu _ _) mw_RX11_18 ly_96 rfl ⟨by decide, by decide⟩ rfl (Nat.le_of_ble_eq_true rfl) rfl dX11_dark_204 rfl (fun _ m13 => ?_)
  refine rf_iload_n C (n := 208) (q := 1) dX11_dark_207 rfl rfl rfl ?_
  exact rf_iret C K dX11_dark_208
noncomputable def f_X11_dark_164 (fu : Nat) (k47 : Int32 → Int32 → Int32 → Int32 → Int32 → Int32 → Int32 → hM → Option (Int32 × hM)) (x1 : Int32) (x2 : Int32) (x3 : Int32) (x4 : Int32) (x5 : Int32) (x7 : Int32) (x8 : Int32) (s0 : Int32) (m : hM) : Option (Int32 × hM) :=
  hBd (f_J9_max_7cf53 fu x5 x8 m) fun y21 m22 =>
hLet (x7 + 1) fun y23 =>
k47 x1 x2 x3 x4 y21 s0 y23 m22
set_option maxRecDepth 100000 in
set_option maxHeartbeats 4000000 in
theorem r_X11_dark_164 {G : hG} {X : hX} (C : Cx G X 4 cX11_dark 10 RX11 (some .int)) (K : Cr G X) (fu : Nat) (k47 : Int32 → Int32 → Int32 → Int32 → Int32 → Int32 → Int32 → hM → Option (Int32 × hM)) (hk47 : ∀ (x1 : Int32) (x2 : Int32) (x3 : Int32) (x4 : Int32) (x5 : Int32) (x6 : Int32) (x7 : Int32) (m : hM), Rf vI G X 47 [(0, hA G 96), (1, .int x1), (2, .int x2), (3, .int x3), (4, .int x4), (5, .int x5), (6, .int x6), (7, .int x7)] [] m (k47 x1 x2 x3 x4 x5 x6 x7 m)) (x1 : Int32) (x2 : Int32) (x3 : Int32) (x4 : Int32) (x5 : Int32) (x7 : Int32) (x8 : Int32) (s0 : Int32) (m : hM) : Rf vI G X 164 [(0, hA G 96), (1, .int x1), (2, .int x2), (3, .int x3), (4, .int x4), (5, .int x5), (7, .int x7), (8, .int x8)] [.int s0] m (f_X11_dark_164 fu k47 x1 x2 x3 x4 x5 x7 x8 s0 m) := by
  unfold f_X11_dark_164
  refine rf_istore C (n := 166) [(6, .int s0), (0, hA G 96), (1, .int x1), (2, .int x2), (3, .int x3), (4, .int x4), (5, .int x5), (7, .int x7), (8, .int x8)] dX11_dark_164 rfl (by decide) rfl ?_
  refine rf_iload C (n := 168) (q := 6) dX11_dark_166 rfl rfl ?_
  refine rf_iload C (n := 170) (q := 8) dX11_dark_168 rfl rfl ?_
  refine rf_callSi C (n := 173) (c_J9_max_7cf53 G fu _ _ _) sw_RX11_101 ⟨by decide, by decide⟩ rfl (Nat.le_of_ble_eq_true rfl) rfl dX11_dark_170 rfl (fun y21 m22 => ?_)
  refine rf_istore C (n := 175) [(5, .int y21), (6, .int s0), (0, hA G 96), (1, .int x1), (2, .int x2), (3, .int x3), (4, .int x4), (7, .int x7), (8, .int x8)] dX11_dark_173 rfl (by decide) rfl ?_
  refine rf_iinc2 C (n := 178) (q := 7) (fun y23 => [(7, .int y23), (5, .int y21), (6, .int s0), (0, hA G 96), (1, .int x1), (2, .int x2), (3, .int x3), (4, .int x4), (8, .int x8)]) dX11_dark_175 rfl rfl (by decide) (by decide) (fun _ => rfl) (fun y23 => ?_)
  refine rf_goto C (n := 47) dX11_dark_178 (by decide) ?_
  exact rf_lv _ [3, 4, 5, 6, 7, 1, 2, 0] rfl (hk47 _ _ _ _ _ _ _ _)
noncomputable def f_X11_dark_148 (fu : Nat) (k47 : Int32 → Int32 → Int32 → Int32 → Int32 → Int32 → Int32 → hM → Option (Int32 × hM)) (x1 : Int32) (x2 : Int32) (x3 : Int32) (x5 : Int32) (x6 : Int32) (x7 : Int32) (x8 : Int32) (s0 : Int32) (m : hM) : Option (Int32 × hM) :=
  if x8 ≤ x5 then (
f_X11_dark_164 fu k47 x1 x2 x3 s0 x5 x7 x8 x6 m) else (
f_X11_dark_164 fu k47 x1 x2 x3 s0 x5 x7 x8 x7 m)
set_option maxRecDepth 100000 in
set_option maxHeartbeats 4000000 in
theorem r_X11_dark_148 {G : hG} {X : hX} (C : Cx G X 4 cX11_dark 10 RX11 (some .int)) (K : Cr G X) (fu : Nat) (k47 : Int32 → Int32 → Int32 → Int32 → Int32 → Int32 → Int32 → hM → Option (Int32 × hM)) (hk47 : ∀ (x1 : Int32) (x2 : Int32) (x3 : Int32) (x4 : Int32) (x5 : Int32) (x6 : Int32) (x7 : Int32) (m : hM), Rf vI G X 47 [(0, hA G 96), (1, .int x1), (2, .int x2), (3, .int x3), (4, .int x4), (5, .int x5), (6, .int x6), (7, .int x7)] [] m (k47 x1 x2 x3 x4 x5 x6 x7 m)) (x1 : Int32) (x2 : Int32) (x3 : Int32) (x5 : Int32) (x6 : Int32) (x7 : Int32) (x8 : Int32) (s0 : Int32) (m : hM) : Rf vI G X 148 [(0, hA G 96), (1, .int x1), (2, .int x2), (3, .int x3), (5, .int x5), (6, .int x6), (7, .int x7), (8, .int x8)] [.int s0] m (f_X11_dark_148 fu k47 x1 x2 x3 x5 x6 x7 x8 s0 m) := by
  unfold f_X11_dark_148
  refine rf_istore C (n := 150) [(4, .int s0), (0, hA G 96), (1, .int x1), (2, .int x2), (3, .int x3), (5, .int x5), (6, .int x6), (7, .int x7), (8, .int x8)] dX11_dark_148 rfl (by decide) rfl ?_
  refine rf_iload C (n := 152) (q := 8) dX11_dark_150 rfl rfl ?_
  refine rf_iload C (n := 154) (q := 5) dX11_dark_152 rfl rfl ?_
  refine rf_icmp_le C (tgt := 162) (n := 157) dX11_dark_154 (by decide) rfl (fun h20 => ?_) (fun h20 => ?_)
  · refine rf_iload C (n := 164) (q := 6) dX11_dark_162 rfl rfl ?_
    exact rf_lv _ [1, 2, 3, 4, 0, 5, 7, 8] rfl (r_X11_dark_164 C K fu _ hk47 _ _ _ _ _ _ _ _ _)
  · refine rf_iload C (n := 159) (q := 7) dX11_dark_157 rfl rfl ?_
    refine rf_goto C (n := 164) dX11_dark_159 (by decide) ?_
    exact rf_lv _ [1, 2, 3, 4, 0, 5, 7, 8] rfl (r_X11_dark_164 C K fu _ hk47 _ _ _ _ _ _ _ _ _)
noncomputable def f_X11_dark_146 (fu : Nat) (k47 : Int32 → Int32 → Int32 → Int32 → Int32 → Int32 → Int32 → hM → Option (Int32 × hM)) (x1 : Int32) (x2 : Int32) (x3 : Int32) (x4 : Int32) (x5 : Int32) (x6 : Int32) (x7 : Int32) (x8 : Int32) (m : hM) : Option (Int32 × hM) :=
  f_X11_dark_148 fu k47 x1 x2 x3 x5 x6 x7 x8 x4 m
set_option maxRecDepth 100000 in
set_option maxHeartbeats 4000000 in
theorem r_X11_dark_146 {G : hG} {X : hX} (C : Cx G X 4 cX11_dark 10 RX11 (some .int)) (K : Cr G X) (fu : Nat) (k47 : Int32 → Int32 → Int32 → Int32 → Int32 → Int32 → Int32 → hM → Option (Int32 × hM)) (hk47 : ∀ (x1 : Int32) (x2 : Int32) (x3 : Int32) (x4 : Int32) (x5 : Int32) (x6 : Int32) (x7 : Int32) (m : hM), Rf vI G X 47 [(0, hA G 96), (1, .int x1), (2, .int x2), (3, .int x3), (4, .int x4), (5, .int x5), (6, .int x6), (7, .int x7)] [] m (k47 x1 x2 x3 x4 x5 x6 x7 m)) (x1 : Int32) (x2 : Int32) (x3 : Int32) (x4 : Int32) (x5 : Int32) (x6 : Int32) (x7 : Int32) (x8 : Int32) (m : hM) : Rf vI G X 146 [(0, hA G 96), (1, .int x1), (2, .int x2), (3, .int x3), (4, .int x4), (5, .int x5), (6, .int x6), (7, .int x7), (8, .int x8)] [] m (f_X11_dark_146 fu k47 x1 x2 x3 x4 x5 x6 x7 x8 m) := by
  unfold f_X11_dark_146
  refine rf_iload C (n := 148) (q := 4) dX11_dark_146 rfl rfl ?_
  exact rf_lv _ [0, 1, 2, 3, 5, 6, 7, 8] rfl (r_X11_dark_148 C K fu _ hk47 _ _ _ _ _ _ _ _ _)
noncomputable def f_X11_dark_126 (fu : Nat) (k47 : Int32 → Int32 → Int32 → Int32 → Int32 → Int32 → Int32 → hM → Option (Int32 × hM)) (x1 : Int32) (x2 : Int32) (x4 : Int32) (x5 : Int32) (x6 : Int32) (x7 : Int32) (x8 : Int32) (s0 : Int32) (s1 : Int32) (m : hM) : Option (Int32 × hM) :=
  hBd (f_X11_flag fu s1 m) fun y16 m17 =>
hLet (s0 + y16) fun y18 =>
if ¬ x8 = 0 then (
f_X11_dark_146 fu k47 x1 x2 y18 x4 x5 x6 x7 x8 m17) else (
if 0 ≤ x4 then (
f_X11_dark_146 fu k47 x1 x2 y18 x4 x5 x6 x7 x8 m17) else (
f_X11_dark_148 fu k47 x1 x2 y18 x5 x6 x7 x8 x7 m17))
set_option maxRecDepth 100000 in
set_option maxHeartbeats 4000000 in
theorem r_X11_dark_126 {G : hG} {X : hX} (C : Cx G X 4 cX11_dark 10 RX11 (some .int)) (K : Cr G X) (fu : Nat) (k47 : Int32 → Int32 → Int32 → Int32 → Int32 → Int32 → Int32 → hM → Option (Int32 × hM)) (hk47 : ∀ (x1 : Int32) (x2 : Int32) (x3 : Int32) (x4 : Int32) (x5 : Int32) (x6 : Int32) (x7 : Int32) (m : hM), Rf vI G X 47 [(0, hA G 96), (1, .int x1), (2, .int x2), (3, .int x3), (4, .int x4), (5, .int x5), (6, .int x6), (7, .int x7)] [] m (k47 x1 x2 x3 x4 x5 x6 x7 m)) (x1 : Int32) (x2 : Int32) (x4 : Int32) (x5 : Int32) (x6 : Int32) (x7 : Int32) (x8 : Int32) (s0 : Int32) (s1 : Int32) (m : hM) : Rf vI G X 126 [(0, hA G 96), (1, .int x1), (2, .int x2), (4, .int x4), (5, .int x5), (6, .int x6), (7, .int x7), (8, .int x8)] [.int s1, .int s0] m (f_X11_dark_126 fu k47 x1 x2 x4 x5 x6 x7 x8 s0 s1 m) := by
  unfold f_X11_dark_126
  refine rf_callSi C (n := 129) (c_X11_flag G fu _ _) sw_RX11_124 ⟨by decide, by decide⟩ rfl (Nat.le_of_ble_eq_true rfl) rfl dX11_dark_126 rfl (fun y16 m17 => ?_)
  refine rf_iadd C (n := 130) dX11_dark_129 rfl ?_
  refine rf_letI (fun y18 => ?_)
  refine rf_istore_n C (n := 131) [(3, .int y18), (0, hA G 96), (1, .int x1), (2, .int x2), (4, .int x4), (5, .int x5), (6, .int x6), (7, .int x7), (8, .int x8)] dX11_dark_130 rfl rfl (by decide) rfl ?_
  refine rf_iload C (n := 133) (q := 8) dX11_dark_131 rfl rfl ?_
  refine rf_if_ne C (tgt := 146) (n := 136) dX11_dark_133 (by decide) rfl (fun h19 => ?_) (fun h19 => ?_)
  · exact rf_lv _ [1, 2, 3, 0, 4, 5, 6, 7, 8] rfl (r_X11_dark_146 C K fu _ hk47 _ _ _ _ _ _ _ _ _)
  · refine rf_iload C (n := 138) (q := 4) dX11_dark_136 rfl rfl ?_
    refine rf_if_ge C (tgt := 146) (n := 141) dX11_dark_138 (by decide) rfl (fun h24 => ?_) (fun h24 => ?_)
    · exact rf_lv _ [1, 2, 3, 0, 4, 5, 6, 7, 8] rfl (r_X11_dark_146 C K fu _ hk47 _ _ _ _ _ _ _ _ _)
    · refine rf_iload C (n := 143) (q := 7) dX11_dark_141 rfl rfl ?_
      refine rf_goto C (n := 148) dX11_dark_143 (by decide) ?_
      exact rf_lv _ [1, 2, 3, 0, 5, 6, 7, 8] rfl (r_X11_dark_148 C K fu _ hk47 _ _ _ _ _ _ _ _ _)
noncomputable def f_X11_dark_115 (fu : Nat) (k47 : Int32 → Int32 → Int32 → Int32 → Int32 → Int32 → Int32 → hM → Option (Int32 × hM)) (x1 : Int32) (x2 : Int32) (x3 : Int32) (x4 : Int32) (x5 : Int32) (x6 : Int32) (x7 : Int32) (x8 : Int32) (m : hM) : Option (Int32 × hM) :=
  if ¬ x8 = 0 then (
f_X11_dark_126 fu k47 x1 x2 x4 x5 x6 x7 x8 x3 0 m) else (
f_X11_dark_126 fu k47 x1 x2 x4 x5 x6 x7 x8 x3 1 m)
set_option maxRecDepth 100000 in
set_option maxHeartbeats 4000000 in
theorem r_X11_dark_115 {G : hG} {X : hX} (C : Cx G X 4 cX11_dark 10 RX11 (some .int)) (K : Cr G X) (fu : Nat) (k47 : Int32 → Int32 → Int32 → Int32 → Int32 → Int32 → Int32 → hM → Option (Int32 × hM)) (hk47 : ∀ (x1 : Int32) (x2 : Int32) (x3 : Int32) (x4 : Int32) (x5 : Int32) (x6 : Int32) (x7 : Int32) (m : hM), Rf vI G X 47 [(0, hA G 96), (1, .int x1), (2, .int x2), (3, .int x3), (4, .int x4), (5, .int x5), (6, .int x6), (7, .int x7)] [] m (k47 x1 x2 x3 x4 x5 x6 x7 m)) (x1 : Int32) (x2 : Int32) (x3 : Int32) (x4 : Int32) (x5 : Int32) (x6 : Int32) (x7 : Int32) (x8 : Int32) (m : hM) : Rf vI G X 115 [(0, hA G 96), (1, .int x1), (2, .int x2), (3, .int x3), (4, .int x4), (5, .int x5), (6, .int x6), (7, .int x7), (8, .int x8)] [] m (f_X11_dark_115 fu k47 x1 x2 x3 x4 x5 x6 x7 x8 m) := by
  unfold f_X11_dark_115
  refine rf_iload_n C (n := 116) (q := 3) dX11_dark_115 rfl rfl rfl ?_
  refine rf_iload C (n := 118) (q := 8) dX11_dark_116 rfl rfl ?_
  refine rf_if_ne C (tgt := 125) (n := 121) dX11_dark_118 (by decide) rfl (fun h15 => ?_) (fun h15 => ?_)
  · refine rf_iconst C (n := 126) (v := 0) dX11_dark_125 rfl (by decide) ?_
    exact rf_lv _ [0, 1, 2, 4, 5, 6, 7, 8] rfl (r_X11_dark_126 C K fu _ hk47 _ _ _ _ _ _ _ _ _ _)
  · refine rf_iconst C (n := 122) (v := 1) dX11_dark_121 rfl (by decide) ?_
    refine rf_goto C (n := 126) dX11_dark_122 (by decide) ?_
    exact rf_lv _ [0, 1, 2, 4, 5, 6, 7, 8] rfl (r_X11_dark_126 C K fu _ hk47 _ _ _ _ _ _ _ _ _ _)
noncomputable def f_X11_dark_103 (fu : Nat) (k47 : Int32 → Int32 → Int32 → Int32 → Int32 → Int32 → Int32 → hM → Option (Int32 × hM)) (k62 : Int32 → Int32 → Int32 → Int32 → Int32 → Int32 → Int32 → Int32 → Int32 → hM → Option (Int32 × hM)) (x1 : Int32) (x2 : Int32) (x3 : Int32) (x4 : Int32) (x5 : Int32) (x6 : Int32) (x7 : Int32) (x9 : Int32) (s0 : Int32) (s1 : Int32) (m : hM) : Option (Int32 × hM) :=
  hBd (f_X11_flag fu s1 m) fun y29 m30 =>
hLet (s0 + y29) fun y31 =>
hLet (x9 + 1) fun y32 =>
k62 x1 x2 x3 x4 x5 x6 x7 y31 y32 m30
set_option maxRecDepth 100000 in
set_option maxHeartbeats 4000000 in
theorem r_X11_dark_103 {G : hG} {X : hX} (C : Cx G X 4 cX11_dark 10 RX11 (some .int)) (K : Cr G X) (fu : Nat) (k47 : Int32 → Int32 → Int32 → Int32 → Int32 → Int32 → Int32 → hM → Option (Int32 × hM)) (hk47 : ∀ (x1 : Int32) (x2 : Int32) (x3 : Int32) (x4 : Int32) (x5 : Int32) (x6 : Int32) (x7 : Int32) (m : hM), Rf vI G X 47 [(0, hA G 96), (1, .int x1), (2, .int x2), (3, .int x3), (4, .int x4), (5, .int x5), (6, .int x6), (7, .int x7)] [] m (k47 x1 x2 x3 x4 x5 x6 x7 m)) (k62 : Int32 → Int32 → Int32 → Int32 → Int32 → Int32 → Int32 → Int32 → Int32 → hM → Option (Int32 × hM)) (hk62 : ∀ (x1 : Int32) (x2 : Int32) (x3 : Int32) (x4 : Int32) (x5 : Int32) (x6 : Int32) (x7 : Int32) (x8 : Int32) (x9 : Int32) (m : hM), Rf vI G X 62 [(0, hA G 96), (1, .int x1), (2, .int x2), (3, .int x3), (4, .int x4), (5, .int x5), (6, .int x6), (7, .int x7), (8, .int x8), (9, .int x9)] [] m (k62 x1 x2 x3 x4 x5 x6 x7 x8 x9 m)) (x1 : Int32) (x2 : Int32) (x3 : Int32) (x4 : Int32) (x5 : Int32) (x6 : Int32) (x7 : Int32) (x9 : Int32) (s0 : Int32) (s1 : Int32) (m : hM) : Rf vI G X 103 [(0, hA G 96), (1, .int x1), (2, .int x2), (3, .int x3), (4, .int x4), (5, .int x5), (6, .int x6), (7, .int x7), (9, .int x9)] [.int s1, .int s0] m (f_X11_dark_103 fu k47 k62 x1 x2 x3 x4 x5 x6 x7 x9 s0 s1 m) := by
  unfold f_X11_dark_103
  refine rf_callSi C (n := 106) (c_X11_flag G fu _ _) sw_RX11_124 ⟨by decide, by decide⟩ rfl (Nat.le_of_ble_eq_true rfl) rfl dX11_dark_103 rfl (fun y29 m30 => ?_)
  refine rf_iadd C (n := 107) dX11_dark_106 rfl ?_
  refine rf_letI (fun y31 => ?_)
  refine rf_istore C (n := 109) [(8, .int y31), (0, hA G 96), (1, .int x1), (2, .int x2), (3, .int x3), (4, .int x4), (5, .int x5), (6, .int x6), (7, .int x7), (9, .int x9)] dX11_dark_107 rfl (by decide) rfl ?_
  refine rf_iinc2 C (n := 112) (q := 9) (fun y32 => [(9, .int y32), (8, .int y31), (0, hA G 96), (1, .int x1), (2, .int x2), (3, .int x3), (4, .int x4), (5, .int x5), (6, .int x6), (7, .int x7)]) dX11_dark_109 rfl rfl (by decide) (by decide) (fun _ => rfl) (fun y32 => ?_)
  refine rf_goto C (n := 62) dX11_dark_112 (by decide) ?_
  exact rf_lv _ [2, 3, 4, 5, 6, 7, 8, 9, 1, 0] rfl (hk62 _ _ _ _ _ _ _ _ _ _)
noncomputable def f_X11_dark_102 (fu : Nat) (k47 : Int32 → Int32 → Int32 → Int32 → Int32 → Int32 → Int32 → hM → Option (Int32 × hM)) (k62 : Int32 → Int32 → Int32 → Int32 → Int32 → Int32 → Int32 → Int32 → Int32 → hM → Option (Int32 × hM)) (x1 : Int32) (x2 : Int32) (x3 : Int32) (x4 : Int32) (x5 : Int32) (x6 : Int32) (x7 : Int32) (x9 : Int32) (s0 : Int32) (m : hM) : Option (Int32 × hM) :=
  f_X11_dark_103 fu k47 k62 x1 x2 x3 x4 x5 x6 x7 x9 s0 0 m
set_option maxRecDepth 100000 in
set_option maxHeartbeats 4000000 in
theorem r_X11_dark_102 {G : hG} {X : hX} (C : Cx G X 4 cX11_dark 10 RX11 (some .int)) (K : Cr G X) (fu : Nat) (k47 : Int32 → Int32 → Int32 → Int32 → Int32 → Int32 → Int32 → hM → Option (Int32 × hM)) (hk47 : ∀ (x1 : Int32) (x2 : Int32) (x3 : Int32) (x4 : Int32) (x5 : Int32) (x6 : Int32) (x7 : Int32) (m : hM), Rf vI G X 47 [(0, hA G 96), (1, .int x1), (2, .int x2), (3, .int x3), (4, .int x4), (5, .int x5), (6, .int x6), (7, .int x7)] [] m (k47 x1 x2 x3 x4 x5 x6 x7 m)) (k62 : Int32 → Int32 → Int32 → Int32 → Int32 → Int32 → Int32 → Int32 → Int32 → hM → Option (Int32 × hM)) (hk62 : ∀ (x1 : Int32) (x2 : Int32) (x3 : Int32) (x4 : Int32) (x5 : Int32) (x6 : Int32) (x7 : Int32) (x8 : Int32) (x9 : Int32) (m : hM), Rf vI G X 62 [(0, hA G 96), (1, .int x1), (2, .int x2), (3, .int x3), (4, .int x4), (5, .int x5), (6, .int x6), (7, .int x7), (8, .int x8), (9, .int x9)] [] m (k62 x1 x2 x3 x4 x5 x6 x7 x8 x9 m)) (x1 : Int32) (x2 : Int32) (x3 : Int32) (x4 : Int32) (x5 : Int32) (x6 : Int32) (x7 : Int32) (x9 : Int32) (s0 : Int32) (m : hM) : Rf vI G X 102 [(0, hA G 96), (1, .int x1), (2, .int x2), (3, .int x3), (4, .int x4), (5, .int x5), (6, .int x6), (7, .int x7), (9, .int x9)] [.int s0] m (f_X11_dark_102 fu k47 k62 x1 x2 x3 x4 x5 x6 x7 x9 s0 m) := by
  unfold f_X11_dark_102
  refine rf_iconst C (n := 103) (v := 0) dX11_dark_102 rfl (by decide) ?_
  exact rf_lv _ [0, 1, 2, 3, 4, 5, 6, 7, 8] rfl (r_X11_dark_103 C K fu _ hk47 _ hk62 _ _ _ _ _ _ _ _ _ _ _)
noncomputable def s_X11_dark_62 (fu : Nat) (k47 : Int32 → Int32 → Int32 → Int32 → Int32 → Int32 → Int32 → hM → Option (Int32 × hM)) (ih : Int32 → Int32 → Int32 → Int32 → Int32 → Int32 → Int32 → Int32 → Int32 → hM → Option (Int32 × hM)) (x1 : Int32) (x2 : Int32) (x3 : Int32) (x4 : Int32) (x5 : Int32) (x6 : Int32) (x7 : Int32) (x8 : Int32) (x9 : Int32) (m : hM) : Option (Int32 × hM) :=
  if (gI m 96 3) ≤ x9 then (
f_X11_dark_115 fu k47 x1 x2 x3 x4 x5 x6 x7 x8 m) else (
if hIn x9 6 then (
hBd (f_X11_has fu (gI m 103 (Int32.toNatClampNeg x9)) x1 m) fun y26 m27 =>
if y26 = 0 then (
f_X11_dark_102 fu k47 ih x1 x2 x3 x4 x5 x6 x7 x9 x8 m27) else (
hBd (f_X11_isOpen fu x9 x7 m27) fun y33 m34 =>
if y33 = 0 then (
f_X11_dark_102 fu k47 ih x1 x2 x3 x4 x5 x6 x7 x9 x8 m34) else (
f_X11_dark_103 fu k47 ih x1 x2 x3 x4 x5 x6 x7 x9 x8 1 m34))) else none)
noncomputable def f_X11_dark_62 (fu : Nat) (k47 : Int32 → Int32 → Int32 → Int32 → Int32 → Int32 → Int32 → hM → Option (Int32 × hM)) (n : Nat) : Int32 → Int32 → Int32 → Int32 → Int32 → Int32 → Int32 → Int32 → Int32 → hM → Option (Int32 × hM) :=
  Nat.rec (motive := fun _ => Int32 → Int32 → Int32 → Int32 → Int32 → Int32 → Int32 → Int32 → Int32 → hM → Option (Int32 × hM)) (fun _ _ _ _ _ _ _ _ _ _ => none) (fun _ ih => s_X11_dark_62 fu k47 ih) n
theorem f_X11_dark_62_s (fu : Nat) (k47 : Int32 → Int32 → Int32 → Int32 → Int32 → Int32 → Int32 → hM → Option (Int32 × hM)) (n : Nat) (x1 : Int32) (x2 : Int32) (x3 : Int32) (x4 : Int32) (x5 : Int32) (x6 : Int32) (x7 : Int32) (x8 : Int32) (x9 : Int32) (m : hM) : f_X11_dark_62 fu k47 (n + 1) x1 x2 x3 x4 x5 x6 x7 x8 x9 m = s_X11_dark_62 fu k47 (f_X11_dark_62 fu k47 n) x1 x2 x3 x4 x5 x6 x7 x8 x9 m := rfl
set_option maxRecDepth 100000 in
set_option maxHeartbeats 4000000 in
theorem r_X11_dark_62 {G : hG} {X : hX} (C : Cx G X 4 cX11_dark 10 RX11 (some .int)) (K : Cr G X) (fu : Nat) (k47 : Int32 → Int32 → Int32 → Int32 → Int32 → Int32 → Int32 → hM → Option (Int32 × hM)) (hk47 : ∀ (x1 : Int32) (x2 : Int32) (x3 : Int32) (x4 : Int32) (x5 : Int32) (x6 : Int32) (x7 : Int32) (m : hM), Rf vI G X 47 [(0, hA G 96), (1, .int x1), (2, .int x2), (3, .int x3), (4, .int x4), (5, .int x5), (6, .int x6), (7, .int x7)] [] m (k47 x1 x2 x3 x4 x5 x6 x7 m)) (n : Nat) : ∀ (x1 : Int32) (x2 : Int32) (x3 : Int32) (x4 : Int32) (x5 : Int32) (x6 : Int32) (x7 : Int32) (x8 : Int32) (x9 : Int32) (m : hM), Rf vI G X 62 [(0, hA G 96), (1, .int x1), (2, .int x2), (3, .int x3), (4, .int x4), (5, .int x5), (6, .int x6), (7, .int x7), (8, .int x8), (9, .int x9)] [] m (f_X11_dark_62 fu k47 n x1 x2 x3 x4 x5 x6 x7 x8 x9 m) := by
  induction n with
  | zero => intros; exact rf_none
  | succ n ih =>
    intro x1 x2 x3 x4 x5 x6 x7 x8 x9 m
    show Rf vI G X 62 [(0, hA G 96), (1, .int x1), (2, .int x2), (3, .int x3), (4, .int x4), (5, .int x5), (6, .int x6), (7, .int x7), (8, .int x8), (9, .int x9)] [] m (s_X11_dark_62 fu k47 (f_X11_dark_62 fu k47 n) x1 x2 x3 x4 x5 x6 x7 x8 x9 m)
    unfold s_X11_dark_62
    refine rf_iload C (n := 64) (q := 9) dX11_dark_62 rfl rfl ?_
    refine rf_aload_n C (n := 65) (q := 0) dX11_dark_64 rfl rfl rfl ?_
    refine rf_getI C (n := 68) fl_RX11_22 ly_96 rfl dX11_dark_65 rfl ?_
    refine rf_icmp_ge C (tgt := 115) (n := 71) dX11_dark_68 (by decide) rfl (fun h14 => ?_) (fun h14 => ?_)
    · exact rf_lv _ [0, 1, 2, 3, 4, 5, 6, 7, 8] rfl (r_X11_dark_115 C K fu _ hk47 _ _ _ _ _ _ _ _ _)
    · refine rf_iload C (n := 73) (q := 8) dX11_dark_71 rfl rfl ?_
      refine rf_aload_n C (n := 74) (q := 0) dX11_dark_73 rfl rfl rfl ?_
      refine rf_getS C (n := 77) fl_RX11_47 ly_96 rfl dX11_dark_74 rfl ?_
      refine rf_iload C (n := 79) (q := 9) dX11_dark_77 rfl rfl ?_
      refine rf_guard (fun h25 => ?_)
      refine rf_iald C (n := 80) ly_103 h25 rfl dX11_dark_79 rfl ?_
      refine rf_iload_n C (n := 81) (q := 1) dX11_dark_80 rfl rfl rfl ?_
      refine rf_callSi C (n := 84) (c_X11_has G fu _ _ _) sw_RX11_137 ⟨by decide, by decide⟩ rfl (Nat.le_of_ble_eq_true rfl) rfl dX11_dark_81 rfl (fun y26 m27 => ?_)
      refine rf_if_eq C (tgt := 102) (n := 87) dX11_dark_84 (by decide) rfl (fun h28 => ?_) (fun h28 => ?_)
      · exact rf_lv _ [0, 1, 2, 3, 4, 5, 6, 7, 9] rfl (r_X11_dark_102 C K fu _ hk47 _ ih _ _ _ _ _ _ _ _ _ _)
      · refine rf_aload_n C (n := 88) (q := 0) dX11_dark_87 rfl rfl rfl ?_
        refine rf_iload C (n := 90) (q := 9) dX11_dark_88 rfl rfl ?_
        refine rf_iload C (n := 92) (q := 7) dX11_dark_90 rfl rfl ?_
        refine rf_callVi C (n := 95) (c_X11_isOpen G fu _ _ _) mw_RX11_120 ly_96 rfl ⟨by decide, by decide⟩ rfl (Nat.le_of_ble_eq_true rfl) rfl dX11_dark_92 rfl (fun y33 m34 => ?_)
        refine rf_if_eq C (tgt := 102) (n := 98) dX11_dark_95 (by decide) rfl (fun h35 => ?_) (fun h35 => ?_)
        · exact rf_lv _ [0, 1, 2, 3, 4, 5, 6, 7, 9] rfl (r_X11_dark_102 C K fu _ hk47 _ ih _ _ _ _ _ _ _ _ _ _)
        · refine rf_iconst C (n := 99) (v := 1) dX11_dark_98 rfl (by decide) ?_
          refine rf_goto C (n := 103) dX11_dark_99 (by decide) ?_
          exact rf_lv _ [0, 1, 2, 3, 4, 5, 6, 7, 9] rfl (r_X11_dark_103 C K fu _ hk47 _ ih _ _ _ _ _ _ _ _ _ _ _)
noncomputable def s_X11_dark_47 (fu : Nat) (ih : Int32 → Int32 → Int32 → Int32 → Int32 → Int32 → Int32 → hM → Option (Int32 × hM)) (x1 : Int32) (x2 : Int32) (x3 : Int32) (x4 : Int32) (x5 : Int32) (x6 : Int32) (x7 : Int32) (m : hM) : Option (Int32 × hM) :=
  if (x2 + 24) ≤ x7 then (
f_X11_dark_181 fu x3 x4 x5 x6 m) else (
f_X11_dark_62 fu ih fu x1 x2 x3 x4 x5 x6 x7 0 0 m)
noncomputable def f_X11_dark_47 (fu : Nat) (n : Nat) : Int32 → Int32 → Int32 → Int32 → Int32 → Int32 → Int32 → hM → Option (Int32 × hM) :=
  Nat.rec (motive := fun _ => Int32 → Int32 → Int32 → Int32 → Int32 → Int32 → Int32 → hM → Option (Int32 × hM)) (fun _ _ _ _ _ _ _ _ => none) (fun _ ih => s_X11_dark_47 fu ih) n
theorem f_X11_dark_47_s (fu : Nat) (n : Nat) (x1 : Int32) (x2 : Int32) (x3 : Int32) (x4 : Int32) (x5 : Int32) (x6 : Int32) (x7 : Int32) (m : hM) : f_X11_dark_47 fu (n + 1) x1 x2 x3 x4 x5 x6 x7 m = s_X11_dark_47 fu (f_X11_dark_47 fu n) x1 x2 x3 x4 x5 x6 x7 m := rfl
set_option maxRecDepth 100000 in
set_option maxHeartbeats 4000000 in
theorem r_X11_dark_47 {G : hG} {X : hX} (C : Cx G X 4 cX11_dark 10 RX11 (some .int)) (K : Cr G X) (fu : Nat) (n : Nat) : ∀ (x1 : Int32) (x2 : Int32) (x3 : Int32) (x4 : Int32) (x5 : Int32) (x6 : Int32) (x7 : Int32) (m : hM), Rf vI G X 47 [(0, hA G 96), (1, .int x1), (2, .int x2), (3, .int x3), (4, .int x4), (5, .int x5), (6, .int x6), (7, .int x7)] [] m (f_X11_dark_47 fu n x1 x2 x3 x4 x5 x6 x7 m) := by
  induction n with
  | zero => intros; exact rf_none
  | succ n ih =>
    intro x1 x2 x3 x4 x5 x6 x7 m
    show Rf vI G X 47 [(0, hA G 96), (1, .int x1), (2, .int x2), (3, .int x3), (4, .int x4), (5, .int x5), (6, .int x6), (7, .int x7)] [] m (s_X11_dark_47 fu (f_X11_dark_47 fu n) x1 x2 x3 x4 x5 x6 x7 m)
    unfold s_X11_dark_47
    refine rf_iload C (n := 49) (q := 7) dX11_dark_47 rfl rfl ?_
    refine rf_iload_n C (n := 50) (q := 2) dX11_dark_49 rfl rfl rfl ?_
    refine rf_bipush C (n := 52) (v := 24) dX11_dark_50 rfl (by decide) ?_
    refine rf_iadd C (n := 53) dX11_dark_52 rfl ?_
    refine rf_icmp_ge C (tgt := 181) (n := 56) dX11_dark_53 (by decide) rfl (fun h9 => ?_) (fun h9 => ?_)
    · exact rf_lv _ [0, 3, 4, 5, 6] rfl (r_X11_dark_181 C K fu _ _ _ _ _)
    · refine rf_iconst C (n := 57) (v := 0) dX11_dark_56 rfl (by decide) ?_
      refine rf_istore C (n := 59) [(8, .int 0), (0, hA G 96), (1, .int x1), (2, .int x2), (3, .int x3), (4, .int x4), (5, .int x5), (6, .int x6), (7, .int x7)] dX11_dark_57 rfl (by decide) rfl ?_
      refine rf_iconst C (n := 60) (v := 0) dX11_dark_59 rfl (by decide) ?_
      refine rf_istore C (n := 62) [(9, .int 0), (8, .int 0), (0, hA G 96), (1, .int x1), (2, .int x2), (3, .int x3), (4, .int x4), (5, .int x5), (6, .int x6), (7, .int x7)] dX11_dark_60 rfl (by decide) rfl ?_
      exact rf_lv _ [2, 3, 4, 5, 6, 7, 8, 9, 1, 0] rfl (r_X11_dark_62 C K fu _ ih fu _ _ _ _ _ _ _ _ _ _)
noncomputable def f_X11_dark (fu : Nat) (x1 : Int32) (x2 : Int32) (m : hM) : Option (Int32 × hM) :=
  hLet (sI m 96 0 0) fun m1 =>
hBd (f_X11_in fu (Int32.toInt64 x1) 0 5 m1) fun y2 m3 =>
if y2 = 0 then (
some ((-1), m3)) else (
hBd (f_X11_isHour fu x2 m3) fun y5 m6 =>
if y5 = 0 then (
some ((-1), m6)) else (
if ¬ (gI m6 96 3) = 0 then (
f_X11_dark_47 fu fu x1 x2 0 (-1) (-1) 0 x2 m6) else (
some ((-1), m6))))
set_option maxRecDepth 100000 in
set_option maxHeartbeats 4000000 in
theorem c_X11_dark (G : hG) (fu : Nat) (x1 : Int32) (x2 : Int32) (m : hM) : Mt vI G 4 yX11_dark cX11_dark 10 (some .int) [hA G 96, .int x1, .int x2] m (f_X11_dark fu x1 x2 m) := by
  refine mt_of (by decide +kernel) (Nat.le_of_ble_eq_true rfl) (fun X C K => ?_)
  have C : Cx G X 4 cX11_dark 10 RX11 (some .int) := C
  show Rf vI G X 0 [(0, hA G 96), (1, .int x1), (2, .int x2)] [] m _
  unfold f_X11_dark
  refine rf_aload_n C (n := 1) (q := 0) dX11_dark_0 rfl rfl rfl ?_
  refine rf_iconst C (n := 2) (v := 0) dX11_dark_1 rfl (by decide) ?_
  refine rf_putI C (n := 5) pl_RX11_3 ly_96 rfl ⟨rfl, rfl⟩ dX11_dark_2 rfl ?_
  refine rf_letM (fun m1 => ?_)
  refine rf_iload_n C (n := 6) (q := 1) dX11_dark_5 rfl rfl rfl ?_
  refine rf_i2l C (n := 7) dX11_dark_6 rfl ?_
  refine rf_lconst C (n := 8) (v := 0) dX11_dark_7 rfl (by decide) ?_
  refine rf_ldc2 C (n := 11) dX11_dark_8 rfl kl_RX11_135 ?_
  refine rf_callSi C (n := 14) (c_X11_in G fu _ _ _ _) sw_RX11_25 ⟨by decide, by decide⟩ rfl (Nat.le_of_ble_eq_true rfl) rfl dX11_dark_11 rfl (fun y2 m3 => ?_)
  refine rf_if_eq C (tgt := 31) (n := 17) dX11_dark_14 (by decide) rfl (fun h4 => ?_) (fun h4 => ?_)
  · refine rf_iconst C (n := 32) (v := (-1)) dX11_dark_31 rfl (by decide) ?_
    exact rf_iret C K dX11_dark_32
  · refine rf_iload_n C (n := 18) (q := 2) dX11_dark_17 rfl rfl rfl ?_
    refine rf_callSi C (n := 21) (c_X11_isHour G fu _ _) sw_RX11_81 ⟨by decide, by decide⟩ rfl (Nat.le_of_ble_eq_true rfl) rfl dX11_dark_18 rfl (fun y5 m6 => ?_)
    refine rf_if_eq C (tgt := 31) (n := 24) dX11_dark_21 (by decide) rfl (fun h7 => ?_) (fun h7 => ?_)
    · refine rf_iconst C (n := 32) (v := (-1)) dX11_dark_31 rfl (by decide) ?_
      exact rf_iret C K dX11_dark_32
    · refine rf_aload_n C (n := 25) (q := 0) dX11_dark_24 rfl rfl rfl ?_
      refine rf_getI C (n := 28) fl_RX11_22 ly_96 rfl dX11_dark_25 rfl ?_
      refine rf_if_ne C (tgt := 33) (n := 31) dX11_dark_28 (by decide) rfl (fun h8 => ?_) (fun h8 => ?_)
      · refine rf_iconst C (n := 34) (v := 0) dX11_dark_33 rfl (by decide) ?_
        refine rf_istore_n C (n := 35) [(3, .int 0), (0, hA G 96), (1, .int x1), (2, .int x2)] dX11_dark_34 rfl rfl (by decide) rfl ?_
        refine rf_iconst C (n := 36) (v := (-1)) dX11_dark_35 rfl (by decide) ?_
        refine rf_istore C (n := 38) [(4, .int (-1)), (3, .int 0), (0, hA G 96), (1, .int x1), (2, .int x2)] dX11_dark_36 rfl (by decide) rfl ?_
        refine rf_iconst C (n := 39) (v := (-1)) dX11_dark_38 rfl (by decide) ?_
        refine rf_istore C (n := 41) [(5, .int (-1)), (4, .int (-1)), (3, .int 0), (0, hA G 96), (1, .int x1), (2, .int x2)] dX11_dark_39 rfl (by decide) rfl ?_
        refine rf_iconst C (n := 42) (v := 0) dX11_dark_41 rfl (by decide) ?_
        refine rf_istore C (n := 44) [(6, .int 0), (5, .int (-1)), (4, .int (-1)), (3, .int 0), (0, hA G 96), (1, .int x1), (2, .int x2)] dX11_dark_42 rfl (by decide) rfl ?_
        refine rf_iload_n C (n := 45) (q := 6) dX11_dark_44 rfl rfl rfl ?_
        refine rf_istore C (n := 47) [(7, .int x2), (6, .int 0), (5, .int (-1)), (4, .int (-1)), (3, .int 0), (0, hA G 96), (1, .int x1), (2, .int x2)] dX11_dark_45 rfl (by decide) rfl ?_
        exact rf_lv _ [5, 6, 7, 4, 3, 2, 1, 0] rfl (r_X11_dark_47 C K fu fu _ _ _ _ _ _ _ _)
      · refine rf_iconst C (n := 32) (v := (-1)) dX11_dark_31 rfl (by decide) ?_
        exact rf_iret C K dX11_dark_32
noncomputable def s_X11_putsBy_2 (fu : Nat) (ih : Int32 → hM → Option (Unit × hM)) (x2 : Int32) (m : hM) : Option (Unit × hM) :=
  if 127 ≤ x2 then (
some ((), m)) else (
if hIn x2 127 then (
if hIn x2 127 then (
hLet (sI m 115 (Int32.toNatClampNeg x2) (gI m 114 (Int32.toNatClampNeg x2))) fun m4 =>
hLet (x2 + 1) fun y5 =>
ih y5 m4) else none) else none)
noncomputable def f_X11_putsBy_2 (fu : Nat) (n : Nat) : Int32 → hM → Option (Unit × hM) :=
  Nat.rec (motive := fun _ => Int32 → hM → Option (Unit × hM)) (fun _ _ => none) (fun _ ih => s_X11_putsBy_2 fu ih) n
theorem f_X11_putsBy_2_s (fu : Nat) (n : Nat) (x2 : Int32) (m : hM) : f_X11_putsBy_2 fu (n + 1) x2 m = s_X11_putsBy_2 fu (f_X11_putsBy_2 fu n) x2 m := rfl
set_option maxRecDepth 100000 in
set_option maxHeartbeats 4000000 in
theorem r_X11_putsBy_2 {G : hG} {X : hX} (C : Cx G X 1 cX11_putsBy 3 RX11 none) (K : Cr G X) (fu : Nat) (n : Nat) : ∀ (x2 : Int32) (m : hM), Rf vU G X 2 [(0, hA G 96), (1, hA G 115), (2, .int x2)] [] m (f_X11_putsBy_2 fu n x2 m) := by
  induction n with
  | zero => intros; exact rf_none
  | succ n ih =>
    intro x2 m
    show Rf vU G X 2 [(0, hA G 96), (1, hA G 115), (2, .int x2)] [] m (s_X11_putsBy_2 fu (f_X11_putsBy_2 fu n) x2 m)
    unfold s_X11_putsBy_2
    refine rf_iload_n C (n := 3) (q := 2) dX11_putsBy_2 rfl rfl rfl ?_
    refine rf_bipush C (n := 5) (v := 127) dX11_putsBy_3 rfl (by decide) ?_
    refine rf_icmp_ge C (tgt := 23) (n := 8) dX11_putsBy_5 (by decide) rfl (fun h1 => ?_) (fun h1 => ?_)
    · exact rf_vret C K dX11_putsBy_23
    · refine rf_aload_n C (n := 9) (q := 1) dX11_putsBy_8 rfl rfl rfl ?_
      refine rf_iload_n C (n := 10) (q := 2) dX11_putsBy_9 rfl rfl rfl ?_
      refine rf_aload_n C (n := 11) (q := 0) dX11_putsBy_10 rfl rfl rfl ?_
      refine rf_getS C (n := 14) fl_RX11_140 ly_96 rfl dX11_putsBy_11 rfl ?_
      refine rf_iload_n C (n := 15) (q := 2) dX11_putsBy_14 rfl rfl rfl ?_
      refine rf_guard (fun h2 => ?_)
      refine rf_iald C (n := 16) ly_114 h2 rfl dX11_putsBy_15 rfl ?_
      refine rf_guard (fun h3 => ?_)
      refine rf_iast C (n := 17) ly_115 h3 rfl dX11_putsBy_16 rfl ?_
      refine rf_letM (fun m4 => ?_)
      refine rf_iinc2 C (n := 20) (q := 2) (fun y5 => [(2, .int y5), (0, hA G 96), (1, hA G 115)]) dX11_putsBy_17 rfl rfl (by decide) (by decide) (fun _ => rfl) (fun y5 => ?_)
      refine rf_goto C (n := 2) dX11_putsBy_20 (by decide) ?_
      exact rf_lv _ [1, 2, 0] rfl (ih _ _)
noncomputable def f_X11_putsBy (fu : Nat) (m : hM) : Option (Unit × hM) :=
  f_X11_putsBy_2 fu fu 0 m
set_option maxRecDepth 100000 in
set_option maxHeartbeats 4000000 in
theorem c_X11_putsBy (G : hG) (fu : Nat) (m : hM) : Mt vU G 1 yX11_putsBy cX11_putsBy 3 none [hA G 96, hA G 115] m (f_X11_putsBy fu m) := by
  refine mt_of (by decide +kernel) (Nat.le_of_ble_eq_true rfl) (fun X C K => ?_)
  have C : Cx G X 1 cX11_putsBy 3 RX11 none := C
  show Rf vU G X 0 [(0, hA G 96), (1, hA G 115)] [] m _
  unfold f_X11_putsBy
  refine rf_iconst C (n := 1) (v := 0) dX11_putsBy_0 rfl (by decide) ?_
  refine rf_istore_n C (n := 2) [(2, .int 0), (0, hA G 96), (1, hA G 115)] dX11_putsBy_1 rfl rfl (by decide) rfl ?_
  exact rf_lv _ [1, 2, 0] rfl (r_X11_putsBy_2 C K fu fu _ _)
noncomputable def s_X11_takesBack_2 (fu : Nat) (ih : Int32 → hM → Option (Unit × hM)) (x2 : Int32) (m : hM) : Option (Unit × hM) :=
  if 127 ≤ x2 then (
some ((), m)) else (
if hIn x2 127 then (
if hIn x2 127 then (
hLet (sI m 114 (Int32.toNatClampNeg x2) (gI m 115 (Int32.toNatClampNeg x2))) fun m4 =>
hLet (x2 + 1) fun y5 =>
ih y5 m4) else none) else none)
noncomputable def f_X11_takesBack_2 (fu : Nat) (n : Nat) : Int32 → hM → Option (Unit × hM) :=
  Nat.rec (motive := fun _ => Int32 → hM → Option (Unit × hM)) (fun _ _ => none) (fun _ ih => s_X11_takesBack_2 fu ih) n
theorem f_X11_takesBack_2_s (fu : Nat) (n : Nat) (x2 : Int32) (m : hM) : f_X11_takesBack_2 fu (n + 1) x2 m = s_X11_takesBack_2 fu (f_X11_takesBack_2 fu n) x2 m := rfl
set_option maxRecDepth 100000 in
set_option maxHeartbeats 4000000 in
theorem r_X11_takesBack_2 {G : hG} {X : hX} (C : Cx G X 1 cX11_takesBack 3 RX11 none) (K : Cr G X) (fu : Nat) (n : Nat) : ∀ (x2 : Int32) (m : hM), Rf vU G X 2 [(0, hA G 96), (1, hA G 115), (2, .int x2)] [] m (f_X11_takesBack_2 fu n x2 m) := by
  induction n with
  | zero => intros; exact rf_none
  | succ n ih =>
    intro x2 m
    show Rf vU G X 2 [(0, hA G 96), (1, hA G 115), (2, .int x2)] [] m (s_X11_takesBack_2 fu (f_X11_takesBack_2 fu n) x2 m)
    unfold s_X11_takesBack_2
    refine rf_iload_n C (n := 3) (q := 2) dX11_takesBack_2 rfl rfl rfl ?_
    refine rf_bipush C (n := 5) (v := 127) dX11_takesBack_3 rfl (by decide) ?_
    refine rf_icmp_ge C (tgt := 23) (n := 8) dX11_takesBack_5 (by decide) rfl (fun h1 => ?_) (fun h1 => ?_)
    · exact rf_vret C K dX11_takesBack_23
    · refine rf_aload_n C (n := 9) (q := 0) dX11_takesBack_8 rfl rfl rfl ?_
      refine rf_getS C (n := 12) fl_RX11_140 ly_96 rfl dX11_takesBack_9 rfl ?_
      refine rf_iload_n C (n := 13) (q := 2) dX11_takesBack_12 rfl rfl rfl ?_
      refine rf_aload_n C (n := 14) (q := 1) dX11_takesBack_13 rfl rfl rfl ?_
      refine rf_iload_n C (n := 15) (q := 2) dX11_takesBack_14 rfl rfl rfl ?_
      refine rf_guard (fun h2 => ?_)
      refine rf_iald C (n := 16) ly_115 h2 rfl dX11_takesBack_15 rfl ?_
      refine rf_guard (fun h3 => ?_)
      refine rf_iast C (n := 17) ly_114 h3 rfl dX11_takesBack_16 rfl ?_
      refine rf_letM (fun m4 => ?_)
      refine rf_iinc2 C (n := 20) (q := 2) (fun y5 => [(2, .int y5), (0, hA G 96), (1, hA G 115)]) dX11_takesBack_17 rfl rfl (by decide) (by decide) (fun _ => rfl) (fun y5 => ?_)
      refine rf_goto C (n := 2) dX11_takesBack_20 (by decide) ?_
      exact rf_lv _ [1, 2, 0] rfl (ih _ _)
noncomputable def f_X11_takesBack (fu : Nat) (m : hM) : Option (Unit × hM) :=
  f_X11_takesBack_2 fu fu 0 m
set_option maxRecDepth 100000 in
set_option maxHeartbeats 4000000 in
theorem c_X11_takesBack (G : hG) (fu : Nat) (m : hM) : Mt vU G 1 yX11_takesBack cX11_takesBack 3 none [hA G 96, hA G 115] m (f_X11_takesBack fu m) := by
  refine mt_of (by decide +kernel) (Nat.le_of_ble_eq_true rfl) (fun X C K => ?_)
  have C : Cx G X 1 cX11_takesBack 3 RX11 none := C
  show Rf vU G X 0 [(0, hA G 96), (1, hA G 115)] [] m _
  unfold f_X11_takesBack
  refine rf_iconst C (n := 1) (v := 0) dX11_takesBack_0 rfl (by decide) ?_
  refine rf_istore_n C (n := 2) [(2, .int 0), (0, hA G 96), (1, hA G 115)] dX11_takesBack_1 rfl rfl (by decide) rfl ?_
  exact rf_lv _ [1, 2, 0] rfl (r_X11_takesBack_2 C K fu fu _ _)
noncomputable def f_X11_lays (fu : Nat) (x1 : Int32) (m : hM) : Option (Unit × hM) :=
  if hIn x1 8 then (
if hIn (3 + x1) 127 then (
hLet (sI m 114 (Int32.toNatClampNeg (3 + x1)) (gI m 111 (Int32.toNatClampNeg x1))) fun m3 =>
if hIn x1 8 then (
if hIn (11 + x1) 127 then (
hLet (sI m3 114 (Int32.toNatClampNeg (11 + x1)) (gI m3 109 (Int32.toNatClampNeg x1))) fun m6 =>
if hIn (19 + x1) 127 then (
hLet (sI m6 114 (Int32.toNatClampNeg (19 + x1)) 0) fun m8 =>
if hIn (27 + x1) 127 then (
hLet (sI m8 114 (Int32.toNatClampNeg (27 + x1)) 0) fun m10 =>
if hIn (35 + x1) 127 then (
hLet (sI m10 114 (Int32.toNatClampNeg (35 + x1)) (-1)) fun m12 =>
if hIn (43 + x1) 127 then (
hLet (sI m12 114 (Int32.toNatClampNeg (43 + x1)) 0) fun m14 =>
if hIn (51 + x1) 127 then (
hLet (sI m14 114 (Int32.toNatClampNeg (51 + x1)) 0) fun m16 =>
if hIn (59 + x1) 127 then (
hLet (sI m16 114 (Int32.toNatClampNeg (59 + x1)) 0) fun m18 =>
some ((), m18)) else none) else none) else none) else none) else none) else none) else none) else none) else none) else none
set_option maxRecDepth 100000 in
set_option maxHeartbeats 4000000 in
theorem c_X11_lays (G : hG) (fu : Nat) (x1 : Int32) (m : hM) : Mt vU G 1 yX11_lays cX11_lays 2 none [hA G 96, .int x1] m (f_X11_lays fu x1 m) := by
  refine mt_of (by decide +kernel) (Nat.le_of_ble_eq_true rfl) (fun X C K => ?_)
  have C : Cx G X 1 cX11_lays 2 RX11 none := C
  show Rf vU G X 0 [(0, hA G 96), (1, .int x1)] [] m _
  unfold f_X11_lays
  refine rf_aload_n C (n := 1) (q := 0) dX11_lays_0 rfl rfl rfl ?_
  refine rf_getS C (n := 4) fl_RX11_140 ly_96 rfl dX11_lays_1 rfl ?_
  refine rf_iconst C (n := 5) (v := 3) dX11_lays_4 rfl (by decide) ?_
  refine rf_iload_n C (n := 6) (q := 1) dX11_lays_5 rfl rfl rfl ?_
  refine rf_iadd C (n := 7) dX11_lays_6 rfl ?_
  refine rf_aload_n C (n := 8) (q := 0) dX11_lays_7 rfl rfl rfl ?_
  refine rf_getS C (n := 11) fl_RX11_143 ly_96 rfl dX11_lays_8 rfl ?_
  refine rf_iload_n C (n := 12) (q := 1) dX11_lays_11 rfl rfl rfl ?_
  refine rf_guard (fun h1 => ?_)
  refine rf_iald C (n := 13) ly_111 h1 rfl dX11_lays_12 rfl ?_
  refine rf_guard (fun h2 => ?_)
  refine rf_iast C (n := 14) ly_114 h2 rfl dX11_lays_13 rfl ?_
  refine rf_letM (fun m3 => ?_)
  refine rf_aload_n C (n := 15) (q := 0) dX11_lays_14 rfl rfl rfl ?_
  refine rf_getS C (n := 18) fl_RX11_140 ly_96 rfl dX11_lays_15 rfl ?_
  refine rf_bipush C (n := 20) (v := 11) dX11_lays_18 rfl (by decide) ?_
  refine rf_iload_n C (n := 21) (q := 1) dX11_lays_20 rfl rfl rfl ?_
  refine rf_iadd C (n := 22) dX11_lays_21 rfl ?_
  refine rf_aload_n C (n := 23) (q := 0) dX11_lays_22 rfl rfl rfl ?_
  refine rf_getS C (n := 26) fl_RX11_146 ly_96 rfl dX11_lays_23 rfl ?_
  refine rf_iload_n C (n := 27) (q := 1) dX11_lays_26 rfl rfl rfl ?_
  refine rf_guard (fun h4 => ?_)
  refine rf_iald C (n := 28) ly_109 h4 rfl dX11_lays_27 rfl ?_
  refine rf_guard (fun h5 => ?_)
  refine rf_iast C (n := 29) ly_114 h5 rfl dX11_lays_28 rfl ?_
  refine rf_letM (fun m6 => ?_)
  refine rf_aload_n C (n := 30) (q := 0) dX11_lays_29 rfl rfl rfl ?_
  refine rf_getS C (n := 33) fl_RX11_140 ly_96 rfl dX11_lays_30 rfl ?_
  refine rf_bipush C (n := 35) (v := 19) dX11_lays_33 rfl (by decide) ?_
  refine rf_iload_n C (n := 36) (q := 1) dX11_lays_35 rfl rfl rfl ?_
  refine rf_iadd C (n := 37) dX11_lays_36 rfl ?_
  refine rf_iconst C (n := 38) (v := 0) dX11_lays_37 rfl (by decide) ?_
  refine rf_guard (fun h7 => ?_)
  refine rf_iast C (n := 39) ly_114 h7 rfl dX11_lays_38 rfl ?_
  refine rf_letM (fun m8 => ?_)
  refine rf_aload_n C (n := 40) (q := 0) dX11_lays_39 rfl rfl rfl ?_
  refine rf_getS C (n := 43) fl_RX11_140 ly_96 rfl dX11_lays_40 rfl ?_
  refine rf_bipush C (n := 45) (v := 27) dX11_lays_43 rfl (by decide) ?_
  refine rf_iload_n C (n := 46) (q := 1) dX11_lays_45 rfl rfl rfl ?_
  refine rf_iadd C (n := 47) dX11_lays_46 rfl ?_
  refine rf_iconst C (n := 48) (v := 0) dX11_lays_47 rfl (by decide) ?_
  refine rf_guard (fun h9 => ?_)
  refine rf_iast C (n := 49) ly_114 h9 rfl dX11_lays_48 rfl ?_
  refine rf_letM (fun m10 => ?_)
  refine rf_aload_n C (n := 50) (q := 0) dX11_lays_49 rfl rfl rfl ?_
  refine rf_getS C (n := 53) fl_RX11_140 ly_96 rfl dX11_lays_50 rfl ?_
  refine rf_bipush C (n := 55) (v := 35) dX11_lays_53 rfl (by decide) ?_
  refine rf_iload_n C (n := 56) (q := 1) dX11_lays_55 rfl rfl rfl ?_
  refine rf_iadd C (n := 57) dX11_lays_56 rfl ?_
  refine rf_iconst C (n := 58) (v := (-1)) dX11_lays_57 rfl (by decide) ?_
  refine rf_guard (fun h11 => ?_)
  refine rf_iast C (n := 59) ly_114 h11 rfl dX11_lays_58 rfl ?_
  refine rf_letM (fun m12 => ?_)
  refine rf_aload_n C (n := 60) (q := 0) dX11_lays_59 rfl rfl rfl ?_
  refine rf_getS C (n := 63) fl_RX11_140 ly_96 rfl dX11_lays_60 rfl ?_
  refine rf_bipush C (n := 65) (v := 43) dX11_lays_63 rfl (by decide) ?_
  refine rf_iload_n C (n := 66) (q := 1) dX11_lays_65 rfl rfl rfl ?_
  refine rf_iadd C (n := 67) dX11_lays_66 rfl ?_
  refine rf_iconst C (n := 68) (v := 0) dX11_lays_67 rfl (by decide) ?_
  refine rf_guard (fun h13 => ?_)
  refine rf_iast C (n := 69) ly_114 h13 rfl dX11_lays_68 rfl ?_
  refine rf_letM (fun m14 => ?_)
  refine rf_aload_n C (n := 70) (q := 0) dX11_lays_69 rfl rfl rfl ?_
  refine rf_getS C (n := 73) fl_RX11_140 ly_96 rfl dX11_lays_70 rfl ?_
  refine rf_bipush C (n := 75) (v := 51) dX11_lays_73 rfl (by decide) ?_
  refine rf_iload_n C (n := 76) (q := 1) dX11_lays_75 rfl rfl rfl ?_
  refine rf_iadd C (n := 77) dX11_lays_76 rfl ?_
  refine rf_iconst C (n := 78) (v := 0) dX11_lays_77 rfl (by decide) ?_
  refine rf_guard (fun h15 => ?_)
  refine rf_iast C (n := 79) ly_114 h15 rfl dX11_lays_78 rfl ?_
  refine rf_letM (fun m16 => ?_)
  refine rf_aload_n C (n := 80) (q := 0) dX11_lays_79 rfl rfl rfl ?_
  refine rf_getS C (n := 83) fl_RX11_140 ly_96 rfl dX11_lays_80 rfl ?_
  refine rf_bipush C (n := 85) (v := 59) dX11_lays_83 rfl (by decide) ?_
  refine rf_iload_n C (n := 86) (q := 1) dX11_lays_85 rfl rfl rfl ?_
  refine rf_iadd C (n := 87) dX11_lays_86 rfl ?_
  refine rf_iconst C (n := 88) (v := 0) dX11_lays_87 rfl (by decide) ?_
  refine rf_guard (fun h17 => ?_)
  refine rf_iast C (n := 89) ly_114 h17 rfl dX11_lays_88 rfl ?_
  refine rf_letM (fun m18 => ?_)
  exact rf_vret C K dX11_lays_89
