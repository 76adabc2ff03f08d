theorem dX10_begunAt_0 : decode cX10_begunAt 0 = .ok (.aload_n 0, 1) := by decide +kernel
theorem dX10_begunAt_1 : decode cX10_begunAt 1 = .ok (.getfield 69, 3) := by decide +kernel
theorem dX10_begunAt_4 : decode cX10_begunAt 4 = .ok (.aload_n 0, 1) := by decide +kernel
theorem dX10_begunAt_5 : decode cX10_begunAt 5 = .ok (.getfield 19, 3) := by decide +kernel
theorem dX10_begunAt_8 : decode cX10_begunAt 8 = .ok (.iload_n 1, 1) := by decide +kernel
theorem dX10_begunAt_9 : decode cX10_begunAt 9 = .ok (.invokevirtual 225, 3) := by decide +kernel
theorem dX10_begunAt_12 : decode cX10_begunAt 12 = .ok (.aload_n 0, 1) := by decide +kernel
theorem dX10_begunAt_13 : decode cX10_begunAt 13 = .ok (.getfield 69, 3) := by decide +kernel
theorem dX10_begunAt_16 : decode cX10_begunAt 16 = .ok (.areturn, 1) := by decide +kernel
theorem dX10_houseTrial_0 : decode cX10_houseTrial 0 = .ok (.aload_n 0, 1) := by decide +kernel
theorem dX10_houseTrial_1 : decode cX10_houseTrial 1 = .ok (.getfield 12, 3) := by decide +kernel
theorem dX10_houseTrial_4 : decode cX10_houseTrial 4 = .ok (.getfield 95, 3) := by decide +kernel
theorem dX10_houseTrial_7 : decode cX10_houseTrial 7 = .ok (.iconst 1, 1) := by decide +kernel
theorem dX10_houseTrial_8 : decode cX10_houseTrial 8 = .ok (.if_icmp .ge 4, 3) := by decide +kernel
theorem dX10_houseTrial_11 : decode cX10_houseTrial 11 = .ok (.return_, 1) := by decide +kernel
theorem dX10_houseTrial_12 : decode cX10_houseTrial 12 = .ok (.iload_n 2, 1) := by decide +kernel
theorem dX10_houseTrial_13 : decode cX10_houseTrial 13 = .ok (.istore_n 3, 1) := by decide +kernel
theorem dX10_houseTrial_14 : decode cX10_houseTrial 14 = .ok (.bipush 7, 2) := by decide +kernel
theorem dX10_houseTrial_16 : decode cX10_houseTrial 16 = .ok (.istore 4, 2) := by decide +kernel
theorem dX10_houseTrial_18 : decode cX10_houseTrial 18 = .ok (.iload 4, 2) := by decide +kernel
theorem dX10_houseTrial_20 : decode cX10_houseTrial 20 = .ok (.ifCond .lt 48, 3) := by decide +kernel
theorem dX10_houseTrial_23 : decode cX10_houseTrial 23 = .ok (.iload_n 1, 1) := by decide +kernel
theorem dX10_houseTrial_24 : decode cX10_houseTrial 24 = .ok (.iload 4, 2) := by decide +kernel
theorem dX10_houseTrial_26 : decode cX10_houseTrial 26 = .ok (.ishr, 1) := by decide +kernel
theorem dX10_houseTrial_27 : decode cX10_houseTrial 27 = .ok (.iconst 1, 1) := by decide +kernel
theorem dX10_houseTrial_28 : decode cX10_houseTrial 28 = .ok (.iand, 1) := by decide +kernel
theorem dX10_houseTrial_29 : decode cX10_houseTrial 29 = .ok (.iconst 1, 1) := by decide +kernel
theorem dX10_houseTrial_30 : decode cX10_houseTrial 30 = .ok (.if_icmp .ne 32, 3) := by decide +kernel
theorem dX10_houseTrial_33 : decode cX10_houseTrial 33 = .ok (.aload_n 0, 1) := by decide +kernel
theorem dX10_houseTrial_34 : decode cX10_houseTrial 34 = .ok (.getfield 69, 3) := by decide +kernel
theorem dX10_houseTrial_37 : decode cX10_houseTrial 37 = .ok (.getfield 232, 3) := by decide +kernel
theorem dX10_houseTrial_40 : decode cX10_houseTrial 40 = .ok (.iload 4, 2) := by decide +kernel
theorem dX10_houseTrial_42 : decode cX10_houseTrial 42 = .ok (.iload_n 3, 1) := by decide +kernel
theorem dX10_houseTrial_43 : decode cX10_houseTrial 43 = .ok (.aload_n 0, 1) := by decide +kernel
theorem dX10_houseTrial_44 : decode cX10_houseTrial 44 = .ok (.getfield 12, 3) := by decide +kernel
theorem dX10_houseTrial_47 : decode cX10_houseTrial 47 = .ok (.getfield 95, 3) := by decide +kernel
theorem dX10_houseTrial_50 : decode cX10_houseTrial 50 = .ok (.irem, 1) := by decide +kernel
theorem dX10_houseTrial_51 : decode cX10_houseTrial 51 = .ok (.iastore, 1) := by decide +kernel
theorem dX10_houseTrial_52 : decode cX10_houseTrial 52 = .ok (.iload_n 3, 1) := by decide +kernel
theorem dX10_houseTrial_53 : decode cX10_houseTrial 53 = .ok (.aload_n 0, 1) := by decide +kernel
theorem dX10_houseTrial_54 : decode cX10_houseTrial 54 = .ok (.getfield 12, 3) := by decide +kernel
theorem dX10_houseTrial_57 : decode cX10_houseTrial 57 = .ok (.getfield 95, 3) := by decide +kernel
theorem dX10_houseTrial_60 : decode cX10_houseTrial 60 = .ok (.idiv, 1) := by decide +kernel
theorem dX10_houseTrial_61 : decode cX10_houseTrial 61 = .ok (.istore_n 3, 1) := by decide +kernel
theorem dX10_houseTrial_62 : decode cX10_houseTrial 62 = .ok (.iinc 4 (-1), 3) := by decide +kernel
theorem dX10_houseTrial_65 : decode cX10_houseTrial 65 = .ok (.goto (-47), 3) := by decide +kernel
theorem dX10_houseTrial_68 : decode cX10_houseTrial 68 = .ok (.return_, 1) := by decide +kernel
theorem dX10_tellHomes_0 : decode cX10_tellHomes 0 = .ok (.aload_n 0, 1) := by decide +kernel
theorem dX10_tellHomes_1 : decode cX10_tellHomes 1 = .ok (.getfield 83, 3) := by decide +kernel
theorem dX10_tellHomes_4 : decode cX10_tellHomes 4 = .ok (.invokevirtual 170, 3) := by decide +kernel
theorem dX10_tellHomes_7 : decode cX10_tellHomes 7 = .ok (.iconst 0, 1) := by decide +kernel
theorem dX10_tellHomes_8 : decode cX10_tellHomes 8 = .ok (.istore_n 2, 1) := by decide +kernel
theorem dX10_tellHomes_9 : decode cX10_tellHomes 9 = .ok (.iload_n 2, 1) := by decide +kernel
theorem dX10_tellHomes_10 : decode cX10_tellHomes 10 = .ok (.bipush 8, 2) := by decide +kernel
theorem dX10_tellHomes_12 : decode cX10_tellHomes 12 = .ok (.if_icmp .ge 35, 3) := by decide +kernel
theorem dX10_tellHomes_15 : decode cX10_tellHomes 15 = .ok (.iload_n 1, 1) := by decide +kernel
theorem dX10_tellHomes_16 : decode cX10_tellHomes 16 = .ok (.iload_n 2, 1) := by decide +kernel
theorem dX10_tellHomes_17 : decode cX10_tellHomes 17 = .ok (.ishr, 1) := by decide +kernel
theorem dX10_tellHomes_18 : decode cX10_tellHomes 18 = .ok (.iconst 1, 1) := by decide +kernel
theorem dX10_tellHomes_19 : decode cX10_tellHomes 19 = .ok (.iand, 1) := by decide +kernel
theorem dX10_tellHomes_20 : decode cX10_tellHomes 20 = .ok (.iconst 1, 1) := by decide +kernel
theorem dX10_tellHomes_21 : decode cX10_tellHomes 21 = .ok (.if_icmp .ne 20, 3) := by decide +kernel
theorem dX10_tellHomes_24 : decode cX10_tellHomes 24 = .ok (.aload_n 0, 1) := by decide +kernel
theorem dX10_tellHomes_25 : decode cX10_tellHomes 25 = .ok (.getfield 83, 3) := by decide +kernel
theorem dX10_tellHomes_28 : decode cX10_tellHomes 28 = .ok (.aload_n 0, 1) := by decide +kernel
theorem dX10_tellHomes_29 : decode cX10_tellHomes 29 = .ok (.getfield 69, 3) := by decide +kernel
theorem dX10_tellHomes_32 : decode cX10_tellHomes 32 = .ok (.getfield 232, 3) := by decide +kernel
theorem dX10_tellHomes_35 : decode cX10_tellHomes 35 = .ok (.iload_n 2, 1) := by decide +kernel
theorem dX10_tellHomes_36 : decode cX10_tellHomes 36 = .ok (.iaload, 1) := by decide +kernel
theorem dX10_tellHomes_37 : decode cX10_tellHomes 37 = .ok (.i2l, 1) := by decide +kernel
theorem dX10_tellHomes_38 : decode cX10_tellHomes 38 = .ok (.invokevirtual 173, 3) := by decide +kernel
theorem dX10_tellHomes_41 : decode cX10_tellHomes 41 = .ok (.iinc 2 1, 3) := by decide +kernel
theorem dX10_tellHomes_44 : decode cX10_tellHomes 44 = .ok (.goto (-35), 3) := by decide +kernel
theorem dX10_tellHomes_47 : decode cX10_tellHomes 47 = .ok (.return_, 1) := by decide +kernel
theorem dX10_homes_0 : decode cX10_homes 0 = .ok (.iload_n 1, 1) := by decide +kernel
theorem dX10_homes_1 : decode cX10_homes 1 = .ok (.invokestatic 158, 3) := by decide +kernel
theorem dX10_homes_4 : decode cX10_homes 4 = .ok (.istore_n 3, 1) := by decide +kernel
theorem dX10_homes_5 : decode cX10_homes 5 = .ok (.iload_n 1, 1) := by decide +kernel
theorem dX10_homes_6 : decode cX10_homes 6 = .ok (.ifCond .le 26, 3) := by decide +kernel
theorem dX10_homes_9 : decode cX10_homes 9 = .ok (.iload_n 1, 1) := by decide +kernel
theorem dX10_homes_10 : decode cX10_homes 10 = .ok (.aload_n 0, 1) := by decide +kernel
theorem dX10_homes_11 : decode cX10_homes 11 = .ok (.getfield 19, 3) := by decide +kernel
theorem dX10_homes_14 : decode cX10_homes 14 = .ok (.invokevirtual 287, 3) := by decide +kernel
theorem dX10_homes_17 : decode cX10_homes 17 = .ok (.if_icmp .gt 15, 3) := by decide +kernel
theorem dX10_homes_20 : decode cX10_homes 20 = .ok (.iload_n 3, 1) := by decide +kernel
theorem dX10_homes_21 : decode cX10_homes 21 = .ok (.iconst 4, 1) := by decide +kernel
theorem dX10_homes_22 : decode cX10_homes 22 = .ok (.if_icmp .gt 10, 3) := by decide +kernel
theorem dX10_homes_25 : decode cX10_homes 25 = .ok (.iload_n 2, 1) := by decide +kernel
theorem dX10_homes_26 : decode cX10_homes 26 = .ok (.invokestatic 119, 3) := by decide +kernel
theorem dX10_homes_29 : decode cX10_homes 29 = .ok (.ifCond .ne 5, 3) := by decide +kernel
theorem dX10_homes_32 : decode cX10_homes 32 = .ok (.iconst (-1), 1) := by decide +kernel
theorem dX10_homes_33 : decode cX10_homes 33 = .ok (.ireturn, 1) := by decide +kernel
theorem dX10_homes_34 : decode cX10_homes 34 = .ok (.iconst 1, 1) := by decide +kernel
theorem dX10_homes_35 : decode cX10_homes 35 = .ok (.istore 4, 2) := by decide +kernel
theorem dX10_homes_37 : decode cX10_homes 37 = .ok (.iconst 0, 1) := by decide +kernel
theorem dX10_homes_38 : decode cX10_homes 38 = .ok (.istore 5, 2) := by decide +kernel
theorem dX10_homes_40 : decode cX10_homes 40 = .ok (.iload 5, 2) := by decide +kernel
theorem dX10_homes_42 : decode cX10_homes 42 = .ok (.iload_n 3, 1) := by decide +kernel
theorem dX10_homes_43 : decode cX10_homes 43 = .ok (.if_icmp .ge 21, 3) := by decide +kernel
theorem dX10_homes_46 : decode cX10_homes 46 = .ok (.iload 4, 2) := by decide +kernel
theorem dX10_homes_48 : decode cX10_homes 48 = .ok (.aload_n 0, 1) := by decide +kernel
theorem dX10_homes_49 : decode cX10_homes 49 = .ok (.getfield 12, 3) := by decide +kernel
theorem dX10_homes_52 : decode cX10_homes 52 = .ok (.getfield 95, 3) := by decide +kernel
theorem dX10_homes_55 : decode cX10_homes 55 = .ok (.imul, 1) := by decide +kernel
theorem dX10_homes_56 : decode cX10_homes 56 = .ok (.istore 4, 2) := by decide +kernel
theorem dX10_homes_58 : decode cX10_homes 58 = .ok (.iinc 5 1, 3) := by decide +kernel
theorem dX10_homes_61 : decode cX10_homes 61 = .ok (.goto (-21), 3) := by decide +kernel
theorem dX10_homes_64 : decode cX10_homes 64 = .ok (.iconst (-1), 1) := by decide +kernel
theorem dX10_homes_65 : decode cX10_homes 65 = .ok (.istore 5, 2) := by decide +kernel
theorem dX10_homes_67 : decode cX10_homes 67 = .ok (.sipush 2400, 3) := by decide +kernel
theorem dX10_homes_70 : decode cX10_homes 70 = .ok (.istore 6, 2) := by decide +kernel
theorem dX10_homes_72 : decode cX10_homes 72 = .ok (.aload_n 0, 1) := by decide +kernel
theorem dX10_homes_73 : decode cX10_homes 73 = .ok (.getfield 42, 3) := by decide +kernel
theorem dX10_homes_76 : decode cX10_homes 76 = .ok (.iconst 0, 1) := by decide +kernel
theorem dX10_homes_77 : decode cX10_homes 77 = .ok (.putfield 318, 3) := by decide +kernel
theorem dX10_homes_80 : decode cX10_homes 80 = .ok (.iconst 0, 1) := by decide +kernel
theorem dX10_homes_81 : decode cX10_homes 81 = .ok (.istore 7, 2) := by decide +kernel
theorem dX10_homes_83 : decode cX10_homes 83 = .ok (.iload 7, 2) := by decide +kernel
theorem dX10_homes_85 : decode cX10_homes 85 = .ok (.iload 4, 2) := by decide +kernel
theorem dX10_homes_87 : decode cX10_homes 87 = .ok (.if_icmp .ge 54, 3) := by decide +kernel
theorem dX10_homes_90 : decode cX10_homes 90 = .ok (.aload_n 0, 1) := by decide +kernel
theorem dX10_homes_91 : decode cX10_homes 91 = .ok (.iload_n 2, 1) := by decide +kernel
theorem dX10_homes_92 : decode cX10_homes 92 = .ok (.invokevirtual 322, 3) := by decide +kernel
theorem dX10_homes_95 : decode cX10_homes 95 = .ok (.pop, 1) := by decide +kernel
theorem dX10_homes_96 : decode cX10_homes 96 = .ok (.aload_n 0, 1) := by decide +kernel
theorem dX10_homes_97 : decode cX10_homes 97 = .ok (.iload_n 1, 1) := by decide +kernel
theorem dX10_homes_98 : decode cX10_homes 98 = .ok (.iload 7, 2) := by decide +kernel
theorem dX10_homes_100 : decode cX10_homes 100 = .ok (.invokevirtual 326, 3) := by decide +kernel
theorem dX10_homes_103 : decode cX10_homes 103 = .ok (.aload_n 0, 1) := by decide +kernel
theorem dX10_homes_104 : decode cX10_homes 104 = .ok (.getfield 42, 3) := by decide +kernel
theorem dX10_homes_107 : decode cX10_homes 107 = .ok (.aload_n 0, 1) := by decide +kernel
theorem dX10_homes_108 : decode cX10_homes 108 = .ok (.getfield 69, 3) := by decide +kernel
theorem dX10_homes_111 : decode cX10_homes 111 = .ok (.iload 6, 2) := by decide +kernel
theorem dX10_homes_113 : decode cX10_homes 113 = .ok (.iconst 1, 1) := by decide +kernel
theorem dX10_homes_114 : decode cX10_homes 114 = .ok (.isub, 1) := by decide +kernel
theorem dX10_homes_115 : decode cX10_homes 115 = .ok (.invokevirtual 270, 3) := by decide +kernel
theorem dX10_homes_118 : decode cX10_homes 118 = .ok (.istore 8, 2) := by decide +kernel
theorem dX10_homes_120 : decode cX10_homes 120 = .ok (.iload 8, 2) := by decide +kernel
theorem dX10_homes_122 : decode cX10_homes 122 = .ok (.bipush (-2), 2) := by decide +kernel
theorem dX10_homes_124 : decode cX10_homes 124 = .ok (.if_icmp .eq 11, 3) := by decide +kernel
theorem dX10_homes_127 : decode cX10_homes 127 = .ok (.iload 7, 2) := by decide +kernel
theorem dX10_homes_129 : decode cX10_homes 129 = .ok (.istore 5, 2) := by decide +kernel
theorem dX10_homes_131 : decode cX10_homes 131 = .ok (.iload 8, 2) := by decide +kernel
theorem dX10_homes_133 : decode cX10_homes 133 = .ok (.istore 6, 2) := by decide +kernel
theorem dX10_homes_135 : decode cX10_homes 135 = .ok (.iinc 7 1, 3) := by decide +kernel
theorem dX10_homes_138 : decode cX10_homes 138 = .ok (.goto (-55), 3) := by decide +kernel
theorem dX10_homes_141 : decode cX10_homes 141 = .ok (.aload_n 0, 1) := by decide +kernel
theorem dX10_homes_142 : decode cX10_homes 142 = .ok (.getfield 42, 3) := by decide +kernel
theorem dX10_homes_145 : decode cX10_homes 145 = .ok (.iconst 1, 1) := by decide +kernel
theorem dX10_homes_146 : decode cX10_homes 146 = .ok (.putfield 318, 3) := by decide +kernel
theorem dX10_homes_149 : decode cX10_homes 149 = .ok (.iload 5, 2) := by decide +kernel
theorem dX10_homes_151 : decode cX10_homes 151 = .ok (.iconst (-1), 1) := by decide +kernel
theorem dX10_homes_152 : decode cX10_homes 152 = .ok (.if_icmp .ne 6, 3) := by decide +kernel
theorem dX10_homes_155 : decode cX10_homes 155 = .ok (.bipush (-2), 2) := by decide +kernel
theorem dX10_homes_157 : decode cX10_homes 157 = .ok (.ireturn, 1) := by decide +kernel
theorem dX10_homes_158 : decode cX10_homes 158 = .ok (.aload_n 0, 1) := by decide +kernel
theorem dX10_homes_159 : decode cX10_homes 159 = .ok (.iload_n 1, 1) := by decide +kernel
theorem dX10_homes_160 : decode cX10_homes 160 = .ok (.iload 5, 2) := by decide +kernel
theorem dX10_homes_162 : decode cX10_homes 162 = .ok (.invokevirtual 326, 3) := by decide +kernel
theorem dX10_homes_165 : decode cX10_homes 165 = .ok (.aload_n 0, 1) := by decide +kernel
theorem dX10_homes_166 : decode cX10_homes 166 = .ok (.iload_n 1, 1) := by decide +kernel
theorem dX10_homes_167 : decode cX10_homes 167 = .ok (.invokevirtual 329, 3) := by decide +kernel
theorem dX10_homes_170 : decode cX10_homes 170 = .ok (.iload 6, 2) := by decide +kernel
theorem dX10_homes_172 : decode cX10_homes 172 = .ok (.ireturn, 1) := by decide +kernel
theorem dX10_pair_0 : decode cX10_pair 0 = .ok (.aload_n 0, 1) := by decide +kernel
theorem dX10_pair_1 : decode cX10_pair 1 = .ok (.getfield 12, 3) := by decide +kernel
theorem dX10_pair_4 : decode cX10_pair 4 = .ok (.iload_n 1, 1) := by decide +kernel
theorem dX10_pair_5 : decode cX10_pair 5 = .ok (.invokevirtual 116, 3) := by decide +kernel
theorem dX10_pair_8 : decode cX10_pair 8 = .ok (.ifCond .eq 30, 3) := by decide +kernel
theorem dX10_pair_11 : decode cX10_pair 11 = .ok (.aload_n 0, 1) := by decide +kernel
theorem dX10_pair_12 : decode cX10_pair 12 = .ok (.getfield 12, 3) := by decide +kernel
theorem dX10_pair_15 : decode cX10_pair 15 = .ok (.iload_n 2, 1) := by decide +kernel
theorem dX10_pair_16 : decode cX10_pair 16 = .ok (.invokevirtual 116, 3) := by decide +kernel
theorem dX10_pair_19 : decode cX10_pair 19 = .ok (.ifCond .eq 19, 3) := by decide +kernel
theorem dX10_pair_22 : decode cX10_pair 22 = .ok (.iload_n 1, 1) := by decide +kernel
theorem dX10_pair_23 : decode cX10_pair 23 = .ok (.iload_n 2, 1) := by decide +kernel
theorem dX10_pair_24 : decode cX10_pair 24 = .ok (.if_icmp .eq 14, 3) := by decide +kernel
theorem dX10_pair_27 : decode cX10_pair 27 = .ok (.iload_n 3, 1) := by decide +kernel
theorem dX10_pair_28 : decode cX10_pair 28 = .ok (.iconst 1, 1) := by decide +kernel
theorem dX10_pair_29 : decode cX10_pair 29 = .ok (.if_icmp .lt 9, 3) := by decide +kernel
theorem dX10_pair_32 : decode cX10_pair 32 = .ok (.iload_n 3, 1) := by decide +kernel
theorem dX10_pair_33 : decode cX10_pair 33 = .ok (.bipush 99, 2) := by decide +kernel
theorem dX10_pair_35 : decode cX10_pair 35 = .ok (.if_icmp .le 5, 3) := by decide +kernel
theorem dX10_pair_38 : decode cX10_pair 38 = .ok (.iconst (-1), 1) := by decide +kernel
theorem dX10_pair_39 : decode cX10_pair 39 = .ok (.ireturn, 1) := by decide +kernel
theorem dX10_pair_40 : decode cX10_pair 40 = .ok (.aload_n 0, 1) := by decide +kernel
theorem dX10_pair_41 : decode cX10_pair 41 = .ok (.getfield 58, 3) := by decide +kernel
theorem dX10_pair_44 : decode cX10_pair 44 = .ok (.getfield 333, 3) := by decide +kernel
theorem dX10_pair_47 : decode cX10_pair 47 = .ok (.bipush 9, 2) := by decide +kernel
theorem dX10_pair_49 : decode cX10_pair 49 = .ok (.if_icmp .ge 15, 3) := by decide +kernel
theorem dX10_pair_52 : decode cX10_pair 52 = .ok (.aload_n 0, 1) := by decide +kernel
theorem dX10_pair_53 : decode cX10_pair 53 = .ok (.getfield 58, 3) := by decide +kernel
theorem dX10_pair_56 : decode cX10_pair 56 = .ok (.iload_n 1, 1) := by decide +kernel
theorem dX10_pair_57 : decode cX10_pair 57 = .ok (.iload_n 2, 1) := by decide +kernel
theorem dX10_pair_58 : decode cX10_pair 58 = .ok (.invokevirtual 334, 3) := by decide +kernel
theorem dX10_pair_61 : decode cX10_pair 61 = .ok (.ifCond .eq 5, 3) := by decide +kernel
theorem dX10_pair_64 : decode cX10_pair 64 = .ok (.iconst (-1), 1) := by decide +kernel
theorem dX10_pair_65 : decode cX10_pair 65 = .ok (.ireturn, 1) := by decide +kernel
theorem dX10_pair_66 : decode cX10_pair 66 = .ok (.aload_n 0, 1) := by decide +kernel
theorem dX10_pair_67 : decode cX10_pair 67 = .ok (.getfield 58, 3) := by decide +kernel
theorem dX10_pair_70 : decode cX10_pair 70 = .ok (.getfield 338, 3) := by decide +kernel
theorem dX10_pair_73 : decode cX10_pair 73 = .ok (.aload_n 0, 1) := by decide +kernel
theorem dX10_pair_74 : decode cX10_pair 74 = .ok (.getfield 58, 3) := by decide +kernel
theorem dX10_pair_77 : decode cX10_pair 77 = .ok (.getfield 333, 3) := by decide +kernel
theorem dX10_pair_80 : decode cX10_pair 80 = .ok (.iload_n 1, 1) := by decide +kernel
theorem dX10_pair_81 : decode cX10_pair 81 = .ok (.iastore, 1) := by decide +kernel
theorem dX10_pair_82 : decode cX10_pair 82 = .ok (.aload_n 0, 1) := by decide +kernel
theorem dX10_pair_83 : decode cX10_pair 83 = .ok (.getfield 58, 3) := by decide +kernel
theorem dX10_pair_86 : decode cX10_pair 86 = .ok (.getfield 341, 3) := by decide +kernel
theorem dX10_pair_89 : decode cX10_pair 89 = .ok (.aload_n 0, 1) := by decide +kernel
theorem dX10_pair_90 : decode cX10_pair 90 = .ok (.getfield 58, 3) := by decide +kernel
theorem dX10_pair_93 : decode cX10_pair 93 = .ok (.getfield 333, 3) := by decide +kernel
theorem dX10_pair_96 : decode cX10_pair 96 = .ok (.iload_n 2, 1) := by decide +kernel
theorem dX10_pair_97 : decode cX10_pair 97 = .ok (.iastore, 1) := by decide +kernel
theorem dX10_pair_98 : decode cX10_pair 98 = .ok (.aload_n 0, 1) := by decide +kernel
theorem dX10_pair_99 : decode cX10_pair 99 = .ok (.getfield 58, 3) := by decide +kernel
theorem dX10_pair_102 : decode cX10_pair 102 = .ok (.getfield 344, 3) := by decide +kernel
theorem dX10_pair_105 : decode cX10_pair 105 = .ok (.aload_n 0, 1) := by decide +kernel
theorem dX10_pair_106 : decode cX10_pair 106 = .ok (.getfield 58, 3) := by decide +kernel
theorem dX10_pair_109 : decode cX10_pair 109 = .ok (.getfield 333, 3) := by decide +kernel
theorem dX10_pair_112 : decode cX10_pair 112 = .ok (.iload_n 3, 1) := by decide +kernel
theorem dX10_pair_113 : decode cX10_pair 113 = .ok (.iastore, 1) := by decide +kernel
theorem dX10_pair_114 : decode cX10_pair 114 = .ok (.aload_n 0, 1) := by decide +kernel
theorem dX10_pair_115 : decode cX10_pair 115 = .ok (.getfield 58, 3) := by decide +kernel
theorem dX10_pair_118 : decode cX10_pair 118 = .ok (.dup, 1) := by decide +kernel
theorem dX10_pair_119 : decode cX10_pair 119 = .ok (.getfield 333, 3) := by decide +kernel
theorem dX10_pair_122 : decode cX10_pair 122 = .ok (.iconst 1, 1) := by decide +kernel
theorem dX10_pair_123 : decode cX10_pair 123 = .ok (.iadd, 1) := by decide +kernel
theorem dX10_pair_124 : decode cX10_pair 124 = .ok (.putfield 333, 3) := by decide +kernel
theorem dX10_pair_127 : decode cX10_pair 127 = .ok (.aload_n 0, 1) := by decide +kernel
theorem dX10_pair_128 : decode cX10_pair 128 = .ok (.getfield 58, 3) := by decide +kernel
theorem dX10_pair_131 : decode cX10_pair 131 = .ok (.getfield 333, 3) := by decide +kernel
theorem dX10_pair_134 : decode cX10_pair 134 = .ok (.ireturn, 1) := by decide +kernel
theorem dX10_whom_0 : decode cX10_whom 0 = .ok (.iload_n 1, 1) := by decide +kernel
theorem dX10_whom_1 : decode cX10_whom 1 = .ok (.ifCond .lt 27, 3) := by decide +kernel
theorem dX10_whom_4 : decode cX10_whom 4 = .ok (.iload_n 1, 1) := by decide +kernel
theorem dX10_whom_5 : decode cX10_whom 5 = .ok (.sipush 999, 3) := by decide +kernel
theorem dX10_whom_8 : decode cX10_whom 8 = .ok (.if_icmp .gt 20, 3) := by decide +kernel
theorem dX10_whom_11 : decode cX10_whom 11 = .ok (.iload_n 2, 1) := by decide +kernel
theorem dX10_whom_12 : decode cX10_whom 12 = .ok (.invokestatic 119, 3) := by decide +kernel
theorem dX10_whom_15 : decode cX10_whom 15 = .ok (.ifCond .eq 13, 3) := by decide +kernel
theorem dX10_whom_18 : decode cX10_whom 18 = .ok (.aload_n 0, 1) := by decide +kernel
theorem dX10_whom_19 : decode cX10_whom 19 = .ok (.getfield 19, 3) := by decide +kernel
theorem dX10_whom_22 : decode cX10_whom 22 = .ok (.getfield 177, 3) := by decide +kernel
theorem dX10_whom_25 : decode cX10_whom 25 = .ok (.ifCond .ne 5, 3) := by decide +kernel
theorem dX10_whom_28 : decode cX10_whom 28 = .ok (.iconst (-1), 1) := by decide +kernel
theorem dX10_whom_29 : decode cX10_whom 29 = .ok (.ireturn, 1) := by decide +kernel
theorem dX10_whom_30 : decode cX10_whom 30 = .ok (.iconst (-1), 1) := by decide +kernel
theorem dX10_whom_31 : decode cX10_whom 31 = .ok (.istore_n 3, 1) := by decide +kernel
theorem dX10_whom_32 : decode cX10_whom 32 = .ok (.sipush 2399, 3) := by decide +kernel
theorem dX10_whom_35 : decode cX10_whom 35 = .ok (.istore 4, 2) := by decide +kernel
theorem dX10_whom_37 : decode cX10_whom 37 = .ok (.iconst 0, 1) := by decide +kernel
theorem dX10_whom_38 : decode cX10_whom 38 = .ok (.istore 5, 2) := by decide +kernel
theorem dX10_whom_40 : decode cX10_whom 40 = .ok (.iconst 0, 1) := by decide +kernel
theorem dX10_whom_41 : decode cX10_whom 41 = .ok (.istore 6, 2) := by decide +kernel
theorem dX10_whom_43 : decode cX10_whom 43 = .ok (.iload 6, 2) := by decide +kernel
theorem dX10_whom_45 : decode cX10_whom 45 = .ok (.iconst 1, 1) := by decide +kernel
theorem dX10_whom_46 : decode cX10_whom 46 = .ok (.aload_n 0, 1) := by decide +kernel
theorem dX10_whom_47 : decode cX10_whom 47 = .ok (.getfield 58, 3) := by decide +kernel
theorem dX10_whom_50 : decode cX10_whom 50 = .ok (.getfield 333, 3) := by decide +kernel
theorem dX10_whom_53 : decode cX10_whom 53 = .ok (.ishl, 1) := by decide +kernel
theorem dX10_whom_54 : decode cX10_whom 54 = .ok (.if_icmp .ge 111, 3) := by decide +kernel
theorem dX10_whom_57 : decode cX10_whom 57 = .ok (.aload_n 0, 1) := by decide +kernel
theorem dX10_whom_58 : decode cX10_whom 58 = .ok (.getfield 58, 3) := by decide +kernel
theorem dX10_whom_61 : decode cX10_whom 61 = .ok (.iload 6, 2) := by decide +kernel
theorem dX10_whom_63 : decode cX10_whom 63 = .ok (.invokevirtual 347, 3) := by decide +kernel
theorem dX10_whom_66 : decode cX10_whom 66 = .ok (.istore 7, 2) := by decide +kernel
theorem dX10_whom_68 : decode cX10_whom 68 = .ok (.iload 7, 2) := by decide +kernel
theorem dX10_whom_70 : decode cX10_whom 70 = .ok (.iload_n 1, 1) := by decide +kernel
theorem dX10_whom_71 : decode cX10_whom 71 = .ok (.if_icmp .le 6, 3) := by decide +kernel
theorem dX10_whom_74 : decode cX10_whom 74 = .ok (.goto 85, 3) := by decide +kernel
theorem dX10_whom_77 : decode cX10_whom 77 = .ok (.aload_n 0, 1) := by decide +kernel
theorem dX10_whom_78 : decode cX10_whom 78 = .ok (.getfield 58, 3) := by decide +kernel
theorem dX10_whom_81 : decode cX10_whom 81 = .ok (.aload_n 0, 1) := by decide +kernel
theorem dX10_whom_82 : decode cX10_whom 82 = .ok (.getfield 12, 3) := by decide +kernel
theorem dX10_whom_85 : decode cX10_whom 85 = .ok (.iload 6, 2) := by decide +kernel
theorem dX10_whom_87 : decode cX10_whom 87 = .ok (.invokevirtual 350, 3) := by decide +kernel
theorem dX10_whom_90 : decode cX10_whom 90 = .ok (.aload_n 0, 1) := by decide +kernel
theorem dX10_whom_91 : decode cX10_whom 91 = .ok (.getfield 42, 3) := by decide +kernel
theorem dX10_whom_94 : decode cX10_whom 94 = .ok (.aload_n 0, 1) := by decide +kernel
theorem dX10_whom_95 : decode cX10_whom 95 = .ok (.iload_n 2, 1) := by decide +kernel
theorem dX10_whom_96 : decode cX10_whom 96 = .ok (.invokevirtual 322, 3) := by decide +kernel
theorem dX10_whom_99 : decode cX10_whom 99 = .ok (.iload 4, 2) := by decide +kernel
theorem dX10_whom_101 : decode cX10_whom 101 = .ok (.invokevirtual 270, 3) := by decide +kernel
theorem dX10_whom_104 : decode cX10_whom 104 = .ok (.istore 8, 2) := by decide +kernel
theorem dX10_whom_106 : decode cX10_whom 106 = .ok (.aload_n 0, 1) := by decide +kernel
theorem dX10_whom_107 : decode cX10_whom 107 = .ok (.getfield 58, 3) := by decide +kernel
theorem dX10_whom_110 : decode cX10_whom 110 = .ok (.aload_n 0, 1) := by decide +kernel
theorem dX10_whom_111 : decode cX10_whom 111 = .ok (.getfield 12, 3) := by decide +kernel
theorem dX10_whom_114 : decode cX10_whom 114 = .ok (.iload 6, 2) := by decide +kernel
theorem dX10_whom_116 : decode cX10_whom 116 = .ok (.invokevirtual 354, 3) := by decide +kernel
theorem dX10_whom_119 : decode cX10_whom 119 = .ok (.iload 8, 2) := by decide +kernel
theorem dX10_whom_121 : decode cX10_whom 121 = .ok (.bipush (-2), 2) := by decide +kernel
theorem dX10_whom_123 : decode cX10_whom 123 = .ok (.if_icmp .ne 6, 3) := by decide +kernel
theorem dX10_whom_126 : decode cX10_whom 126 = .ok (.goto 33, 3) := by decide +kernel
theorem dX10_whom_129 : decode cX10_whom 129 = .ok (.iload_n 3, 1) := by decide +kernel
theorem dX10_whom_130 : decode cX10_whom 130 = .ok (.iconst (-1), 1) := by decide +kernel
theorem dX10_whom_131 : decode cX10_whom 131 = .ok (.if_icmp .eq 17, 3) := by decide +kernel
theorem dX10_whom_134 : decode cX10_whom 134 = .ok (.iload 8, 2) := by decide +kernel
theorem dX10_whom_136 : decode cX10_whom 136 = .ok (.iload 4, 2) := by decide +kernel
theorem dX10_whom_138 : decode cX10_whom 138 = .ok (.if_icmp .lt 10, 3) := by decide +kernel
theorem dX10_whom_141 : decode cX10_whom 141 = .ok (.iload 7, 2) := by decide +kernel
theorem dX10_whom_143 : decode cX10_whom 143 = .ok (.iload 5, 2) := by decide +kernel
theorem dX10_whom_145 : decode cX10_whom 145 = .ok (.if_icmp .ge 14, 3) := by decide +kernel
theorem dX10_whom_148 : decode cX10_whom 148 = .ok (.iload 6, 2) := by decide +kernel
theorem dX10_whom_150 : decode cX10_whom 150 = .ok (.istore_n 3, 1) := by decide +kernel
theorem dX10_whom_151 : decode cX10_whom 151 = .ok (.iload 8, 2) := by decide +kernel
theorem dX10_whom_153 : decode cX10_whom 153 = .ok (.istore 4, 2) := by decide +kernel
theorem dX10_whom_155 : decode cX10_whom 155 = .ok (.iload 7, 2) := by decide +kernel
theorem dX10_whom_157 : decode cX10_whom 157 = .ok (.istore 5, 2) := by decide +kernel
theorem dX10_whom_159 : decode cX10_whom 159 = .ok (.iinc 6 1, 3) := by decide +kernel
theorem dX10_whom_162 : decode cX10_whom 162 = .ok (.goto (-119), 3) := by decide +kernel
theorem dX10_whom_165 : decode cX10_whom 165 = .ok (.iload_n 3, 1) := by decide +kernel
theorem dX10_whom_166 : decode cX10_whom 166 = .ok (.iconst (-1), 1) := by decide +kernel
theorem dX10_whom_167 : decode cX10_whom 167 = .ok (.if_icmp .ne 6, 3) := by decide +kernel
theorem dX10_whom_170 : decode cX10_whom 170 = .ok (.bipush (-2), 2) := by decide +kernel
theorem dX10_whom_172 : decode cX10_whom 172 = .ok (.ireturn, 1) := by decide +kernel
theorem dX10_whom_173 : decode cX10_whom 173 = .ok (.aload_n 0, 1) := by decide +kernel
theorem dX10_whom_174 : decode cX10_whom 174 = .ok (.getfield 83, 3) := by decide +kernel
theorem dX10_whom_177 : decode cX10_whom 177 = .ok (.invokevirtual 170, 3) := by decide +kernel
theorem dX10_whom_180 : decode cX10_whom 180 = .ok (.aload_n 0, 1) := by decide +kernel
theorem dX10_whom_181 : decode cX10_whom 181 = .ok (.getfield 83, 3) := by decide +kernel
theorem dX10_whom_184 : decode cX10_whom 184 = .ok (.iload_n 3, 1) := by decide +kernel
theorem dX10_whom_185 : decode cX10_whom 185 = .ok (.i2l, 1) := by decide +kernel
theorem dX10_whom_186 : decode cX10_whom 186 = .ok (.invokevirtual 173, 3) := by decide +kernel
theorem dX10_whom_189 : decode cX10_whom 189 = .ok (.aload_n 0, 1) := by decide +kernel
theorem dX10_whom_190 : decode cX10_whom 190 = .ok (.getfield 83, 3) := by decide +kernel
theorem dX10_whom_193 : decode cX10_whom 193 = .ok (.iload 5, 2) := by decide +kernel
theorem dX10_whom_195 : decode cX10_whom 195 = .ok (.i2l, 1) := by decide +kernel
theorem dX10_whom_196 : decode cX10_whom 196 = .ok (.invokevirtual 173, 3) := by decide +kernel
theorem dX10_whom_199 : decode cX10_whom 199 = .ok (.iload 4, 2) := by decide +kernel
theorem dX10_whom_201 : decode cX10_whom 201 = .ok (.ireturn, 1) := by decide +kernel
theorem dX10_later_0 : decode cX10_later 0 = .ok (.iload_n 0, 1) := by decide +kernel
theorem dX10_later_1 : decode cX10_later 1 = .ok (.bipush (-2), 2) := by decide +kernel
theorem dX10_later_3 : decode cX10_later 3 = .ok (.if_icmp .eq 9, 3) := by decide +kernel
theorem dX10_later_6 : decode cX10_later 6 = .ok (.iload_n 1, 1) := by decide +kernel
theorem dX10_later_7 : decode cX10_later 7 = .ok (.bipush (-2), 2) := by decide +kernel
theorem dX10_later_9 : decode cX10_later 9 = .ok (.if_icmp .ne 9, 3) := by decide +kernel
theorem dX10_later_12 : decode cX10_later 12 = .ok (.sipush (-9999), 3) := by decide +kernel
theorem dX10_later_15 : decode cX10_later 15 = .ok (.goto 6, 3) := by decide +kernel
theorem dX10_later_18 : decode cX10_later 18 = .ok (.iload_n 1, 1) := by decide +kernel
theorem dX10_later_19 : decode cX10_later 19 = .ok (.iload_n 0, 1) := by decide +kernel
theorem dX10_later_20 : decode cX10_later 20 = .ok (.isub, 1) := by decide +kernel
theorem dX10_later_21 : decode cX10_later 21 = .ok (.ireturn, 1) := by decide +kernel
theorem dX10_worth_0 : decode cX10_worth 0 = .ok (.iload_n 1, 1) := by decide +kernel
theorem dX10_worth_1 : decode cX10_worth 1 = .ok (.invokestatic 119, 3) := by decide +kernel
theorem dX10_worth_4 : decode cX10_worth 4 = .ok (.ifCond .eq 13, 3) := by decide +kernel
theorem dX10_worth_7 : decode cX10_worth 7 = .ok (.aload_n 0, 1) := by decide +kernel
theorem dX10_worth_8 : decode cX10_worth 8 = .ok (.getfield 19, 3) := by decide +kernel
theorem dX10_worth_11 : decode cX10_worth 11 = .ok (.getfield 177, 3) := by decide +kernel
theorem dX10_worth_14 : decode cX10_worth 14 = .ok (.ifCond .ne 5, 3) := by decide +kernel
theorem dX10_worth_17 : decode cX10_worth 17 = .ok (.iconst (-1), 1) := by decide +kernel
theorem dX10_worth_18 : decode cX10_worth 18 = .ok (.ireturn, 1) := by decide +kernel
theorem dX10_worth_19 : decode cX10_worth 19 = .ok (.aload_n 0, 1) := by decide +kernel
theorem dX10_worth_20 : decode cX10_worth 20 = .ok (.getfield 58, 3) := by decide +kernel
theorem dX10_worth_23 : decode cX10_worth 23 = .ok (.getfield 333, 3) := by decide +kernel
theorem dX10_worth_26 : decode cX10_worth 26 = .ok (.ifCond .ne 6, 3) := by decide +kernel
theorem dX10_worth_29 : decode cX10_worth 29 = .ok (.bipush (-2), 2) := by decide +kernel
theorem dX10_worth_31 : decode cX10_worth 31 = .ok (.ireturn, 1) := by decide +kernel
theorem dX10_worth_32 : decode cX10_worth 32 = .ok (.aload_n 0, 1) := by decide +kernel
theorem dX10_worth_33 : decode cX10_worth 33 = .ok (.getfield 42, 3) := by decide +kernel
theorem dX10_worth_36 : decode cX10_worth 36 = .ok (.aload_n 0, 1) := by decide +kernel
theorem dX10_worth_37 : decode cX10_worth 37 = .ok (.iload_n 1, 1) := by decide +kernel
theorem dX10_worth_38 : decode cX10_worth 38 = .ok (.invokevirtual 322, 3) := by decide +kernel
theorem dX10_worth_41 : decode cX10_worth 41 = .ok (.sipush 2399, 3) := by decide +kernel
theorem dX10_worth_44 : decode cX10_worth 44 = .ok (.invokevirtual 270, 3) := by decide +kernel
theorem dX10_worth_47 : decode cX10_worth 47 = .ok (.istore_n 2, 1) := by decide +kernel
theorem dX10_worth_48 : decode cX10_worth 48 = .ok (.iconst 0, 1) := by decide +kernel
theorem dX10_worth_49 : decode cX10_worth 49 = .ok (.istore_n 3, 1) := by decide +kernel
theorem dX10_worth_50 : decode cX10_worth 50 = .ok (.sipush (-9999), 3) := by decide +kernel
theorem dX10_worth_53 : decode cX10_worth 53 = .ok (.istore 4, 2) := by decide +kernel
theorem dX10_worth_55 : decode cX10_worth 55 = .ok (.aload_n 0, 1) := by decide +kernel
theorem dX10_worth_56 : decode cX10_worth 56 = .ok (.getfield 83, 3) := by decide +kernel
theorem dX10_worth_59 : decode cX10_worth 59 = .ok (.invokevirtual 170, 3) := by decide +kernel
theorem dX10_worth_62 : decode cX10_worth 62 = .ok (.iconst 0, 1) := by decide +kernel
theorem dX10_worth_63 : decode cX10_worth 63 = .ok (.istore 5, 2) := by decide +kernel
theorem dX10_worth_65 : decode cX10_worth 65 = .ok (.iload 5, 2) := by decide +kernel
theorem dX10_worth_67 : decode cX10_worth 67 = .ok (.aload_n 0, 1) := by decide +kernel
theorem dX10_worth_68 : decode cX10_worth 68 = .ok (.getfield 58, 3) := by decide +kernel
theorem dX10_worth_71 : decode cX10_worth 71 = .ok (.getfield 333, 3) := by decide +kernel
theorem dX10_worth_74 : decode cX10_worth 74 = .ok (.if_icmp .ge 88, 3) := by decide +kernel
theorem dX10_worth_77 : decode cX10_worth 77 = .ok (.aload_n 0, 1) := by decide +kernel
theorem dX10_worth_78 : decode cX10_worth 78 = .ok (.getfield 58, 3) := by decide +kernel
theorem dX10_worth_81 : decode cX10_worth 81 = .ok (.aload_n 0, 1) := by decide +kernel
theorem dX10_worth_82 : decode cX10_worth 82 = .ok (.getfield 12, 3) := by decide +kernel
theorem dX10_worth_85 : decode cX10_worth 85 = .ok (.iconst 1, 1) := by decide +kernel
theorem dX10_worth_86 : decode cX10_worth 86 = .ok (.iload 5, 2) := by decide +kernel
theorem dX10_worth_88 : decode cX10_worth 88 = .ok (.ishl, 1) := by decide +kernel
theorem dX10_worth_89 : decode cX10_worth 89 = .ok (.invokevirtual 350, 3) := by decide +kernel
theorem dX10_worth_92 : decode cX10_worth 92 = .ok (.aload_n 0, 1) := by decide +kernel
theorem dX10_worth_93 : decode cX10_worth 93 = .ok (.getfield 42, 3) := by decide +kernel
theorem dX10_worth_96 : decode cX10_worth 96 = .ok (.aload_n 0, 1) := by decide +kernel
theorem dX10_worth_97 : decode cX10_worth 97 = .ok (.iload_n 1, 1) := by decide +kernel
theorem dX10_worth_98 : decode cX10_worth 98 = .ok (.invokevirtual 322, 3) := by decide +kernel
theorem dX10_worth_101 : decode cX10_worth 101 = .ok (.sipush 2399, 3) := by decide +kernel
theorem dX10_worth_104 : decode cX10_worth 104 = .ok (.invokevirtual 270, 3) := by decide +kernel
theorem dX10_worth_107 : decode cX10_worth 107 = .ok (.istore 6, 2) := by decide +kernel
theorem dX10_worth_109 : decode cX10_worth 109 = .ok (.aload_n 0, 1) := by decide +kernel
theorem dX10_worth_110 : decode cX10_worth 110 = .ok (.getfield 58, 3) := by decide +kernel
theorem dX10_worth_113 : decode cX10_worth 113 = .ok (.aload_n 0, 1) := by decide +kernel
theorem dX10_worth_114 : decode cX10_worth 114 = .ok (.getfield 12, 3) := by decide +kernel
theorem dX10_worth_117 : decode cX10_worth 117 = .ok (.iconst 1, 1) := by decide +kernel
theorem dX10_worth_118 : decode cX10_worth 118 = .ok (.iload 5, 2) := by decide +kernel
theorem dX10_worth_120 : decode cX10_worth 120 = .ok (.ishl, 1) := by decide +kernel
theorem dX10_worth_121 : decode cX10_worth 121 = .ok (.invokevirtual 354, 3) := by decide +kernel
theorem dX10_worth_124 : decode cX10_worth 124 = .ok (.iload 6, 2) := by decide +kernel
theorem dX10_worth_126 : decode cX10_worth 126 = .ok (.iload_n 2, 1) := by decide +kernel
theorem dX10_worth_127 : decode cX10_worth 127 = .ok (.invokestatic 357, 3) := by decide +kernel
theorem dX10_worth_130 : decode cX10_worth 130 = .ok (.istore 7, 2) := by decide +kernel
theorem dX10_worth_132 : decode cX10_worth 132 = .ok (.aload_n 0, 1) := by decide +kernel
theorem dX10_worth_133 : decode cX10_worth 133 = .ok (.getfield 83, 3) := by decide +kernel
theorem dX10_worth_136 : decode cX10_worth 136 = .ok (.iload 7, 2) := by decide +kernel
theorem dX10_worth_138 : decode cX10_worth 138 = .ok (.i2l, 1) := by decide +kernel
theorem dX10_worth_139 : decode cX10_worth 139 = .ok (.invokevirtual 173, 3) := by decide +kernel
theorem dX10_worth_142 : decode cX10_worth 142 = .ok (.iload 7, 2) := by decide +kernel
theorem dX10_worth_144 : decode cX10_worth 144 = .ok (.iload 4, 2) := by decide +kernel
theorem dX10_worth_146 : decode cX10_worth 146 = .ok (.if_icmp .le 10, 3) := by decide +kernel
theorem dX10_worth_149 : decode cX10_worth 149 = .ok (.iload 5, 2) := by decide +kernel
theorem dX10_worth_151 : decode cX10_worth 151 = .ok (.istore_n 3, 1) := by decide +kernel
theorem dX10_worth_152 : decode cX10_worth 152 = .ok (.iload 7, 2) := by decide +kernel
theorem dX10_worth_154 : decode cX10_worth 154 = .ok (.istore 4, 2) := by decide +kernel
theorem dX10_worth_156 : decode cX10_worth 156 = .ok (.iinc 5 1, 3) := by decide +kernel
theorem dX10_worth_159 : decode cX10_worth 159 = .ok (.goto (-94), 3) := by decide +kernel
theorem dX10_worth_162 : decode cX10_worth 162 = .ok (.iload_n 3, 1) := by decide +kernel
theorem dX10_worth_163 : decode cX10_worth 163 = .ok (.ireturn, 1) := by decide +kernel
theorem dX10_mean_0 : decode cX10_mean 0 = .ok (.iload_n 1, 1) := by decide +kernel
theorem dX10_mean_1 : decode cX10_mean 1 = .ok (.iconst 1, 1) := by decide +kernel
theorem dX10_mean_2 : decode cX10_mean 2 = .ok (.if_icmp .lt 9, 3) := by decide +kernel
theorem dX10_mean_5 : decode cX10_mean 5 = .ok (.iload_n 1, 1) := by decide +kernel
theorem dX10_mean_6 : decode cX10_mean 6 = .ok (.bipush 99, 2) := by decide +kernel
theorem dX10_mean_8 : decode cX10_mean 8 = .ok (.if_icmp .le 5, 3) := by decide +kernel
theorem dX10_mean_11 : decode cX10_mean 11 = .ok (.iconst (-1), 1) := by decide +kernel
theorem dX10_mean_12 : decode cX10_mean 12 = .ok (.ireturn, 1) := by decide +kernel
theorem dX10_mean_13 : decode cX10_mean 13 = .ok (.lconst 0, 1) := by decide +kernel
theorem dX10_mean_14 : decode cX10_mean 14 = .ok (.lstore_n 2, 1) := by decide +kernel
theorem dX10_mean_15 : decode cX10_mean 15 = .ok (.iconst 0, 1) := by decide +kernel
theorem dX10_mean_16 : decode cX10_mean 16 = .ok (.istore 4, 2) := by decide +kernel
theorem dX10_mean_18 : decode cX10_mean 18 = .ok (.iload 4, 2) := by decide +kernel
theorem dX10_mean_20 : decode cX10_mean 20 = .ok (.aload_n 0, 1) := by decide +kernel
theorem dX10_mean_21 : decode cX10_mean 21 = .ok (.getfield 65, 3) := by decide +kernel
theorem dX10_mean_24 : decode cX10_mean 24 = .ok (.getfield 360, 3) := by decide +kernel
theorem dX10_mean_27 : decode cX10_mean 27 = .ok (.if_icmp .ge 23, 3) := by decide +kernel
theorem dX10_mean_30 : decode cX10_mean 30 = .ok (.lload_n 2, 1) := by decide +kernel
theorem dX10_mean_31 : decode cX10_mean 31 = .ok (.aload_n 0, 1) := by decide +kernel
theorem dX10_mean_32 : decode cX10_mean 32 = .ok (.getfield 65, 3) := by decide +kernel
theorem dX10_mean_35 : decode cX10_mean 35 = .ok (.getfield 368, 3) := by decide +kernel
theorem dX10_mean_38 : decode cX10_mean 38 = .ok (.iload 4, 2) := by decide +kernel
theorem dX10_mean_40 : decode cX10_mean 40 = .ok (.iaload, 1) := by decide +kernel
theorem dX10_mean_41 : decode cX10_mean 41 = .ok (.i2l, 1) := by decide +kernel
theorem dX10_mean_42 : decode cX10_mean 42 = .ok (.ladd, 1) := by decide +kernel
theorem dX10_mean_43 : decode cX10_mean 43 = .ok (.lstore_n 2, 1) := by decide +kernel
theorem dX10_mean_44 : decode cX10_mean 44 = .ok (.iinc 4 1, 3) := by decide +kernel
theorem dX10_mean_47 : decode cX10_mean 47 = .ok (.goto (-29), 3) := by decide +kernel
theorem dX10_mean_50 : decode cX10_mean 50 = .ok (.aload_n 0, 1) := by decide +kernel
theorem dX10_mean_51 : decode cX10_mean 51 = .ok (.getfield 83, 3) := by decide +kernel
theorem dX10_mean_54 : decode cX10_mean 54 = .ok (.invokevirtual 170, 3) := by decide +kernel
theorem dX10_mean_57 : decode cX10_mean 57 = .ok (.aload_n 0, 1) := by decide +kernel
theorem dX10_mean_58 : decode cX10_mean 58 = .ok (.getfield 83, 3) := by decide +kernel
theorem dX10_mean_61 : decode cX10_mean 61 = .ok (.lload_n 2, 1) := by decide +kernel
theorem dX10_mean_62 : decode cX10_mean 62 = .ok (.iload_n 1, 1) := by decide +kernel
theorem dX10_mean_63 : decode cX10_mean 63 = .ok (.i2l, 1) := by decide +kernel
theorem dX10_mean_64 : decode cX10_mean 64 = .ok (.lmul, 1) := by decide +kernel
theorem dX10_mean_65 : decode cX10_mean 65 = .ok (.ldc2_w 371, 3) := by decide +kernel
theorem dX10_mean_68 : decode cX10_mean 68 = .ok (.invokevirtual 373, 3) := by decide +kernel
theorem dX10_mean_71 : decode cX10_mean 71 = .ok (.aload_n 0, 1) := by decide +kernel
theorem dX10_mean_72 : decode cX10_mean 72 = .ok (.getfield 65, 3) := by decide +kernel
theorem dX10_mean_75 : decode cX10_mean 75 = .ok (.getfield 360, 3) := by decide +kernel
theorem dX10_mean_78 : decode cX10_mean 78 = .ok (.ireturn, 1) := by decide +kernel
theorem dX10_riskiest_0 : decode cX10_riskiest 0 = .ok (.aload_n 0, 1) := by decide +kernel
theorem dX10_riskiest_1 : decode cX10_riskiest 1 = .ok (.getfield 65, 3) := by decide +kernel
theorem dX10_riskiest_4 : decode cX10_riskiest 4 = .ok (.getfield 360, 3) := by decide +kernel
theorem dX10_riskiest_7 : decode cX10_riskiest 7 = .ok (.ifCond .ne 6, 3) := by decide +kernel
theorem dX10_riskiest_10 : decode cX10_riskiest 10 = .ok (.bipush (-2), 2) := by decide +kernel
theorem dX10_riskiest_12 : decode cX10_riskiest 12 = .ok (.ireturn, 1) := by decide +kernel
theorem dX10_riskiest_13 : decode cX10_riskiest 13 = .ok (.iconst 0, 1) := by decide +kernel
theorem dX10_riskiest_14 : decode cX10_riskiest 14 = .ok (.istore_n 1, 1) := by decide +kernel
theorem dX10_riskiest_15 : decode cX10_riskiest 15 = .ok (.iconst 1, 1) := by decide +kernel
theorem dX10_riskiest_16 : decode cX10_riskiest 16 = .ok (.istore_n 2, 1) := by decide +kernel
theorem dX10_riskiest_17 : decode cX10_riskiest 17 = .ok (.iload_n 2, 1) := by decide +kernel
theorem dX10_riskiest_18 : decode cX10_riskiest 18 = .ok (.aload_n 0, 1) := by decide +kernel
theorem dX10_riskiest_19 : decode cX10_riskiest 19 = .ok (.getfield 65, 3) := by decide +kernel
theorem dX10_riskiest_22 : decode cX10_riskiest 22 = .ok (.getfield 360, 3) := by decide +kernel
theorem dX10_riskiest_25 : decode cX10_riskiest 25 = .ok (.if_icmp .ge 32, 3) := by decide +kernel
theorem dX10_riskiest_28 : decode cX10_riskiest 28 = .ok (.aload_n 0, 1) := by decide +kernel
theorem dX10_riskiest_29 : decode cX10_riskiest 29 = .ok (.getfield 65, 3) := by decide +kernel
theorem dX10_riskiest_32 : decode cX10_riskiest 32 = .ok (.getfield 368, 3) := by decide +kernel
theorem dX10_riskiest_35 : decode cX10_riskiest 35 = .ok (.iload_n 2, 1) := by decide +kernel
theorem dX10_riskiest_36 : decode cX10_riskiest 36 = .ok (.iaload, 1) := by decide +kernel
theorem dX10_riskiest_37 : decode cX10_riskiest 37 = .ok (.aload_n 0, 1) := by decide +kernel
theorem dX10_riskiest_38 : decode cX10_riskiest 38 = .ok (.getfield 65, 3) := by decide +kernel
theorem dX10_riskiest_41 : decode cX10_riskiest 41 = .ok (.getfield 368, 3) := by decide +kernel
theorem dX10_riskiest_44 : decode cX10_riskiest 44 = .ok (.iload_n 1, 1) := by decide +kernel
theorem dX10_riskiest_45 : decode cX10_riskiest 45 = .ok (.iaload, 1) := by decide +kernel
theorem dX10_riskiest_46 : decode cX10_riskiest 46 = .ok (.if_icmp .le 5, 3) := by decide +kernel
theorem dX10_riskiest_49 : decode cX10_riskiest 49 = .ok (.iload_n 2, 1) := by decide +kernel
theorem dX10_riskiest_50 : decode cX10_riskiest 50 = .ok (.istore_n 1, 1) := by decide +kernel
theorem dX10_riskiest_51 : decode cX10_riskiest 51 = .ok (.iinc 2 1, 3) := by decide +kernel
theorem dX10_riskiest_54 : decode cX10_riskiest 54 = .ok (.goto (-37), 3) := by decide +kernel
theorem dX10_riskiest_57 : decode cX10_riskiest 57 = .ok (.aload_n 0, 1) := by decide +kernel
theorem dX10_riskiest_58 : decode cX10_riskiest 58 = .ok (.getfield 83, 3) := by decide +kernel
theorem dX10_riskiest_61 : decode cX10_riskiest 61 = .ok (.invokevirtual 170, 3) := by decide +kernel
theorem dX10_riskiest_64 : decode cX10_riskiest 64 = .ok (.aload_n 0, 1) := by decide +kernel
theorem dX10_riskiest_65 : decode cX10_riskiest 65 = .ok (.getfield 83, 3) := by decide +kernel
theorem dX10_riskiest_68 : decode cX10_riskiest 68 = .ok (.aload_n 0, 1) := by decide +kernel
theorem dX10_riskiest_69 : decode cX10_riskiest 69 = .ok (.getfield 65, 3) := by decide +kernel
theorem dX10_riskiest_72 : decode cX10_riskiest 72 = .ok (.getfield 368, 3) := by decide +kernel
theorem dX10_riskiest_75 : decode cX10_riskiest 75 = .ok (.iload_n 1, 1) := by decide +kernel
theorem dX10_riskiest_76 : decode cX10_riskiest 76 = .ok (.iaload, 1) := by decide +kernel
theorem dX10_riskiest_77 : decode cX10_riskiest 77 = .ok (.i2l, 1) := by decide +kernel
theorem dX10_riskiest_78 : decode cX10_riskiest 78 = .ok (.invokevirtual 173, 3) := by decide +kernel
theorem dX10_riskiest_81 : decode cX10_riskiest 81 = .ok (.iload_n 1, 1) := by decide +kernel
theorem dX10_riskiest_82 : decode cX10_riskiest 82 = .ok (.ireturn, 1) := by decide +kernel
theorem dX10_site_0 : decode cX10_site 0 = .ok (.iload_n 1, 1) := by decide +kernel
theorem dX10_site_1 : decode cX10_site 1 = .ok (.iconst 1, 1) := by decide +kernel
theorem dX10_site_2 : decode cX10_site 2 = .ok (.if_icmp .lt 26, 3) := by decide +kernel
theorem dX10_site_5 : decode cX10_site 5 = .ok (.iload_n 1, 1) := by decide +kernel
theorem dX10_site_6 : decode cX10_site 6 = .ok (.bipush 16, 2) := by decide +kernel
theorem dX10_site_8 : decode cX10_site 8 = .ok (.if_icmp .gt 20, 3) := by decide +kernel
theorem dX10_site_11 : decode cX10_site 11 = .ok (.iload_n 2, 1) := by decide +kernel
theorem dX10_site_12 : decode cX10_site 12 = .ok (.invokestatic 98, 3) := by decide +kernel
theorem dX10_site_15 : decode cX10_site 15 = .ok (.ifCond .eq 13, 3) := by decide +kernel
theorem dX10_site_18 : decode cX10_site 18 = .ok (.iload_n 3, 1) := by decide +kernel
theorem dX10_site_19 : decode cX10_site 19 = .ok (.ifCond .lt 9, 3) := by decide +kernel
theorem dX10_site_22 : decode cX10_site 22 = .ok (.iload_n 3, 1) := by decide +kernel
theorem dX10_site_23 : decode cX10_site 23 = .ok (.bipush 9, 2) := by decide +kernel
theorem dX10_site_25 : decode cX10_site 25 = .ok (.if_icmp .le 5, 3) := by decide +kernel
theorem dX10_site_28 : decode cX10_site 28 = .ok (.iconst (-1), 1) := by decide +kernel
theorem dX10_site_29 : decode cX10_site 29 = .ok (.ireturn, 1) := by decide +kernel
theorem dX10_site_30 : decode cX10_site 30 = .ok (.iload 4, 2) := by decide +kernel
theorem dX10_site_32 : decode cX10_site 32 = .ok (.invokestatic 119, 3) := by decide +kernel
theorem dX10_site_35 : decode cX10_site 35 = .ok (.ifCond .eq 25, 3) := by decide +kernel
theorem dX10_site_38 : decode cX10_site 38 = .ok (.aload_n 0, 1) := by decide +kernel
theorem dX10_site_39 : decode cX10_site 39 = .ok (.getfield 12, 3) := by decide +kernel
theorem dX10_site_42 : decode cX10_site 42 = .ok (.getfield 95, 3) := by decide +kernel
theorem dX10_site_45 : decode cX10_site 45 = .ok (.bipush 6, 2) := by decide +kernel
theorem dX10_site_47 : decode cX10_site 47 = .ok (.if_icmp .ge 13, 3) := by decide +kernel
theorem dX10_site_50 : decode cX10_site 50 = .ok (.aload_n 0, 1) := by decide +kernel
theorem dX10_site_51 : decode cX10_site 51 = .ok (.getfield 19, 3) := by decide +kernel
theorem dX10_site_54 : decode cX10_site 54 = .ok (.getfield 177, 3) := by decide +kernel
theorem dX10_site_57 : decode cX10_site 57 = .ok (.ifCond .ne 5, 3) := by decide +kernel
theorem dX10_site_60 : decode cX10_site 60 = .ok (.iconst (-1), 1) := by decide +kernel
theorem dX10_site_61 : decode cX10_site 61 = .ok (.ireturn, 1) := by decide +kernel
theorem dX10_site_62 : decode cX10_site 62 = .ok (.aload_n 0, 1) := by decide +kernel
theorem dX10_site_63 : decode cX10_site 63 = .ok (.getfield 42, 3) := by decide +kernel
theorem dX10_site_66 : decode cX10_site 66 = .ok (.aload_n 0, 1) := by decide +kernel
theorem dX10_site_67 : decode cX10_site 67 = .ok (.iload 4, 2) := by decide +kernel
theorem dX10_site_69 : decode cX10_site 69 = .ok (.invokevirtual 322, 3) := by decide +kernel
theorem dX10_site_72 : decode cX10_site 72 = .ok (.sipush 2399, 3) := by decide +kernel
theorem dX10_site_75 : decode cX10_site 75 = .ok (.invokevirtual 270, 3) := by decide +kernel
theorem dX10_site_78 : decode cX10_site 78 = .ok (.istore 5, 2) := by decide +kernel
theorem dX10_site_80 : decode cX10_site 80 = .ok (.aload_n 0, 1) := by decide +kernel
theorem dX10_site_81 : decode cX10_site 81 = .ok (.getfield 12, 3) := by decide +kernel
theorem dX10_site_84 : decode cX10_site 84 = .ok (.getfield 95, 3) := by decide +kernel
theorem dX10_site_87 : decode cX10_site 87 = .ok (.istore 6, 2) := by decide +kernel
theorem dX10_site_89 : decode cX10_site 89 = .ok (.aload_n 0, 1) := by decide +kernel
theorem dX10_site_90 : decode cX10_site 90 = .ok (.getfield 12, 3) := by decide +kernel
theorem dX10_site_93 : decode cX10_site 93 = .ok (.iload 6, 2) := by decide +kernel
theorem dX10_site_95 : decode cX10_site 95 = .ok (.iconst 1, 1) := by decide +kernel
theorem dX10_site_96 : decode cX10_site 96 = .ok (.iadd, 1) := by decide +kernel
theorem dX10_site_97 : decode cX10_site 97 = .ok (.putfield 95, 3) := by decide +kernel
theorem dX10_site_100 : decode cX10_site 100 = .ok (.aload_n 0, 1) := by decide +kernel
theorem dX10_site_101 : decode cX10_site 101 = .ok (.getfield 12, 3) := by decide +kernel
theorem dX10_site_104 : decode cX10_site 104 = .ok (.iload 6, 2) := by decide +kernel
theorem dX10_site_106 : decode cX10_site 106 = .ok (.iload_n 3, 1) := by decide +kernel
theorem dX10_site_107 : decode cX10_site 107 = .ok (.invokevirtual 377, 3) := by decide +kernel
theorem dX10_site_110 : decode cX10_site 110 = .ok (.bipush (-2), 2) := by decide +kernel
theorem dX10_site_112 : decode cX10_site 112 = .ok (.istore 7, 2) := by decide +kernel
theorem dX10_site_114 : decode cX10_site 114 = .ok (.sipush 2400, 3) := by decide +kernel
theorem dX10_site_117 : decode cX10_site 117 = .ok (.istore 8, 2) := by decide +kernel
theorem dX10_site_119 : decode cX10_site 119 = .ok (.iconst 0, 1) := by decide +kernel
theorem dX10_site_120 : decode cX10_site 120 = .ok (.istore 9, 2) := by decide +kernel
theorem dX10_site_122 : decode cX10_site 122 = .ok (.iload 9, 2) := by decide +kernel
theorem dX10_site_124 : decode cX10_site 124 = .ok (.bipush 24, 2) := by decide +kernel
theorem dX10_site_126 : decode cX10_site 126 = .ok (.if_icmp .ge 80, 3) := by decide +kernel
theorem dX10_site_129 : decode cX10_site 129 = .ok (.aload_n 0, 1) := by decide +kernel
theorem dX10_site_130 : decode cX10_site 130 = .ok (.getfield 12, 3) := by decide +kernel
theorem dX10_site_133 : decode cX10_site 133 = .ok (.getfield 102, 3) := by decide +kernel
theorem dX10_site_136 : decode cX10_site 136 = .ok (.iload 6, 2) := by decide +kernel
theorem dX10_site_138 : decode cX10_site 138 = .ok (.aaload, 1) := by decide +kernel
theorem dX10_site_139 : decode cX10_site 139 = .ok (.iload 9, 2) := by decide +kernel
theorem dX10_site_141 : decode cX10_site 141 = .ok (.bipush 24, 2) := by decide +kernel
theorem dX10_site_143 : decode cX10_site 143 = .ok (.imul, 1) := by decide +kernel
theorem dX10_site_144 : decode cX10_site 144 = .ok (.bipush 9, 2) := by decide +kernel
theorem dX10_site_146 : decode cX10_site 146 = .ok (.iadd, 1) := by decide +kernel
theorem dX10_site_147 : decode cX10_site 147 = .ok (.iload_n 1, 1) := by decide +kernel
theorem dX10_site_148 : decode cX10_site 148 = .ok (.iconst 1, 1) := by decide +kernel
theorem dX10_site_149 : decode cX10_site 149 = .ok (.iload_n 2, 1) := by decide +kernel
theorem dX10_site_150 : decode cX10_site 150 = .ok (.invokevirtual 106, 3) := by decide +kernel
theorem dX10_site_153 : decode cX10_site 153 = .ok (.aload_n 0, 1) := by decide +kernel
theorem dX10_site_154 : decode cX10_site 154 = .ok (.getfield 12, 3) := by decide +kernel
theorem dX10_site_157 : decode cX10_site 157 = .ok (.iload 6, 2) := by decide +kernel
theorem dX10_site_159 : decode cX10_site 159 = .ok (.iconst 0, 1) := by decide +kernel
theorem dX10_site_160 : decode cX10_site 160 = .ok (.sipush 2560, 3) := by decide +kernel
theorem dX10_site_163 : decode cX10_site 163 = .ok (.invokevirtual 112, 3) := by decide +kernel
theorem dX10_site_166 : decode cX10_site 166 = .ok (.aload_n 0, 1) := by decide +kernel
theorem dX10_site_167 : decode cX10_site 167 = .ok (.getfield 42, 3) := by decide +kernel
theorem dX10_site_170 : decode cX10_site 170 = .ok (.aload_n 0, 1) := by decide +kernel
theorem dX10_site_171 : decode cX10_site 171 = .ok (.iload 4, 2) := by decide +kernel
theorem dX10_site_173 : decode cX10_site 173 = .ok (.invokevirtual 322, 3) := by decide +kernel
theorem dX10_site_176 : decode cX10_site 176 = .ok (.iload 8, 2) := by decide +kernel
theorem dX10_site_178 : decode cX10_site 178 = .ok (.iconst 1, 1) := by decide +kernel
theorem dX10_site_179 : decode cX10_site 179 = .ok (.isub, 1) := by decide +kernel
theorem dX10_site_180 : decode cX10_site 180 = .ok (.invokevirtual 270, 3) := by decide +kernel
theorem dX10_site_183 : decode cX10_site 183 = .ok (.istore 10, 2) := by decide +kernel
theorem dX10_site_185 : decode cX10_site 185 = .ok (.iload 10, 2) := by decide +kernel
theorem dX10_site_187 : decode cX10_site 187 = .ok (.bipush (-2), 2) := by decide +kernel
theorem dX10_site_189 : decode cX10_site 189 = .ok (.if_icmp .eq 11, 3) := by decide +kernel
theorem dX10_site_192 : decode cX10_site 192 = .ok (.iload 9, 2) := by decide +kernel
theorem dX10_site_194 : decode cX10_site 194 = .ok (.istore 7, 2) := by decide +kernel
theorem dX10_site_196 : decode cX10_site 196 = .ok (.iload 10, 2) := by decide +kernel
theorem dX10_site_198 : decode cX10_site 198 = .ok (.istore 8, 2) := by decide +kernel
theorem dX10_site_200 : decode cX10_site 200 = .ok (.iinc 9 1, 3) := by decide +kernel
theorem dX10_site_203 : decode cX10_site 203 = .ok (.goto (-81), 3) := by decide +kernel
theorem dX10_site_206 : decode cX10_site 206 = .ok (.aload_n 0, 1) := by decide +kernel
theorem dX10_site_207 : decode cX10_site 207 = .ok (.getfield 12, 3) := by decide +kernel
theorem dX10_site_210 : decode cX10_site 210 = .ok (.iload 6, 2) := by decide +kernel
theorem dX10_site_212 : decode cX10_site 212 = .ok (.iconst 0, 1) := by decide +kernel
theorem dX10_site_213 : decode cX10_site 213 = .ok (.invokevirtual 377, 3) := by decide +kernel
theorem dX10_site_216 : decode cX10_site 216 = .ok (.aload_n 0, 1) := by decide +kernel
theorem dX10_site_217 : decode cX10_site 217 = .ok (.getfield 12, 3) := by decide +kernel
theorem dX10_site_220 : decode cX10_site 220 = .ok (.iload 6, 2) := by decide +kernel
theorem dX10_site_222 : decode cX10_site 222 = .ok (.putfield 95, 3) := by decide +kernel
theorem dX10_site_225 : decode cX10_site 225 = .ok (.iload 7, 2) := by decide +kernel
theorem dX10_site_227 : decode cX10_site 227 = .ok (.bipush (-2), 2) := by decide +kernel
theorem dX10_site_229 : decode cX10_site 229 = .ok (.if_icmp .eq 43, 3) := by decide +kernel
theorem dX10_site_232 : decode cX10_site 232 = .ok (.aload_n 0, 1) := by decide +kernel
theorem dX10_site_233 : decode cX10_site 233 = .ok (.getfield 83, 3) := by decide +kernel
theorem dX10_site_236 : decode cX10_site 236 = .ok (.invokevirtual 170, 3) := by decide +kernel
theorem dX10_site_239 : decode cX10_site 239 = .ok (.aload_n 0, 1) := by decide +kernel
theorem dX10_site_240 : decode cX10_site 240 = .ok (.getfield 83, 3) := by decide +kernel
theorem dX10_site_243 : decode cX10_site 243 = .ok (.iload 8, 2) := by decide +kernel
theorem dX10_site_245 : decode cX10_site 245 = .ok (.i2l, 1) := by decide +kernel
theorem dX10_site_246 : decode cX10_site 246 = .ok (.invokevirtual 173, 3) := by decide +kernel
theorem dX10_site_249 : decode cX10_site 249 = .ok (.aload_n 0, 1) := by decide +kernel
theorem dX10_site_250 : decode cX10_site 250 = .ok (.getfield 83, 3) := by decide +kernel
theorem dX10_site_253 : decode cX10_site 253 = .ok (.iload 5, 2) := by decide +kernel
theorem dX10_site_255 : decode cX10_site 255 = .ok (.bipush (-2), 2) := by decide +kernel
theorem dX10_site_257 : decode cX10_site 257 = .ok (.if_icmp .ne 9, 3) := by decide +kernel
theorem dX10_site_260 : decode cX10_site 260 = .ok (.ldc2_w 380, 3) := by decide +kernel
theorem dX10_site_263 : decode cX10_site 263 = .ok (.goto 6, 3) := by decide +kernel
theorem dX10_site_266 : decode cX10_site 266 = .ok (.iload 5, 2) := by decide +kernel
theorem dX10_site_268 : decode cX10_site 268 = .ok (.i2l, 1) := by decide +kernel
theorem dX10_site_269 : decode cX10_site 269 = .ok (.invokevirtual 173, 3) := by decide +kernel
theorem dX10_site_272 : decode cX10_site 272 = .ok (.iload 7, 2) := by decide +kernel
theorem dX10_site_274 : decode cX10_site 274 = .ok (.ireturn, 1) := by decide +kernel
noncomputable def f_X10_begunAt (fu : Nat) (x1 : Int32) (m : hM) : Option (Nat × hM) :=
  hBd (f_X7_startAll fu 55 x1 m) fun _ m1 =>
some (55, m1)
set_option maxRecDepth 100000 in
set_option maxHeartbeats 4000000 in
theorem c_X10_begunAt (G : hG) (fu : Nat) (x1 : Int32) (m : hM) : Mt (vA G) G 3 yX10_begunAt cX10_begunAt 2 (some (.object "FollowTheSun$State")) [hA G 0, .int x1] m (f_X10_begunAt fu x1 m) := by
  refine mt_of (by decide +kernel) (Nat.le_of_ble_eq_true rfl) (fun X C K => ?_)
  have C : Cx G X 3 cX10_begunAt 2 RX10 (some (.object "FollowTheSun$State")) := C
  show Rf (vA G) G X 0 [(0, hA G 0), (1, .int x1)] [] m _
  unfold f_X10_begunAt
  refine rf_aload_n C (n := 1) (q := 0) dX10_begunAt_0 rfl rfl rfl ?_
  refine rf_getS C (n := 4) fl_RX10_69 ly_0 rfl dX10_begunAt_1 rfl ?_
  refine rf_aload_n C (n := 5) (q := 0) dX10_begunAt_4 rfl rfl rfl ?_
  refine rf_getS C (n := 8) fl_RX10_19 ly_0 rfl dX10_begunAt_5 rfl ?_
  refine rf_iload_n C (n := 9) (q := 1) dX10_begunAt_8 rfl rfl rfl ?_
  refine rf_callVv C (n := 12) (c_X7_startAll G fu _ _ _) mw_RX10_225 ly_55 rfl ⟨by decide, by decide⟩ rfl (Nat.le_of_ble_eq_true rfl) rfl dX10_begunAt_9 rfl (fun _ m1 => ?_)
  refine rf_aload_n C (n := 13) (q := 0) dX10_begunAt_12 rfl rfl rfl ?_
  refine rf_getS C (n := 16) fl_RX10_69 ly_0 rfl dX10_begunAt_13 rfl ?_
  exact rf_aret C K dX10_begunAt_16
noncomputable def f_X10_houseTrial_62 (fu : Nat) (k18 : Int32 → Int32 → Int32 → hM → Option (Unit × hM)) (x1 : Int32) (x3 : Int32) (x4 : Int32) (m : hM) : Option (Unit × hM) :=
  hLet (x4 + (-1)) fun y4 =>
k18 x1 x3 y4 m
set_option maxRecDepth 100000 in
set_option maxHeartbeats 4000000 in
theorem r_X10_houseTrial_62 {G : hG} {X : hX} (C : Cx G X 1 cX10_houseTrial 5 RX10 none) (K : Cr G X) (fu : Nat) (k18 : Int32 → Int32 → Int32 → hM → Option (Unit × hM)) (hk18 : ∀ (x1 : Int32) (x3 : Int32) (x4 : Int32) (m : hM), Rf vU G X 18 [(0, hA G 0), (1, .int x1), (3, .int x3), (4, .int x4)] [] m (k18 x1 x3 x4 m)) (x1 : Int32) (x3 : Int32) (x4 : Int32) (m : hM) : Rf vU G X 62 [(0, hA G 0), (1, .int x1), (3, .int x3), (4, .int x4)] [] m (f_X10_houseTrial_62 fu k18 x1 x3 x4 m) := by
  unfold f_X10_houseTrial_62
  refine rf_iinc2 C (n := 65) (q := 3) (fun y4 => [(4, .int y4), (0, hA G 0), (1, .int x1), (3, .int x3)]) dX10_houseTrial_62 rfl rfl (by decide) (by decide) (fun _ => rfl) (fun y4 => ?_)
  refine rf_goto C (n := 18) dX10_houseTrial_65 (by decide) ?_
  exact rf_lv _ [1, 2, 3, 0] rfl (hk18 _ _ _ _)
noncomputable def s_X10_houseTrial_18 (fu : Nat) (ih : Int32 → Int32 → Int32 → hM → Option (Unit × hM)) (x1 : Int32) (x3 : Int32) (x4 : Int32) (m : hM) : Option (Unit × hM) :=
  if x4 < 0 then (
some ((), m)) else (
if ¬ ((x1 >>> (x4 &&& 31)) &&& 1) = 1 then (
f_X10_houseTrial_62 fu ih x1 x3 x4 m) else (
if ¬ (gI m 1 4) = 0 then (
if hIn x4 8 then (
hLet (sI m 56 (Int32.toNatClampNeg x4) (x3 - x3 / (gI m 1 4) * (gI m 1 4))) fun m7 =>
if ¬ (gI m7 1 4) = 0 then (
hLet (x3 / (gI m7 1 4)) fun y9 =>
f_X10_houseTrial_62 fu ih x1 y9 x4 m7) else none) else none) else none))
noncomputable def f_X10_houseTrial_18 (fu : Nat) (n : Nat) : Int32 → Int32 → Int32 → hM → Option (Unit × hM) :=
  Nat.rec (motive := fun _ => Int32 → Int32 → Int32 → hM → Option (Unit × hM)) (fun _ _ _ _ => none) (fun _ ih => s_X10_houseTrial_18 fu ih) n
theorem f_X10_houseTrial_18_s (fu : Nat) (n : Nat) (x1 : Int32) (x3 : Int32) (x4 : Int32) (m : hM) : f_X10_houseTrial_18 fu (n + 1) x1 x3 x4 m = s_X10_houseTrial_18 fu (f_X10_houseTrial_18 fu n) x1 x3 x4 m := rfl
set_option maxRecDepth 100000 in
set_option maxHeartbeats 4000000 in
theorem r_X10_houseTrial_18 {G : hG} {X : hX} (C : Cx G X 1 cX10_houseTrial 5 RX10 none) (K : Cr G X) (fu : Nat) (n : Nat) : ∀ (x1 : Int32) (x3 : Int32) (x4 : Int32) (m : hM), Rf vU G X 18 [(0, hA G 0), (1, .int x1), (3, .int x3), (4, .int x4)] [] m (f_X10_houseTrial_18 fu n x1 x3 x4 m) := by
  induction n with
  | zero => intros; exact rf_none
  | succ n ih =>
    intro x1 x3 x4 m
    show Rf vU G X 18 [(0, hA G 0), (1, .int x1), (3, .int x3), (4, .int x4)] [] m (s_X10_houseTrial_18 fu (f_X10_houseTrial_18 fu n) x1 x3 x4 m)
    unfold s_X10_houseTrial_18
    refine rf_iload C (n := 20) (q := 3) dX10_houseTrial_18 rfl rfl ?_
    refine rf_if_lt C (tgt := 68) (n := 23) dX10_houseTrial_20 (by decide) rfl (fun h2 => ?_) (fun h2 => ?_)
    · exact rf_vret C K dX10_houseTrial_68
    · refine rf_iload_n C (n := 24) (q := 1) dX10_houseTrial_23 rfl rfl rfl ?_
      refine rf_iload C (n := 26) (q := 3) dX10_houseTrial_24 rfl rfl ?_
      refine rf_ishr C (n := 27) dX10_houseTrial_26 rfl ?_
      refine rf_iconst C (n := 28) (v := 1) dX10_houseTrial_27 rfl (by decide) ?_
      refine rf_iand C (n := 29) dX10_houseTrial_28 rfl ?_
      refine rf_iconst C (n := 30) (v := 1) dX10_houseTrial_29 rfl (by decide) ?_
      refine rf_icmp_ne C (tgt := 62) (n := 33) dX10_houseTrial_30 (by decide) rfl (fun h3 => ?_) (fun h3 => ?_)
      · exact rf_lv _ [0, 1, 2, 3] rfl (r_X10_houseTrial_62 C K fu _ ih _ _ _ _)
      · refine rf_aload_n C (n := 34) (q := 0) dX10_houseTrial_33 rfl rfl rfl ?_
        refine rf_getS C (n := 37) fl_RX10_69 ly_0 rfl dX10_houseTrial_34 rfl ?_
        refine rf_getS C (n := 40) fl_RX10_232 ly_55 rfl dX10_houseTrial_37 rfl ?_
        refine rf_iload C (n := 42) (q := 3) dX10_houseTrial_40 rfl rfl ?_
        refine rf_iload_n C (n := 43) (q := 2) dX10_houseTrial_42 rfl rfl rfl ?_
        refine rf_aload_n C (n := 44) (q := 0) dX10_houseTrial_43 rfl rfl rfl ?_
        refine rf_getS C (n := 47) fl_RX10_12 ly_0 rfl dX10_houseTrial_44 rfl ?_
        refine rf_getI C (n := 50) fl_RX10_95 ly_1 rfl dX10_houseTrial_47 rfl ?_
        refine rf_guard (fun h5 => ?_)
        refine rf_irem C (n := 51) dX10_houseTrial_50 rfl h5 ?_
        refine rf_guard (fun h6 => ?_)
        refine rf_iast C (n := 52) ly_56 h6 rfl dX10_houseTrial_51 rfl ?_
        refine rf_letM (fun m7 => ?_)
        refine rf_iload_n C (n := 53) (q := 2) dX10_houseTrial_52 rfl rfl rfl ?_
        refine rf_aload_n C (n := 54) (q := 0) dX10_houseTrial_53 rfl rfl rfl ?_
        refine rf_getS C (n := 57) fl_RX10_12 ly_0 rfl dX10_houseTrial_54 rfl ?_
        refine rf_getI C (n := 60) fl_RX10_95 ly_1 rfl dX10_houseTrial_57 rfl ?_
        refine rf_guard (fun h8 => ?_)
        refine rf_idiv C (n := 61) dX10_houseTrial_60 rfl h8 ?_
        refine rf_letI (fun y9 => ?_)
        refine rf_istore_n C (n := 62) [(3, .int y9), (0, hA G 0), (1, .int x1), (4, .int x4)] dX10_houseTrial_61 rfl rfl (by decide) rfl ?_
        exact rf_lv _ [1, 2, 0, 3] rfl (r_X10_houseTrial_62 C K fu _ ih _ _ _ _)
noncomputable def f_X10_houseTrial (fu : Nat) (x1 : Int32) (x2 : Int32) (m : hM) : Option (Unit × hM) :=
  if 1 ≤ (gI m 1 4) then (
f_X10_houseTrial_18 fu fu x1 x2 7 m) else (
some ((), m))
set_option maxRecDepth 100000 in
set_option maxHeartbeats 4000000 in
theorem c_X10_houseTrial (G : hG) (fu : Nat) (x1 : Int32) (x2 : Int32) (m : hM) : Mt vU G 1 yX10_houseTrial cX10_houseTrial 5 none [hA G 0, .int x1, .int x2] m (f_X10_houseTrial fu x1 x2 m) := by
  refine mt_of (by decide +kernel) (Nat.le_of_ble_eq_true rfl) (fun X C K => ?_)
  have C : Cx G X 1 cX10_houseTrial 5 RX10 none := C
  show Rf vU G X 0 [(0, hA G 0), (1, .int x1), (2, .int x2)] [] m _
  unfold f_X10_houseTrial
  refine rf_aload_n C (n := 1) (q := 0) dX10_houseTrial_0 rfl rfl rfl ?_
  refine rf_getS C (n := 4) fl_RX10_12 ly_0 rfl dX10_houseTrial_1 rfl ?_
  refine rf_getI C (n := 7) fl_RX10_95 ly_1 rfl dX10_houseTrial_4 rfl ?_
  refine rf_iconst C (n := 8) (v := 1) dX10_houseTrial_7 rfl (by decide) ?_
  refine rf_icmp_ge C (tgt := 12) (n := 11) dX10_houseTrial_8 (by decide) rfl (fun h1 => ?_) (fun h1 => ?_)
  · refine rf_iload_n C (n := 13) (q := 2) dX10_houseTrial_12 rfl rfl rfl ?_
    refine rf_istore_n C (n := 14) [(3, .int x2), (0, hA G 0), (1, .int x1), (2, .int x2)] dX10_houseTrial_13 rfl rfl (by decide) rfl ?_
    refine rf_bipush C (n := 16) (v := 7) dX10_houseTrial_14 rfl (by decide) ?_
    refine rf_istore C (n := 18) [(4, .int 7), (3, .int x2), (0, hA G 0), (1, .int x1), (2, .int x2)] dX10_houseTrial_16 rfl (by decide) rfl ?_
    exact rf_lv _ [2, 3, 1, 0] rfl (r_X10_houseTrial_18 C K fu fu _ _ _ _)
  · exact rf_vret C K dX10_houseTrial_11
noncomputable def f_X10_tellHomes_41 (fu : Nat) (k9 : Int32 → Int32 → hM → Option (Unit × hM)) (x1 : Int32) (x2 : Int32) (m : hM) : Option (Unit × hM) :=
  hLet (x2 + 1) fun y4 =>
k9 x1 y4 m
set_option maxRecDepth 100000 in
set_option maxHeartbeats 4000000 in
theorem r_X10_tellHomes_41 {G : hG} {X : hX} (C : Cx G X 2 cX10_tellHomes 3 RX10 none) (K : Cr G X) (fu : Nat) (k9 : Int32 → Int32 → hM → Option (Unit × hM)) (hk9 : ∀ (x1 : Int32) (x2 : Int32) (m : hM), Rf vU G X 9 [(0, hA G 0), (1, .int x1), (2, .int x2)] [] m (k9 x1 x2 m)) (x1 : Int32) (x2 : Int32) (m : hM) : Rf vU G X 41 [(0, hA G 0), (1, .int x1), (2, .int x2)] [] m (f_X10_tellHomes_41 fu k9 x1 x2 m) := by
  unfold f_X10_tellHomes_41
  refine rf_iinc2 C (n := 44) (q := 2) (fun y4 => [(2, .int y4), (0, hA G 0), (1, .int x1)]) dX10_tellHomes_41 rfl rfl (by decide) (by decide) (fun _ => rfl) (fun y4 => ?_)
  refine rf_goto C (n := 9) dX10_tellHomes_44 (by decide) ?_
  exact rf_lv _ [1, 2, 0] rfl (hk9 _ _ _)
noncomputable def s_X10_tellHomes_9 (fu : Nat) (ih : Int32 → Int32 → hM → Option (Unit × hM)) (x1 : Int32) (x2 : Int32) (m : hM) : Option (Unit × hM) :=
  if 8 ≤ x2 then (
some ((), m)) else (
if ¬ ((x1 >>> (x2 &&& 31)) &&& 1) = 1 then (
f_X10_tellHomes_41 fu ih x1 x2 m) else (
if hIn x2 8 then (
hBd (f_X1_tell fu (Int32.toInt64 (gI m 56 (Int32.toNatClampNeg x2))) m) fun _ m6 =>
f_X10_tellHomes_41 fu ih x1 x2 m6) else none))
noncomputable def f_X10_tellHomes_9 (fu : Nat) (n : Nat) : Int32 → Int32 → hM → Option (Unit × hM) :=
  Nat.rec (motive := fun _ => Int32 → Int32 → hM → Option (Unit × hM)) (fun _ _ _ => none) (fun _ ih => s_X10_tellHomes_9 fu ih) n
theorem f_X10_tellHomes_9_s (fu : Nat) (n : Nat) (x1 : Int32) (x2 : Int32) (m : hM) : f_X10_tellHomes_9 fu (n + 1) x1 x2 m = s_X10_tellHomes_9 fu (f_X10_tellHomes_9 fu n) x1 x2 m := rfl
set_option maxRecDepth 100000 in
set_option maxHeartbeats 4000000 in
theorem r_X10_tellHomes_9 {G : hG} {X : hX} (C : Cx G X 2 cX10_tellHomes 3 RX10 none) (K : Cr G X) (fu : Nat) (n : Nat) : ∀ (x1 : Int32) (x2 : Int32) (m : hM), Rf vU G X 9 [(0, hA G 0), (1, .int x1), (2, .int x2)] [] m (f_X10_tellHomes_9 fu n x1 x2 m) := by
  induction n with
  | zero => intros; exact rf_none
  | succ n ih =>
    intro x1 x2 m
    show Rf vU G X 9 [(0, hA G 0), (1, .int x1), (2, .int x2)] [] m (s_X10_tellHomes_9 fu (f_X10_tellHomes_9 fu n) x1 x2 m)
    unfold s_X10_tellHomes_9
    refine rf_iload_n C (n := 10) (q := 2) dX10_tellHomes_9 rfl rfl rfl ?_
    refine rf_bipush C (n := 12) (v := 8) dX10_tellHomes_10 rfl (by decide) ?_
    refine rf_icmp_ge C (tgt := 47) (n := 15) dX10_tellHomes_12 (by decide) rfl (fun h2 => ?_) (fun h2 => ?_)
    · exact rf_vret C K dX10_tellHomes_47
    · refine rf_iload_n C (n := 16) (q := 1) dX10_tellHomes_15 rfl rfl rfl ?_
      refine rf_iload_n C (n := 17) (q := 2) dX10_tellHomes_16 rfl rfl rfl ?_
      refine rf_ishr C (n := 18) dX10_tellHomes_17 rfl ?_
      refine rf_iconst C (n := 19) (v := 1) dX10_tellHomes_18 rfl (by decide) ?_
      refine rf_iand C (n := 20) dX10_tellHomes_19 rfl ?_
      refine rf_iconst C (n := 21) (v := 1) dX10_tellHomes_20 rfl (by decide) ?_
      refine rf_icmp_ne C (tgt := 41) (n := 24) dX10_tellHomes_21 (by decide) rfl (fun h3 => ?_) (fun h3 => ?_)
      · exact rf_lv _ [0, 1, 2] rfl (r_X10_tellHomes_41 C K fu _ ih _ _ _)
      · refine rf_aload_n C (n := 25) (q := 0) dX10_tellHomes_24 rfl rfl rfl ?_
        refine rf_getS C (n := 28) fl_RX10_83 ly_0 rfl dX10_tellHomes_25 rfl ?_
        refine rf_aload_n C (n := 29) (q := 0) dX10_tellHomes_28 rfl rfl rfl ?_
        refine rf_getS C (n := 32) fl_RX10_69 ly_0 rfl dX10_tellHomes_29 rfl ?_
        refine rf_getS C (n := 35) fl_RX10_232 ly_55 rfl dX10_tellHomes_32 rfl ?_
        refine rf_iload_n C (n := 36) (q := 2) dX10_tellHomes_35 rfl rfl rfl ?_
        refine rf_guard (fun h5 => ?_)
        refine rf_iald C (n := 37) ly_56 h5 rfl dX10_tellHomes_36 rfl ?_
        refine rf_i2l C (n := 38) dX10_tellHomes_37 rfl ?_
        refine rf_callVv C (n := 41) (c_X1_tell G fu _ _) mw_RX10_173 ly_66 rfl ⟨by decide, by decide⟩ rfl (Nat.le_of_ble_eq_true rfl) rfl dX10_tellHomes_38 rfl (fun _ m6 => ?_)
        exact rf_lv _ [0, 1, 2] rfl (r_X10_tellHomes_41 C K fu _ ih _ _ _)
noncomputable def f_X10_tellHomes (fu : Nat) (x1 : Int32) (m : hM) : Option (Unit × hM) :=
  hBd (f_X1_clear fu m) fun _ m1 =>
f_X10_tellHomes_9 fu fu x1 0 m1
set_option maxRecDepth 100000 in
set_option maxHeartbeats 4000000 in
theorem c_X10_tellHomes (G : hG) (fu : Nat) (x1 : Int32) (m : hM) : Mt vU G 2 yX10_tellHomes cX10_tellHomes 3 none [hA G 0, .int x1] m (f_X10_tellHomes fu x1 m) := by
  refine mt_of (by decide +kernel) (Nat.le_of_ble_eq_true rfl) (fun X C K => ?_)
  have C : Cx G X 2 cX10_tellHomes 3 RX10 none := C
  show Rf vU G X 0 [(0, hA G 0), (1, .int x1)] [] m _
  unfold f_X10_tellHomes
  refine rf_aload_n C (n := 1) (q := 0) dX10_tellHomes_0 rfl rfl rfl ?_
  refine rf_getS C (n := 4) fl_RX10_83 ly_0 rfl dX10_tellHomes_1 rfl ?_
  refine rf_callVv C (n := 7) (c_X1_clear G fu _) mw_RX10_170 ly_66 rfl ⟨by decide, by decide⟩ rfl (Nat.le_of_ble_eq_true rfl) rfl dX10_tellHomes_4 rfl (fun _ m1 => ?_)
  refine rf_iconst C (n := 8) (v := 0) dX10_tellHomes_7 rfl (by decide) ?_
  refine rf_istore_n C (n := 9) [(2, .int 0), (0, hA G 0), (1, .int x1)] dX10_tellHomes_8 rfl rfl (by decide) rfl ?_
  exact rf_lv _ [1, 2, 0] rfl (r_X10_tellHomes_9 C K fu fu _ _ _)
noncomputable def f_X10_homes_141 (fu : Nat) (x1 : Int32) (x5 : Int32) (x6 : Int32) (m : hM) : Option (Int32 × hM) :=
  hLet (sI m 32 3 1) fun m14 =>
if ¬ x5 = (-1) then (
hBd (f_X10_houseTrial fu x1 x5 m14) fun _ m16 =>
hBd (f_X10_tellHomes fu x1 m16) fun _ m17 =>
some (x6, m17)) else (
some ((-2), m14))
set_option maxRecDepth 100000 in
set_option maxHeartbeats 4000000 in
theorem r_X10_homes_141 {G : hG} {X : hX} (C : Cx G X 8 cX10_homes 9 RX10 (some .int)) (K : Cr G X) (fu : Nat) (x1 : Int32) (x5 : Int32) (x6 : Int32) (m : hM) : Rf vI G X 141 [(0, hA G 0), (1, .int x1), (5, .int x5), (6, .int x6)] [] m (f_X10_homes_141 fu x1 x5 x6 m) := by
  unfold f_X10_homes_141
  refine rf_aload_n C (n := 142) (q := 0) dX10_homes_141 rfl rfl rfl ?_
  refine rf_getS C (n := 145) fl_RX10_42 ly_0 rfl dX10_homes_142 rfl ?_
  refine rf_iconst C (n := 146) (v := 1) dX10_homes_145 rfl (by decide) ?_
  refine rf_putI C (n := 149) pl_RX10_318 ly_32 rfl ⟨rfl, rfl⟩ dX10_homes_146 rfl ?_
  refine rf_letM (fun m14 => ?_)
  refine rf_iload C (n := 151) (q := 2) dX10_homes_149 rfl rfl ?_
  refine rf_iconst C (n := 152) (v := (-1)) dX10_homes_151 rfl (by decide) ?_
  refine rf_icmp_ne C (tgt := 158) (n := 155) dX10_homes_152 (by decide) rfl (fun h15 => ?_) (fun h15 => ?_)
  · refine rf_aload_n C (n := 159) (q := 0) dX10_homes_158 rfl rfl rfl ?_
    refine rf_iload_n C (n := 160) (q := 1) dX10_homes_159 rfl rfl rfl ?_
    refine rf_iload C (n := 162) (q := 2) dX10_homes_160 rfl rfl ?_
    refine rf_callVv C (n := 165) (c_X10_houseTrial G fu _ _ _) mw_RX10_326 ly_0 rfl ⟨by decide, by decide⟩ rfl (Nat.le_of_ble_eq_true rfl) rfl dX10_homes_162 rfl (fun _ m16 => ?_)
    refine rf_aload_n C (n := 166) (q := 0) dX10_homes_165 rfl rfl rfl ?_
    refine rf_iload_n C (n := 167) (q := 1) dX10_homes_166 rfl rfl rfl ?_
    refine rf_callVv C (n := 170) (c_X10_tellHomes G fu _ _) mw_RX10_329 ly_0 rfl ⟨by decide, by decide⟩ rfl (Nat.le_of_ble_eq_true rfl) rfl dX10_homes_167 rfl (fun _ m17 => ?_)
    refine rf_iload C (n := 172) (q := 3) dX10_homes_170 rfl rfl ?_
    exact rf_iret C K dX10_homes_172
  · refine rf_bipush C (n := 157) (v := (-2)) dX10_homes_155 rfl (by decide) ?_
    exact rf_iret C K dX10_homes_157
noncomputable def f_X10_homes_135 (fu : Nat) (k83 : Int32 → Int32 → Int32 → Int32 → Int32 → Int32 → hM → Option (Int32 × hM)) (x1 : Int32) (x2 : Int32) (x4 : Int32) (x5 : Int32) (x6 : Int32) (x7 : Int32) (m : hM) : Option (Int32 × hM) :=
  hLet (x7 + 1) fun y25 =>
k83 x1 x2 x4 x5 x6 y25 m
set_option maxRecDepth 100000 in
set_option maxHeartbeats 4000000 in
theorem r_X10_homes_135 {G : hG} {X : hX} (C : Cx G X 8 cX10_homes 9 RX10 (some .int)) (K : Cr G X) (fu : Nat) (k83 : Int32 → Int32 → Int32 → Int32 → Int32 → Int32 → hM → Option (Int32 × hM)) (hk83 : ∀ (x1 : Int32) (x2 : Int32) (x4 : Int32) (x5 : Int32) (x6 : Int32) (x7 : Int32) (m : hM), Rf vI G X 83 [(0, hA G 0), (1, .int x1), (2, .int x2), (4, .int x4), (5, .int x5), (6, .int x6), (7, .int x7)] [] m (k83 x1 x2 x4 x5 x6 x7 m)) (x1 : Int32) (x2 : Int32) (x4 : Int32) (x5 : Int32) (x6 : Int32) (x7 : Int32) (m : hM) : Rf vI G X 135 [(0, hA G 0), (1, .int x1), (2, .int x2), (4, .int x4), (5, .int x5), (6, .int x6), (7, .int x7)] [] m (f_X10_homes_135 fu k83 x1 x2 x4 x5 x6 x7 m) := by
  unfold f_X10_homes_135
  refine rf_iinc2 C (n := 138) (q := 6) (fun y25 => [(7, .int y25), (0, hA G 0), (1, .int x1), (2, .int x2), (4, .int x4), (5, .int x5), (6, .int x6)]) dX10_homes_135 rfl rfl (by decide) (by decide) (fun _ => rfl) (fun y25 => ?_)
  refine rf_goto C (n := 83) dX10_homes_138 (by decide) ?_
  exact rf_lv _ [1, 2, 3, 4, 5, 6, 0] rfl (hk83 _ _ _ _ _ _ _)
noncomputable def s_X10_homes_83 (fu : Nat) (ih : Int32 → Int32 → Int32 → Int32 → Int32 → Int32 → hM → Option (Int32 × hM)) (x1 : Int32) (x2 : Int32) (x4 : Int32) (x5 : Int32) (x6 : Int32) (x7 : Int32) (m : hM) : Option (Int32 × hM) :=
  if x4 ≤ x7 then (
f_X10_homes_141 fu x1 x5 x6 m) else (
hBd (f_X10_begunAt fu x2 m) fun y18 m19 =>
if y18 = 55 then (
hBd (f_X10_houseTrial fu x1 x7 m19) fun _ m21 =>
hBd (f_X8_runToEnd fu 55 (x6 - 1) m21) fun y22 m23 =>
if y22 = (-2) then (
f_X10_homes_135 fu ih x1 x2 x4 x5 x6 x7 m23) else (
f_X10_homes_135 fu ih x1 x2 x4 x7 y22 x7 m23)) else none)
noncomputable def f_X10_homes_83 (fu : Nat) (n : Nat) : Int32 → Int32 → Int32 → Int32 → Int32 → Int32 → hM → Option (Int32 × hM) :=
  Nat.rec (motive := fun _ => Int32 → Int32 → Int32 → Int32 → Int32 → Int32 → hM → Option (Int32 × hM)) (fun _ _ _ _ _ _ _ => none) (fun _ ih => s_X10_homes_83 fu ih) n
theorem f_X10_homes_83_s (fu : Nat) (n : Nat) (x1 : Int32) (x2 : Int32) (x4 : Int32) (x5 : Int32) (x6 : Int32) (x7 : Int32) (m : hM) : f_X10_homes_83 fu (n + 1) x1 x2 x4 x5 x6 x7 m = s_X10_homes_83 fu (f_X10_homes_83 fu n) x1 x2 x4 x5 x6 x7 m := rfl
set_option maxRecDepth 100000 in
set_option maxHeartbeats 4000000 in
theorem r_X10_homes_83 {G : hG} {X : hX} (C : Cx G X 8 cX10_homes 9 RX10 (some .int)) (K : Cr G X) (fu : Nat) (n : Nat) : ∀ (x1 : Int32) (x2 : Int32) (x4 : Int32) (x5 : Int32) (x6 : Int32) (x7 : Int32) (m : hM), Rf vI G X 83 [(0, hA G 0), (1, .int x1), (2, .int x2), (4, .int x4), (5, .int x5), (6, .int x6), (7, .int x7)] [] m (f_X10_homes_83 fu n x1 x2 x4 x5 x6 x7 m) := by
  induction n with
  | zero => intros; exact rf_none
  | succ n ih =>
    intro x1 x2 x4 x5 x6 x7 m
    show Rf vI G X 83 [(0, hA G 0), (1, .int x1), (2, .int x2), (4, .int x4), (5, .int x5), (6, .int x6), (7, .int x7)] [] m (s_X10_homes_83 fu (f_X10_homes_83 fu n) x1 x2 x4 x5 x6 x7 m)
    unfold s_X10_homes_83
    refine rf_iload C (n := 85) (q := 6) dX10_homes_83 rfl rfl ?_
    refine rf_iload C (n := 87) (q := 3) dX10_homes_85 rfl rfl ?_
    refine rf_icmp_ge C (tgt := 141) (n := 90) dX10_homes_87 (by decide) rfl (fun h13 => ?_) (fun h13 => ?_)
    · exact rf_lv _ [0, 1, 4, 5] rfl (r_X10_homes_141 C K fu _ _ _ _)
    · refine rf_aload_n C (n := 91) (q := 0) dX10_homes_90 rfl rfl rfl ?_
      refine rf_iload_n C (n := 92) (q := 2) dX10_homes_91 rfl rfl rfl ?_
      refine rf_callVa C (n := 95) (c_X10_begunAt G fu _ _) mw_RX10_322 ly_0 rfl ⟨by decide, by decide⟩ rfl (Nat.le_of_ble_eq_true rfl) rfl dX10_homes_92 rfl (fun y18 m19 => ?_)
      refine rf_guard (fun h20 => ?_)
      subst h20
      refine rf_pop C (n := 96) dX10_homes_95 rfl rfl ?_
      refine rf_aload_n C (n := 97) (q := 0) dX10_homes_96 rfl rfl rfl ?_
      refine rf_iload_n C (n := 98) (q := 1) dX10_homes_97 rfl rfl rfl ?_
      refine rf_iload C (n := 100) (q := 6) dX10_homes_98 rfl rfl ?_
      refine rf_callVv C (n := 103) (c_X10_houseTrial G fu _ _ _) mw_RX10_326 ly_0 rfl ⟨by decide, by decide⟩ rfl (Nat.le_of_ble_eq_true rfl) rfl dX10_homes_100 rfl (fun _ m21 => ?_)
      refine rf_aload_n C (n := 104) (q := 0) dX10_homes_103 rfl rfl rfl ?_
      refine rf_getS C (n := 107) fl_RX10_42 ly_0 rfl dX10_homes_104 rfl ?_
      refine rf_aload_n C (n := 108) (q := 0) dX10_homes_107 rfl rfl rfl ?_
      refine rf_getS C (n := 111) fl_RX10_69 ly_0 rfl dX10_homes_108 rfl ?_
      refine rf_iload C (n := 113) (q := 5) dX10_homes_111 rfl rfl ?_
      refine rf_iconst C (n := 114) (v := 1) dX10_homes_113 rfl (by decide) ?_
      refine rf_isub C (n := 115) dX10_homes_114 rfl ?_
      refine rf_callVi C (n := 118) (c_X8_runToEnd G fu _ _ _) mw_RX10_270 ly_32 rfl ⟨by decide, by decide⟩ rfl (Nat.le_of_ble_eq_true rfl) rfl dX10_homes_115 rfl (fun y22 m23 => ?_)
      refine rf_istore C (n := 120) [(8, .int y22), (0, hA G 0), (1, .int x1), (2, .int x2), (4, .int x4), (5, .int x5), (6, .int x6), (7, .int x7)] dX10_homes_118 rfl (by decide) rfl ?_
      refine rf_iload C (n := 122) (q := 0) dX10_homes_120 rfl rfl ?_
      refine rf_bipush C (n := 124) (v := (-2)) dX10_homes_122 rfl (by decide) ?_
      refine rf_icmp_eq C (tgt := 135) (n := 127) dX10_homes_124 (by decide) rfl (fun h24 => ?_) (fun h24 => ?_)
      · exact rf_lv _ [1, 2, 3, 4, 5, 6, 7] rfl (r_X10_homes_135 C K fu _ ih _ _ _ _ _ _ _)
      · refine rf_iload C (n := 129) (q := 7) dX10_homes_127 rfl rfl ?_
        refine rf_istore C (n := 131) [(5, .int x7), (8, .int y22), (0, hA G 0), (1, .int x1), (2, .int x2), (4, .int x4), (6, .int x6), (7, .int x7)] dX10_homes_129 rfl (by decide) rfl ?_
        refine rf_iload C (n := 133) (q := 1) dX10_homes_131 rfl rfl ?_
        refine rf_istore C (n := 135) [(6, .int y22), (5, .int x7), (8, .int y22), (0, hA G 0), (1, .int x1), (2, .int x2), (4, .int x4), (7, .int x7)] dX10_homes_133 rfl (by decide) rfl ?_
        exact rf_lv _ [3, 4, 5, 6, 1, 0, 7] rfl (r_X10_homes_135 C K fu _ ih _ _ _ _ _ _ _)
noncomputable def f_X10_homes_64 (fu : Nat) (x1 : Int32) (x2 : Int32) (x4 : Int32) (m : hM) : Option (Int32 × hM) :=
  hLet (sI m 32 3 0) fun m12 =>
f_X10_homes_83 fu fu x1 x2 x4 (-1) 2400 0 m12
set_option maxRecDepth 100000 in
set_option maxHeartbeats 4000000 in
theorem r_X10_homes_64 {G : hG} {X : hX} (C : Cx G X 8 cX10_homes 9 RX10 (some .int)) (K : Cr G X) (fu : Nat) (x1 : Int32) (x2 : Int32) (x4 : Int32) (m : hM) : Rf vI G X 64 [(0, hA G 0), (1, .int x1), (2, .int x2), (4, .int x4)] [] m (f_X10_homes_64 fu x1 x2 x4 m) := by
  unfold f_X10_homes_64
  refine rf_iconst C (n := 65) (v := (-1)) dX10_homes_64 rfl (by decide) ?_
  refine rf_istore C (n := 67) [(5, .int (-1)), (0, hA G 0), (1, .int x1), (2, .int x2), (4, .int x4)] dX10_homes_65 rfl (by decide) rfl ?_
  refine rf_sipush C (n := 70) (v := 2400) dX10_homes_67 rfl (by decide) ?_
  refine rf_istore C (n := 72) [(6, .int 2400), (5, .int (-1)), (0, hA G 0), (1, .int x1), (2, .int x2), (4, .int x4)] dX10_homes_70 rfl (by decide) rfl ?_
  refine rf_aload_n C (n := 73) (q := 2) dX10_homes_72 rfl rfl rfl ?_
  refine rf_getS C (n := 76) fl_RX10_42 ly_0 rfl dX10_homes_73 rfl ?_
  refine rf_iconst C (n := 77) (v := 0) dX10_homes_76 rfl (by decide) ?_
  refine rf_putI C (n := 80) pl_RX10_318 ly_32 rfl ⟨rfl, rfl⟩ dX10_homes_77 rfl ?_
  refine rf_letM (fun m12 => ?_)
  refine rf_iconst C (n := 81) (v := 0) dX10_homes_80 rfl (by decide) ?_
  refine rf_istore C (n := 83) [(7, .int 0), (6, .int 2400), (5, .int (-1)), (0, hA G 0), (1, .int x1), (2, .int x2), (4, .int x4)] dX10_homes_81 rfl (by decide) rfl ?_
  exact rf_lv _ [3, 4, 5, 6, 2, 1, 0] rfl (r_X10_homes_83 C K fu fu _ _ _ _ _ _ _)
noncomputable def s_X10_homes_40 (fu : Nat) (ih : Int32 → Int32 → Int32 → Int32 → Int32 → hM → Option (Int32 × hM)) (x1 : Int32) (x2 : Int32) (x3 : Int32) (x4 : Int32) (x5 : Int32) (m : hM) : Option (Int32 × hM) :=
  if x3 ≤ x5 then (
f_X10_homes_64 fu x1 x2 x4 m) else (
hLet (x4 * (gI m 1 4)) fun y26 =>
hLet (x5 + 1) fun y27 =>
ih x1 x2 x3 y26 y27 m)
noncomputable def f_X10_homes_40 (fu : Nat) (n : Nat) : Int32 → Int32 → Int32 → Int32 → Int32 → hM → Option (Int32 × hM) :=
  Nat.rec (motive := fun _ => Int32 → Int32 → Int32 → Int32 → Int32 → hM → Option (Int32 × hM)) (fun _ _ _ _ _ _ => none) (fun _ ih => s_X10_homes_40 fu ih) n
theorem f_X10_homes_40_s (fu : Nat) (n : Nat) (x1 : Int32) (x2 : Int32) (x3 : Int32) (x4 : Int32) (x5 : Int32) (m : hM) : f_X10_homes_40 fu (n + 1) x1 x2 x3 x4 x5 m = s_X10_homes_40 fu (f_X10_homes_40 fu n) x1 x2 x3 x4 x5 m := rfl
set_option maxRecDepth 100000 in
set_option maxHeartbeats 4000000 in
theorem r_X10_homes_40 {G : hG} {X : hX} (C : Cx G X 8 cX10_homes 9 RX10 (some .int)) (K : Cr G X) (fu : Nat) (n : Nat) : ∀ (x1 : Int32) (x2 : Int32) (x3 : Int32) (x4 : Int32) (x5 : Int32) (m : hM), Rf vI G X 40 [(0, hA G 0), (1, .int x1), (2, .int x2), (3, .int x3), (4, .int x4), (5, .int x5)] [] m (f_X10_homes_40 fu n x1 x2 x3 x4 x5 m) := by
  induction n with
  | zero => intros; exact rf_none
  | succ n ih =>
    intro x1 x2 x3 x4 x5 m
    show Rf vI G X 40 [(0, hA G 0), (1, .int x1), (2, .int x2), (3, .int x3), (4, .int x4), (5, .int x5)] [] m (s_X10_homes_40 fu (f_X10_homes_40 fu n) x1 x2 x3 x4 x5 m)
    unfold s_X10_homes_40
    refine rf_iload C (n := 42) (q := 5) dX10_homes_40 rfl rfl ?_
    refine rf_iload_n C (n := 43) (q := 3) dX10_homes_42 rfl rfl rfl ?_
    refine rf_icmp_ge C (tgt := 64) (n := 46) dX10_homes_43 (by decide) rfl (fun h11 => ?_) (fun h11 => ?_)
    · exact rf_lv _ [0, 1, 2, 4] rfl (r_X10_homes_64 C K fu _ _ _ _)
    · refine rf_iload C (n := 48) (q := 4) dX10_homes_46 rfl rfl ?_
      refine rf_aload_n C (n := 49) (q := 0) dX10_homes_48 rfl rfl rfl ?_
      refine rf_getS C (n := 52) fl_RX10_12 ly_0 rfl dX10_homes_49 rfl ?_
      refine rf_getI C (n := 55) fl_RX10_95 ly_1 rfl dX10_homes_52 rfl ?_
      refine rf_imul C (n := 56) dX10_homes_55 rfl ?_
      refine rf_letI (fun y26 => ?_)
      refine rf_istore C (n := 58) [(4, .int y26), (0, hA G 0), (1, .int x1), (2, .int x2), (3, .int x3), (5, .int x5)] dX10_homes_56 rfl (by decide) rfl ?_
      refine rf_iinc2 C (n := 61) (q := 5) (fun y27 => [(5, .int y27), (4, .int y26), (0, hA G 0), (1, .int x1), (2, .int x2), (3, .int x3)]) dX10_homes_58 rfl rfl (by decide) (by decide) (fun _ => rfl) (fun y27 => ?_)
      refine rf_goto C (n := 40) dX10_homes_61 (by decide) ?_
      exact rf_lv _ [2, 3, 4, 5, 1, 0] rfl (ih _ _ _ _ _ _)
noncomputable def f_X10_homes (fu : Nat) (x1 : Int32) (x2 : Int32) (m : hM) : Option (Int32 × hM) :=
  hBd (f_J6_bitCount_0f7a4 fu x1 m) fun y1 m2 =>
if x1 ≤ 0 then (
some ((-1), m2)) else (
hBd (f_X4_all fu m2) fun y4 m5 =>
if y4 < x1 then (
some ((-1), m5)) else (
if 4 < y1 then (
some ((-1), m5)) else (
hBd (f_X10_isHour fu x2 m5) fun y8 m9 =>
if ¬ y8 = 0 then (
f_X10_homes_40 fu fu x1 x2 y1 1 0 m9) else (
some ((-1), m9)))))
set_option maxRecDepth 100000 in
set_option maxHeartbeats 4000000 in
theorem c_X10_homes (G : hG) (fu : Nat) (x1 : Int32) (x2 : Int32) (m : hM) : Mt vI G 8 yX10_homes cX10_homes 9 (some .int) [hA G 0, .int x1, .int x2] m (f_X10_homes fu x1 x2 m) := by
  refine mt_of (by decide +kernel) (Nat.le_of_ble_eq_true rfl) (fun X C K => ?_)
  have C : Cx G X 8 cX10_homes 9 RX10 (some .int) := C
  show Rf vI G X 0 [(0, hA G 0), (1, .int x1), (2, .int x2)] [] m _
  unfold f_X10_homes
  refine rf_iload_n C (n := 1) (q := 1) dX10_homes_0 rfl rfl rfl ?_
  refine rf_callSi C (n := 4) (c_J6_bitCount_0f7a4 G fu _ _) sw_RX10_158 ⟨by decide, by decide⟩ rfl (Nat.le_of_ble_eq_true rfl) rfl dX10_homes_1 rfl (fun y1 m2 => ?_)
  refine rf_istore_n C (n := 5) [(3, .int y1), (0, hA G 0), (1, .int x1), (2, .int x2)] dX10_homes_4 rfl rfl (by decide) rfl ?_
  refine rf_iload_n C (n := 6) (q := 2) dX10_homes_5 rfl rfl rfl ?_
  refine rf_if_le C (tgt := 32) (n := 9) dX10_homes_6 (by decide) rfl (fun h3 => ?_) (fun h3 => ?_)
  · refine rf_iconst C (n := 33) (v := (-1)) dX10_homes_32 rfl (by decide) ?_
    exact rf_iret C K dX10_homes_33
  · refine rf_iload_n C (n := 10) (q := 2) dX10_homes_9 rfl rfl rfl ?_
    refine rf_aload_n C (n := 11) (q := 1) dX10_homes_10 rfl rfl rfl ?_
    refine rf_getS C (n := 14) fl_RX10_19 ly_0 rfl dX10_homes_11 rfl ?_
    refine rf_callVi C (n := 17) (c_X4_all G fu _) mw_RX10_287 ly_18 rfl ⟨by decide, by decide⟩ rfl (Nat.le_of_ble_eq_true rfl) rfl dX10_homes_14 rfl (fun y4 m5 => ?_)
    refine rf_icmp_gt C (tgt := 32) (n := 20) dX10_homes_17 (by decide) rfl (fun h6 => ?_) (fun h6 => ?_)
    · refine rf_iconst C (n := 33) (v := (-1)) dX10_homes_32 rfl (by decide) ?_
      exact rf_iret C K dX10_homes_33
    · refine rf_iload_n C (n := 21) (q := 0) dX10_homes_20 rfl rfl rfl ?_
      refine rf_iconst C (n := 22) (v := 4) dX10_homes_21 rfl (by decide) ?_
      refine rf_icmp_gt C (tgt := 32) (n := 25) dX10_homes_22 (by decide) rfl (fun h7 => ?_) (fun h7 => ?_)
      · refine rf_iconst C (n := 33) (v := (-1)) dX10_homes_32 rfl (by decide) ?_
        exact rf_iret C K dX10_homes_33
      · refine rf_iload_n C (n := 26) (q := 3) dX10_homes_25 rfl rfl rfl ?_
        refine rf_callSi C (n := 29) (c_X10_isHour G fu _ _) sw_RX10_119 ⟨by decide, by decide⟩ rfl (Nat.le_of_ble_eq_true rfl) rfl dX10_homes_26 rfl (fun y8 m9 => ?_)
        refine rf_if_ne C (tgt := 34) (n := 32) dX10_homes_29 (by decide) rfl (fun h10 => ?_) (fun h10 => ?_)
        · refine rf_iconst C (n := 35) (v := 1) dX10_homes_34 rfl (by decide) ?_
          refine rf_istore C (n := 37) [(4, .int 1), (3, .int y1), (0, hA G 0), (1, .int x1), (2, .int x2)] dX10_homes_35 rfl (by decide) rfl ?_
          refine rf_iconst C (n := 38) (v := 0) dX10_homes_37 rfl (by decide) ?_
          refine rf_istore C (n := 40) [(5, .int 0), (4, .int 1), (3, .int y1), (0, hA G 0), (1, .int x1), (2, .int x2)] dX10_homes_38 rfl (by decide) rfl ?_
          exact rf_lv _ [3, 4, 5, 2, 1, 0] rfl (r_X10_homes_40 C K fu fu _ _ _ _ _ _)
        · refine rf_iconst C (n := 33) (v := (-1)) dX10_homes_32 rfl (by decide) ?_
          exact rf_iret C K dX10_homes_33
noncomputable def f_X10_pair (fu : Nat) (x1 : Int32) (x2 : Int32) (x3 : Int32) (m : hM) : Option (Int32 × hM) :=
  hBd (f_X0_has fu x1 m) fun y1 m2 =>
if y1 = 0 then (
some ((-1), m2)) else (
hBd (f_X0_has fu x2 m2) fun y4 m5 =>
if y4 = 0 then (
some ((-1), m5)) else (
if x1 = x2 then (
some ((-1), m5)) else (
if x3 < 1 then (
some ((-1), m5)) else (
if x3 ≤ 99 then (
if 9 ≤ (gI m5 41 4) then (
some ((-1), m5)) else (
hBd (f_X3_told fu x1 x2 m5) fun y11 m12 =>
if y11 = 0 then (
if hIn (gI m12 41 4) 9 then (
hLet (sI m12 42 (Int32.toNatClampNeg (gI m12 41 4)) x1) fun m15 =>
if hIn (gI m15 41 4) 9 then (
hLet (sI m15 43 (Int32.toNatClampNeg (gI m15 41 4)) x2) fun m17 =>
if hIn (gI m17 41 4) 9 then (
hLet (sI m17 44 (Int32.toNatClampNeg (gI m17 41 4)) x3) fun m19 =>
hLet (sI m19 41 4 ((gI m19 41 4) + 1)) fun m20 =>
some (gI m20 41 4, m20)) else none) else none) else none) else (
some ((-1), m12)))) else (
some ((-1), m5))))))
set_option maxRecDepth 100000 in
set_option maxHeartbeats 4000000 in
theorem c_X10_pair (G : hG) (fu : Nat) (x1 : Int32) (x2 : Int32) (x3 : Int32) (m : hM) : Mt vI G 2 yX10_pair cX10_pair 4 (some .int) [hA G 0, .int x1, .int x2, .int x3] m (f_X10_pair fu x1 x2 x3 m) := by
  refine mt_of (by decide +kernel) (Nat.le_of_ble_eq_true rfl) (fun X C K => ?_)
  have C : Cx G X 2 cX10_pair 4 RX10 (some .int) := C
  show Rf vI G X 0 [(0, hA G 0), (1, .int x1), (2, .int x2), (3, .int x3)] [] m _
  unfold f_X10_pair
  refine rf_aload_n C (n := 1) (q := 0) dX10_pair_0 rfl rfl rfl ?_
  refine rf_getS C (n := 4) fl_RX10_12 ly_0 rfl dX10_pair_1 rfl ?_
  refine rf_iload_n C (n := 5) (q := 1) dX10_pair_4 rfl rfl rfl ?_
  refine rf_callVi C (n := 8) (c_X0_has G fu _ _) mw_RX10_116 ly_1 rfl ⟨by decide, by decide⟩ rfl (Nat.le_of_ble_eq_true rfl) rfl dX10_pair_5 rfl (fun y1 m2 => ?_)
  refine rf_if_eq C (tgt := 38) (n := 11) dX10_pair_8 (by decide) rfl (fun h3 => ?_) (fun h3 => ?_)
  · refine rf_iconst C (n := 39) (v := (-1)) dX10_pair_38 rfl (by decide) ?_
    exact rf_iret C K dX10_pair_39
  · refine rf_aload_n C (n := 12) (q := 0) dX10_pair_11 rfl rfl rfl ?_
    refine rf_getS C (n := 15) fl_RX10_12 ly_0 rfl dX10_pair_12 rfl ?_
    refine rf_iload_n C (n := 16) (q := 2) dX10_pair_15 rfl rfl rfl ?_
    refine rf_callVi C (n := 19) (c_X0_has G fu _ _) mw_RX10_116 ly_1 rfl ⟨by decide, by decide⟩ rfl (Nat.le_of_ble_eq_true rfl) rfl dX10_pair_16 rfl (fun y4 m5 => ?_)
    refine rf_if_eq C (tgt := 38) (n := 22) dX10_pair_19 (by decide) rfl (fun h6 => ?_) (fun h6 => ?_)
    · refine rf_iconst C (n := 39) (v := (-1)) dX10_pair_38 rfl (by decide) ?_
      exact rf_iret C K dX10_pair_39
    · refine rf_iload_n C (n := 23) (q := 1) dX10_pair_22 rfl rfl rfl ?_
      refine rf_iload_n C (n := 24) (q := 2) dX10_pair_23 rfl rfl rfl ?_
      refine rf_icmp_eq C (tgt := 38) (n := 27) dX10_pair_24 (by decide) rfl (fun h7 => ?_) (fun h7 => ?_)
      · refine rf_iconst C (n := 39) (v := (-1)) dX10_pair_38 rfl (by decide) ?_
        exact rf_iret C K dX10_pair_39
      · refine rf_iload_n C (n := 28) (q := 3) dX10_pair_27 rfl rfl rfl ?_
        refine rf_iconst C (n := 29) (v := 1) dX10_pair_28 rfl (by decide) ?_
        refine rf_icmp_lt C (tgt := 38) (n := 32) dX10_pair_29 (by decide) rfl (fun h8 => ?_) (fun h8 => ?_)
        · refine rf_iconst C (n := 39) (v := (-1)) dX10_pair_38 rfl (by decide) ?_
          exact rf_iret C K dX10_pair_39
        · refine rf_iload_n C (n := 33) (q := 3) dX10_pair_32 rfl rfl rfl ?_
          refine rf_bipush C (n := 35) (v := 99) dX10_pair_33 rfl (by decide) ?_
          refine rf_icmp_le C (tgt := 40) (n := 38) dX10_pair_35 (by decide) rfl (fun h9 => ?_) (fun h9 => ?_)
          · refine rf_aload_n C (n := 41) (q := 0) dX10_pair_40 rfl rfl rfl ?_
            refine rf_getS C (n := 44) fl_RX10_58 ly_0 rfl dX10_pair_41 rfl ?_
            refine rf_getI C (n := 47) fl_RX10_333 ly_41 rfl dX10_pair_44 rfl ?_
            refine rf_bipush C (n := 49) (v := 9) dX10_pair_47 rfl (by decide) ?_
            refine rf_icmp_ge C (tgt := 64) (n := 52) dX10_pair_49 (by decide) rfl (fun h10 => ?_) (fun h10 => ?_)
            · refine rf_iconst C (n := 65) (v := (-1)) dX10_pair_64 rfl (by decide) ?_
              exact rf_iret C K dX10_pair_65
            · refine rf_aload_n C (n := 53) (q := 0) dX10_pair_52 rfl rfl rfl ?_
              refine rf_getS C (n := 56) fl_RX10_58 ly_0 rfl dX10_pair_53 rfl ?_
              refine rf_iload_n C (n := 57) (q := 1) dX10_pair_56 rfl rfl rfl ?_
              refine rf_iload_n C (n := 58) (q := 2) dX10_pair_57 rfl rfl rfl ?_
              refine rf_callVi C (n := 61) (c_X3_told G fu _ _ _) mw_RX10_334 ly_41 rfl ⟨by decide, by decide⟩ rfl (Nat.le_of_ble_eq_true rfl) rfl dX10_pair_58 rfl (fun y11 m12 => ?_)
              refine rf_if_eq C (tgt := 66) (n := 64) dX10_pair_61 (by decide) rfl (fun h13 => ?_) (fun h13 => ?_)
              · refine rf_aload_n C (n := 67) (q := 0) dX10_pair_66 rfl rfl rfl ?_
                refine rf_getS C (n := 70) fl_RX10_58 ly_0 rfl dX10_pair_67 rfl ?_
                refine rf_getS C (n := 73) fl_RX10_338 ly_41 rfl dX10_pair_70 rfl ?_
                refine rf_aload_n C (n := 74) (q := 0) dX10_pair_73 rfl rfl rfl ?_
                refine rf_getS C (n := 77) fl_RX10_58 ly_0 rfl dX10_pair_74 rfl ?_
                refine rf_getI C (n := 80) fl_RX10_333 ly_41 rfl dX10_pair_77 rfl ?_
                refine rf_iload_n C (n := 81) (q := 1) dX10_pair_80 rfl rfl rfl ?_
                refine rf_guard (fun h14 => ?_)
                refine rf_iast C (n := 82) ly_42 h14 rfl dX10_pair_81 rfl ?_
                refine rf_letM (fun m15 => ?_)
                refine rf_aload_n C (n := 83) (q := 0) dX10_pair_82 rfl rfl rfl ?_
                refine rf_getS C (n := 86) fl_RX10_58 ly_0 rfl dX10_pair_83 rfl ?_
                refine rf_getS C (n := 89) fl_RX10_341 ly_41 rfl dX10_pair_86 rfl ?_
                refine rf_aload_n C (n := 90) (q := 0) dX10_pair_89 rfl rfl rfl ?_
                refine rf_getS C (n := 93) fl_RX10_58 ly_0 rfl dX10_pair_90 rfl ?_
                refine rf_getI C (n := 96) fl_RX10_333 ly_41 rfl dX10_pair_93 rfl ?_
                refine rf_iload_n C (n := 97) (q := 2) dX10_pair_96 rfl rfl rfl ?_
                refine rf_guard (fun h16 => ?_)
                refine rf_iast C (n := 98) ly_43 h16 rfl dX10_pair_97 rfl ?_
                refine rf_letM (fun m17 => ?_)
                refine rf_aload_n C (n := 99) (q := 0) dX10_pair_98 rfl rfl rfl ?_
                refine rf_getS C (n := 102) fl_RX10_58 ly_0 rfl dX10_pair_99 rfl ?_
                refine rf_getS C (n := 105) fl_RX10_344 ly_41 rfl dX10_pair_102 rfl ?_
                refine rf_aload_n C (n := 106) (q := 0) dX10_pair_105 rfl rfl rfl ?_
                refine rf_getS C (n := 109) fl_RX10_58 ly_0 rfl dX10_pair_106 rfl ?_
                refine rf_getI C (n := 112) fl_RX10_333 ly_41 rfl dX10_pair_109 rfl ?_
                refine rf_iload_n C (n := 113) (q := 3) dX10_pair_112 rfl rfl rfl ?_
                refine rf_guard (fun h18 => ?_)
                refine rf_iast C (n := 114) ly_44 h18 rfl dX10_pair_113 rfl ?_
                refine rf_letM (fun m19 => ?_)
                refine rf_aload_n C (n := 115) (q := 0) dX10_pair_114 rfl rfl rfl ?_
                refine rf_getS C (n := 118) fl_RX10_58 ly_0 rfl dX10_pair_115 rfl ?_
                refine rf_dup C (n := 119) dX10_pair_118 rfl rfl ?_
                refine rf_getI C (n := 122) fl_RX10_333 ly_41 rfl dX10_pair_119 rfl ?_
                refine rf_iconst C (n := 123) (v := 1) dX10_pair_122 rfl (by decide) ?_
                refine rf_iadd C (n := 124) dX10_pair_123 rfl ?_
                refine rf_putI C (n := 127) pl_RX10_333 ly_41 rfl ⟨rfl, rfl⟩ dX10_pair_124 rfl ?_
                refine rf_letM (fun m20 => ?_)
                refine rf_aload_n C (n := 128) (q := 0) dX10_pair_127 rfl rfl rfl ?_
                refine rf_getS C (n := 131) fl_RX10_58 ly_0 rfl dX10_pair_128 rfl ?_
                refine rf_getI C (n := 134) fl_RX10_333 ly_41 rfl dX10_pair_131 rfl ?_
                exact rf_iret C K dX10_pair_134
              · refine rf_iconst C (n := 65) (v := (-1)) dX10_pair_64 rfl (by decide) ?_
                exact rf_iret C K dX10_pair_65
          · refine rf_iconst C (n := 39) (v := (-1)) dX10_pair_38 rfl (by decide) ?_
            exact rf_iret C K dX10_pair_39
noncomputable def f_X10_whom_165 (fu : Nat) (x3 : Int32) (x4 : Int32) (x5 : Int32) (m : hM) : Option (Int32 × hM) :=
  if ¬ x3 = (-1) then (
hBd (f_X1_clear fu m) fun _ m9 =>
hBd (f_X1_tell fu (Int32.toInt64 x3) m9) fun _ m10 =>
hBd (f_X1_tell fu (Int32.toInt64 x5) m10) fun _ m11 =>
some (x4, m11)) else (
some ((-2), m))
set_option maxRecDepth 100000 in
set_option maxHeartbeats 4000000 in
theorem r_X10_whom_165 {G : hG} {X : hX} (C : Cx G X 8 cX10_whom 9 RX10 (some .int)) (K : Cr G X) (fu : Nat) (x3 : Int32) (x4 : Int32) (x5 : Int32) (m : hM) : Rf vI G X 165 [(0, hA G 0), (3, .int x3), (4, .int x4), (5, .int x5)] [] m (f_X10_whom_165 fu x3 x4 x5 m) := by
  unfold f_X10_whom_165
  refine rf_iload_n C (n := 166) (q := 1) dX10_whom_165 rfl rfl rfl ?_
  refine rf_iconst C (n := 167) (v := (-1)) dX10_whom_166 rfl (by decide) ?_
  refine rf_icmp_ne C (tgt := 173) (n := 170) dX10_whom_167 (by decide) rfl (fun h8 => ?_) (fun h8 => ?_)
  · refine rf_aload_n C (n := 174) (q := 0) dX10_whom_173 rfl rfl rfl ?_
    refine rf_getS C (n := 177) fl_RX10_83 ly_0 rfl dX10_whom_174 rfl ?_
    refine rf_callVv C (n := 180) (c_X1_clear G fu _) mw_RX10_170 ly_66 rfl ⟨by decide, by decide⟩ rfl (Nat.le_of_ble_eq_true rfl) rfl dX10_whom_177 rfl (fun _ m9 => ?_)
    refine rf_aload_n C (n := 181) (q := 0) dX10_whom_180 rfl rfl rfl ?_
    refine rf_getS C (n := 184) fl_RX10_83 ly_0 rfl dX10_whom_181 rfl ?_
    refine rf_iload_n C (n := 185) (q := 1) dX10_whom_184 rfl rfl rfl ?_
    refine rf_i2l C (n := 186) dX10_whom_185 rfl ?_
    refine rf_callVv C (n := 189) (c_X1_tell G fu _ _) mw_RX10_173 ly_66 rfl ⟨by decide, by decide⟩ rfl (Nat.le_of_ble_eq_true rfl) rfl dX10_whom_186 rfl (fun _ m10 => ?_)
    refine rf_aload_n C (n := 190) (q := 0) dX10_whom_189 rfl rfl rfl ?_
    refine rf_getS C (n := 193) fl_RX10_83 ly_0 rfl dX10_whom_190 rfl ?_
    refine rf_iload C (n := 195) (q := 3) dX10_whom_193 rfl rfl ?_
    refine rf_i2l C (n := 196) dX10_whom_195 rfl ?_
    refine rf_callVv C (n := 199) (c_X1_tell G fu _ _) mw_RX10_173 ly_66 rfl ⟨by decide, by decide⟩ rfl (Nat.le_of_ble_eq_true rfl) rfl dX10_whom_196 rfl (fun _ m11 => ?_)
    refine rf_iload C (n := 201) (q := 2) dX10_whom_199 rfl rfl ?_
    exact rf_iret C K dX10_whom_201
  · refine rf_bipush C (n := 172) (v := (-2)) dX10_whom_170 rfl (by decide) ?_
    exact rf_iret C K dX10_whom_172
noncomputable def f_X10_whom_159 (fu : Nat) (k43 : Int32 → Int32 → Int32 → Int32 → Int32 → Int32 → hM → Option (Int32 × hM)) (x1 : Int32) (x2 : Int32) (x3 : Int32) (x4 : Int32) (x5 : Int32) (x6 : Int32) (m : hM) : Option (Int32 × hM) :=
  hLet (x6 + 1) fun y24 =>
k43 x1 x2 x3 x4 x5 y24 m
set_option maxRecDepth 100000 in
set_option maxHeartbeats 4000000 in
theorem r_X10_whom_159 {G : hG} {X : hX} (C : Cx G X 8 cX10_whom 9 RX10 (some .int)) (K : Cr G X) (fu : Nat) (k43 : Int32 → Int32 → Int32 → Int32 → Int32 → Int32 → hM → Option (Int32 × hM)) (hk43 : ∀ (x1 : Int32) (x2 : Int32) (x3 : Int32) (x4 : Int32) (x5 : Int32) (x6 : Int32) (m : hM), Rf vI G X 43 [(0, hA G 0), (1, .int x1), (2, .int x2), (3, .int x3), (4, .int x4), (5, .int x5), (6, .int x6)] [] m (k43 x1 x2 x3 x4 x5 x6 m)) (x1 : Int32) (x2 : Int32) (x3 : Int32) (x4 : Int32) (x5 : Int32) (x6 : Int32) (m : hM) : Rf vI G X 159 [(0, hA G 0), (1, .int x1), (2, .int x2), (3, .int x3), (4, .int x4), (5, .int x5), (6, .int x6)] [] m (f_X10_whom_159 fu k43 x1 x2 x3 x4 x5 x6 m) := by
  unfold f_X10_whom_159
  refine rf_iinc2 C (n := 162) (q := 6) (fun y24 => [(6, .int y24), (0, hA G 0), (1, .int x1), (2, .int x2), (3, .int x3), (4, .int x4), (5, .int x5)]) dX10_whom_159 rfl rfl (by decide) (by decide) (fun _ => rfl) (fun y24 => ?_)
  refine rf_goto C (n := 43) dX10_whom_162 (by decide) ?_
  exact rf_lv _ [1, 2, 3, 4, 5, 6, 0] rfl (hk43 _ _ _ _ _ _ _)
noncomputable def f_X10_whom_148 (fu : Nat) (k43 : Int32 → Int32 → Int32 → Int32 → Int32 → Int32 → hM → Option (Int32 × hM)) (x1 : Int32) (x2 : Int32) (x6 : Int32) (x7 : Int32) (x8 : Int32) (m : hM) : Option (Int32 × hM) :=
  f_X10_whom_159 fu k43 x1 x2 x6 x8 x7 x6 m
set_option maxRecDepth 100000 in
set_option maxHeartbeats 4000000 in
theorem r_X10_whom_148 {G : hG} {X : hX} (C : Cx G X 8 cX10_whom 9 RX10 (some .int)) (K : Cr G X) (fu : Nat) (k43 : Int32 → Int32 → Int32 → Int32 → Int32 → Int32 → hM → Option (Int32 × hM)) (hk43 : ∀ (x1 : Int32) (x2 : Int32) (x3 : Int32) (x4 : Int32) (x5 : Int32) (x6 : Int32) (m : hM), Rf vI G X 43 [(0, hA G 0), (1, .int x1), (2, .int x2), (3, .int x3), (4, .int x4), (5, .int x5), (6, .int x6)] [] m (k43 x1 x2 x3 x4 x5 x6 m)) (x1 : Int32) (x2 : Int32) (x6 : Int32) (x7 : Int32) (x8 : Int32) (m : hM) : Rf vI G X 148 [(0, hA G 0), (1, .int x1), (2, .int x2), (6, .int x6), (7, .int x7), (8, .int x8)] [] m (f_X10_whom_148 fu k43 x1 x2 x6 x7 x8 m) := by
  unfold f_X10_whom_148
  refine rf_iload C (n := 150) (q := 3) dX10_whom_148 rfl rfl ?_
  refine rf_istore_n C (n := 151) [(3, .int x6), (0, hA G 0), (1, .int x1), (2, .int x2), (6, .int x6), (7, .int x7), (8, .int x8)] dX10_whom_150 rfl rfl (by decide) rfl ?_
  refine rf_iload C (n := 153) (q := 6) dX10_whom_151 rfl rfl ?_
  refine rf_istore C (n := 155) [(4, .int x8), (3, .int x6), (0, hA G 0), (1, .int x1), (2, .int x2), (6, .int x6), (7, .int x7), (8, .int x8)] dX10_whom_153 rfl (by decide) rfl ?_
  refine rf_iload C (n := 157) (q := 6) dX10_whom_155 rfl rfl ?_
  refine rf_istore C (n := 159) [(5, .int x7), (4, .int x8), (3, .int x6), (0, hA G 0), (1, .int x1), (2, .int x2), (6, .int x6), (7, .int x7), (8, .int x8)] dX10_whom_157 rfl (by decide) rfl ?_
  exact rf_lv _ [3, 4, 5, 2, 1, 0, 6] rfl (r_X10_whom_159 C K fu _ hk43 _ _ _ _ _ _ _)
noncomputable def s_X10_whom_43 (fu : Nat) (ih : Int32 → Int32 → Int32 → Int32 → Int32 → Int32 → hM → Option (Int32 × hM)) (x1 : Int32) (x2 : Int32) (x3 : Int32) (x4 : Int32) (x5 : Int32) (x6 : Int32) (m : hM) : Option (Int32 × hM) :=
  if (1 <<< ((gI m 41 4) &&& 31)) ≤ x6 then (
f_X10_whom_165 fu x3 x4 x5 m) else (
hBd (f_X3_priceOf fu x6 m) fun y12 m13 =>
if y12 ≤ x1 then (
hBd (f_X3_bringTogether fu x6 m13) fun _ m15 =>
hBd (f_X10_begunAt fu x2 m15) fun y16 m17 =>
if y16 = 55 then (
hBd (f_X8_runToEnd fu 55 x4 m17) fun y19 m20 =>
hBd (f_X3_takeBack fu x6 m20) fun _ m21 =>
if ¬ y19 = (-2) then (
if x3 = (-1) then (
f_X10_whom_148 fu ih x1 x2 x6 y12 y19 m21) else (
if y19 < x4 then (
f_X10_whom_148 fu ih x1 x2 x6 y12 y19 m21) else (
if x5 ≤ y12 then (
f_X10_whom_159 fu ih x1 x2 x3 x4 x5 x6 m21) else (
f_X10_whom_148 fu ih x1 x2 x6 y12 y19 m21)))) else (
f_X10_whom_159 fu ih x1 x2 x3 x4 x5 x6 m21)) else none) else (
f_X10_whom_159 fu ih x1 x2 x3 x4 x5 x6 m13))
noncomputable def f_X10_whom_43 (fu : Nat) (n : Nat) : Int32 → Int32 → Int32 → Int32 → Int32 → Int32 → hM → Option (Int32 × hM) :=
  Nat.rec (motive := fun _ => Int32 → Int32 → Int32 → Int32 → Int32 → Int32 → hM → Option (Int32 × hM)) (fun _ _ _ _ _ _ _ => none) (fun _ ih => s_X10_whom_43 fu ih) n
theorem f_X10_whom_43_s (fu : Nat) (n : Nat) (x1 : Int32) (x2 : Int32) (x3 : Int32) (x4 : Int32) (x5 : Int32) (x6 : Int32) (m : hM) : f_X10_whom_43 fu (n + 1) x1 x2 x3 x4 x5 x6 m = s_X10_whom_43 fu (f_X10_whom_43 fu n) x1 x2 x3 x4 x5 x6 m := rfl
set_option maxRecDepth 100000 in
set_option maxHeartbeats 4000000 in
theorem r_X10_whom_43 {G : hG} {X : hX} (C : Cx G X 8 cX10_whom 9 RX10 (some .int)) (K : Cr G X) (fu : Nat) (n : Nat) : ∀ (x1 : Int32) (x2 : Int32) (x3 : Int32) (x4 : Int32) (x5 : Int32) (x6 : Int32) (m : hM), Rf vI G X 43 [(0, hA G 0), (1, .int x1), (2, .int x2), (3, .int x3), (4, .int x4), (5, .int x5), (6, .int x6)] [] m (f_X10_whom_43 fu n x1 x2 x3 x4 x5 x6 m) := by
  induction n with
  | zero => intros; exact rf_none
  | succ n ih =>
    intro x1 x2 x3 x4 x5 x6 m
    show Rf vI G X 43 [(0, hA G 0), (1, .int x1), (2, .int x2), (3, .int x3), (4, .int x4), (5, .int x5), (6, .int x6)] [] m (s_X10_whom_43 fu (f_X10_whom_43 fu n) x1 x2 x3 x4 x5 x6 m)
    unfold s_X10_whom_43
    refine rf_iload C (n := 45) (q := 6) dX10_whom_43 rfl rfl ?_
    refine rf_iconst C (n := 46) (v := 1) dX10_whom_45 rfl (by decide) ?_
    refine rf_aload_n C (n := 47) (q := 0) dX10_whom_46 rfl rfl rfl ?_
    refine rf_getS C (n := 50) fl_RX10_58 ly_0 rfl dX10_whom_47 rfl ?_
    refine rf_getI C (n := 53) fl_RX10_333 ly_41 rfl dX10_whom_50 rfl ?_
    refine rf_ishl C (n := 54) dX10_whom_53 rfl ?_
    refine rf_icmp_ge C (tgt := 165) (n := 57) dX10_whom_54 (by decide) rfl (fun h7 => ?_) (fun h7 => ?_)
    · exact rf_lv _ [0, 3, 4, 5] rfl (r_X10_whom_165 C K fu _ _ _ _)
    · refine rf_aload_n C (n := 58) (q := 0) dX10_whom_57 rfl rfl rfl ?_
      refine rf_getS C (n := 61) fl_RX10_58 ly_0 rfl dX10_whom_58 rfl ?_
      refine rf_iload C (n := 63) (q := 6) dX10_whom_61 rfl rfl ?_
      refine rf_callVi C (n := 66) (c_X3_priceOf G fu _ _) mw_RX10_347 ly_41 rfl ⟨by decide, by decide⟩ rfl (Nat.le_of_ble_eq_true rfl) rfl dX10_whom_63 rfl (fun y12 m13 => ?_)
      refine rf_istore C (n := 68) [(7, .int y12), (0, hA G 0), (1, .int x1), (2, .int x2), (3, .int x3), (4, .int x4), (5, .int x5), (6, .int x6)] dX10_whom_66 rfl (by decide) rfl ?_
      refine rf_iload C (n := 70) (q := 0) dX10_whom_68 rfl rfl ?_
      refine rf_iload_n C (n := 71) (q := 2) dX10_whom_70 rfl rfl rfl ?_
      refine rf_icmp_le C (tgt := 77) (n := 74) dX10_whom_71 (by decide) rfl (fun h14 => ?_) (fun h14 => ?_)
      · refine rf_aload_n C (n := 78) (q := 1) dX10_whom_77 rfl rfl rfl ?_
        refine rf_getS C (n := 81) fl_RX10_58 ly_0 rfl dX10_whom_78 rfl ?_
        refine rf_aload_n C (n := 82) (q := 1) dX10_whom_81 rfl rfl rfl ?_
        refine rf_getS C (n := 85) fl_RX10_12 ly_0 rfl dX10_whom_82 rfl ?_
        refine rf_iload C (n := 87) (q := 7) dX10_whom_85 rfl rfl ?_
        refine rf_callVv C (n := 90) (c_X3_bringTogether G fu _ _) mw_RX10_350 ly_41 rfl ⟨by decide, by decide⟩ rfl (Nat.le_of_ble_eq_true rfl) rfl dX10_whom_87 rfl (fun _ m15 => ?_)
        refine rf_aload_n C (n := 91) (q := 1) dX10_whom_90 rfl rfl rfl ?_
        refine rf_getS C (n := 94) fl_RX10_42 ly_0 rfl dX10_whom_91 rfl ?_
        refine rf_aload_n C (n := 95) (q := 1) dX10_whom_94 rfl rfl rfl ?_
        refine rf_iload_n C (n := 96) (q := 3) dX10_whom_95 rfl rfl rfl ?_
        refine rf_callVa C (n := 99) (c_X10_begunAt G fu _ _) mw_RX10_322 ly_0 rfl ⟨by decide, by decide⟩ rfl (Nat.le_of_ble_eq_true rfl) rfl dX10_whom_96 rfl (fun y16 m17 => ?_)
        refine rf_guard (fun h18 => ?_)
        subst h18
        refine rf_iload C (n := 101) (q := 5) dX10_whom_99 rfl rfl ?_
        refine rf_callVi C (n := 104) (c_X8_runToEnd G fu _ _ _) mw_RX10_270 ly_32 rfl ⟨by decide, by decide⟩ rfl (Nat.le_of_ble_eq_true rfl) rfl dX10_whom_101 rfl (fun y19 m20 => ?_)
        refine rf_istore C (n := 106) [(8, .int y19), (7, .int y12), (0, hA G 0), (1, .int x1), (2, .int x2), (3, .int x3), (4, .int x4), (5, .int x5), (6, .int x6)] dX10_whom_104 rfl (by decide) rfl ?_
        refine rf_aload_n C (n := 107) (q := 2) dX10_whom_106 rfl rfl rfl ?_
        refine rf_getS C (n := 110) fl_RX10_58 ly_0 rfl dX10_whom_107 rfl ?_
        refine rf_aload_n C (n := 111) (q := 2) dX10_whom_110 rfl rfl rfl ?_
        refine rf_getS C (n := 114) fl_RX10_12 ly_0 rfl dX10_whom_111 rfl ?_
        refine rf_iload C (n := 116) (q := 8) dX10_whom_114 rfl rfl ?_
        refine rf_callVv C (n := 119) (c_X3_takeBack G fu _ _) mw_RX10_354 ly_41 rfl ⟨by decide, by decide⟩ rfl (Nat.le_of_ble_eq_true rfl) rfl dX10_whom_116 rfl (fun _ m21 => ?_)
        refine rf_iload C (n := 121) (q := 0) dX10_whom_119 rfl rfl ?_
        refine rf_bipush C (n := 123) (v := (-2)) dX10_whom_121 rfl (by decide) ?_
        refine rf_icmp_ne C (tgt := 129) (n := 126) dX10_whom_123 (by decide) rfl (fun h22 => ?_) (fun h22 => ?_)
        · refine rf_iload_n C (n := 130) (q := 5) dX10_whom_129 rfl rfl rfl ?_
          refine rf_iconst C (n := 131) (v := (-1)) dX10_whom_130 rfl (by decide) ?_
          refine rf_icmp_eq C (tgt := 148) (n := 134) dX10_whom_131 (by decide) rfl (fun h23 => ?_) (fun h23 => ?_)
          · exact rf_lv _ [2, 3, 4, 8, 1, 0] rfl (r_X10_whom_148 C K fu _ ih _ _ _ _ _ _)
          · refine rf_iload C (n := 136) (q := 0) dX10_whom_134 rfl rfl ?_
            refine rf_iload C (n := 138) (q := 6) dX10_whom_136 rfl rfl ?_
            refine rf_icmp_lt C (tgt := 148) (n := 141) dX10_whom_138 (by decide) rfl (fun h25 => ?_) (fun h25 => ?_)
            · exact rf_lv _ [2, 3, 4, 8, 1, 0] rfl (r_X10_whom_148 C K fu _ ih _ _ _ _ _ _)
            · refine rf_iload C (n := 143) (q := 1) dX10_whom_141 rfl rfl ?_
              refine rf_iload C (n := 145) (q := 7) dX10_whom_143 rfl rfl ?_
              refine rf_icmp_ge C (tgt := 159) (n := 148) dX10_whom_145 (by decide) rfl (fun h26 => ?_) (fun h26 => ?_)
              · exact rf_lv _ [2, 3, 4, 5, 6, 7, 8] rfl (r_X10_whom_159 C K fu _ ih _ _ _ _ _ _ _)
              · exact rf_lv _ [2, 3, 4, 8, 1, 0] rfl (r_X10_whom_148 C K fu _ ih _ _ _ _ _ _)
        · refine rf_goto C (n := 159) dX10_whom_126 (by decide) ?_
          exact rf_lv _ [2, 3, 4, 5, 6, 7, 8] rfl (r_X10_whom_159 C K fu _ ih _ _ _ _ _ _ _)
      · refine rf_goto C (n := 159) dX10_whom_74 (by decide) ?_
        exact rf_lv _ [1, 2, 3, 4, 5, 6, 7] rfl (r_X10_whom_159 C K fu _ ih _ _ _ _ _ _ _)
noncomputable def f_X10_whom (fu : Nat) (x1 : Int32) (x2 : Int32) (m : hM) : Option (Int32 × hM) :=
  if x1 < 0 then (
some ((-1), m)) else (
if 999 < x1 then (
some ((-1), m)) else (
hBd (f_X10_isHour fu x2 m) fun y3 m4 =>
if y3 = 0 then (
some ((-1), m4)) else (
if ¬ (gI m4 18 6) = 0 then (
f_X10_whom_43 fu fu x1 x2 (-1) 2399 0 0 m4) else (
some ((-1), m4)))))
set_option maxRecDepth 100000 in
set_option maxHeartbeats 4000000 in
theorem c_X10_whom (G : hG) (fu : Nat) (x1 : Int32) (x2 : Int32) (m : hM) : Mt vI G 8 yX10_whom cX10_whom 9 (some .int) [hA G 0, .int x1, .int x2] m (f_X10_whom fu x1 x2 m) := by
  refine mt_of (by decide +kernel) (Nat.le_of_ble_eq_true rfl) (fun X C K => ?_)
  have C : Cx G X 8 cX10_whom 9 RX10 (some .int) := C
  show Rf vI G X 0 [(0, hA G 0), (1, .int x1), (2, .int x2)] [] m _
  unfold f_X10_whom
  refine rf_iload_n C (n := 1) (q := 1) dX10_whom_0 rfl rfl rfl ?_
  refine rf_if_lt C (tgt := 28) (n := 4) dX10_whom_1 (by decide) rfl (fun h1 => ?_) (fun h1 => ?_)
  · refine rf_iconst C (n := 29) (v := (-1)) dX10_whom_28 rfl (by decide) ?_
    exact rf_iret C K dX10_whom_29
  · refine rf_iload_n C (n := 5) (q := 1) dX10_whom_4 rfl rfl rfl ?_
    refine rf_sipush C (n := 8) (v := 999) dX10_whom_5 rfl (by decide) ?_
    refine rf_icmp_gt C (tgt := 28) (n := 11) dX10_whom_8 (by decide) rfl (fun h2 => ?_) (fun h2 => ?_)
    · refine rf_iconst C (n := 29) (v := (-1)) dX10_whom_28 rfl (by decide) ?_
      exact rf_iret C K dX10_whom_29
    · refine rf_iload_n C (n := 12) (q := 2) dX10_whom_11 rfl rfl rfl ?_
      refine rf_callSi C (n := 15) (c_X10_isHour G fu _ _) sw_RX10_119 ⟨by decide, by decide⟩ rfl (Nat.le_of_ble_eq_true rfl) rfl dX10_whom_12 rfl (fun y3 m4 => ?_)
      refine rf_if_eq C (tgt := 28) (n := 18) dX10_whom_15 (by decide) rfl (fun h5 => ?_) (fun h5 => ?_)
      · refine rf_iconst C (n := 29) (v := (-1)) dX10_whom_28 rfl (by decide) ?_
        exact rf_iret C K dX10_whom_29
      · refine rf_aload_n C (n := 19) (q := 0) dX10_whom_18 rfl rfl rfl ?_
        refine rf_getS C (n := 22) fl_RX10_19 ly_0 rfl dX10_whom_19 rfl ?_
        refine rf_getI C (n := 25) fl_RX10_177 ly_18 rfl dX10_whom_22 rfl ?_
        refine rf_if_ne C (tgt := 30) (n := 28) dX10_whom_25 (by decide) rfl (fun h6 => ?_) (fun h6 => ?_)
        · refine rf_iconst C (n := 31) (v := (-1)) dX10_whom_30 rfl (by decide) ?_
          refine rf_istore_n C (n := 32) [(3, .int (-1)), (0, hA G 0), (1, .int x1), (2, .int x2)] dX10_whom_31 rfl rfl (by decide) rfl ?_
          refine rf_sipush C (n := 35) (v := 2399) dX10_whom_32 rfl (by decide) ?_
          refine rf_istore C (n := 37) [(4, .int 2399), (3, .int (-1)), (0, hA G 0), (1, .int x1), (2, .int x2)] dX10_whom_35 rfl (by decide) rfl ?_
          refine rf_iconst C (n := 38) (v := 0) dX10_whom_37 rfl (by decide) ?_
          refine rf_istore C (n := 40) [(5, .int 0), (4, .int 2399), (3, .int (-1)), (0, hA G 0), (1, .int x1), (2, .int x2)] dX10_whom_38 rfl (by decide) rfl ?_
          refine rf_iconst C (n := 41) (v := 0) dX10_whom_40 rfl (by decide) ?_
          refine rf_istore C (n := 43) [(6, .int 0), (5, .int 0), (4, .int 2399), (3, .int (-1)), (0, hA G 0), (1, .int x1), (2, .int x2)] dX10_whom_41 rfl (by decide) rfl ?_
          exact rf_lv _ [4, 5, 6, 3, 2, 1, 0] rfl (r_X10_whom_43 C K fu fu _ _ _ _ _ _ _)
        · refine rf_iconst C (n := 29) (v := (-1)) dX10_whom_28 rfl (by decide) ?_
          exact rf_iret C K dX10_whom_29
noncomputable def f_X10_later (fu : Nat) (x0 : Int32) (x1 : Int32) (m : hM) : Option (Int32 × hM) :=
  if x0 = (-2) then (
some ((-9999), m)) else (
if ¬ x1 = (-2) then (
some (x1 - x0, m)) else (
some ((-9999), m)))
set_option maxRecDepth 100000 in
set_option maxHeartbeats 4000000 in
theorem c_X10_later (G : hG) (fu : Nat) (x0 : Int32) (x1 : Int32) (m : hM) : Mt vI G 1 yX10_later cX10_later 2 (some .int) [.int x0, .int x1] m (f_X10_later fu x0 x1 m) := by
  refine mt_of (by decide +kernel) (Nat.le_of_ble_eq_true rfl) (fun X C K => ?_)
  have C : Cx G X 1 cX10_later 2 RX10 (some .int) := C
  show Rf vI G X 0 [(0, .int x0), (1, .int x1)] [] m _
  unfold f_X10_later
  refine rf_iload_n C (n := 1) (q := 0) dX10_later_0 rfl rfl rfl ?_
  refine rf_bipush C (n := 3) (v := (-2)) dX10_later_1 rfl (by decide) ?_
  refine rf_icmp_eq C (tgt := 12) (n := 6) dX10_later_3 (by decide) rfl (fun h1 => ?_) (fun h1 => ?_)
  · refine rf_sipush C (n := 15) (v := (-9999)) dX10_later_12 rfl (by decide) ?_
    refine rf_goto C (n := 21) dX10_later_15 (by decide) ?_
    exact rf_iret C K dX10_later_21
  · refine rf_iload_n C (n := 7) (q := 1) dX10_later_6 rfl rfl rfl ?_
    refine rf_bipush C (n := 9) (v := (-2)) dX10_later_7 rfl (by decide) ?_
    refine rf_icmp_ne C (tgt := 18) (n := 12) dX10_later_9 (by decide) rfl (fun h2 => ?_) (fun h2 => ?_)
    · refine rf_iload_n C (n := 19) (q := 1) dX10_later_18 rfl rfl rfl ?_
      refine rf_iload_n C (n := 20) (q := 0) dX10_later_19 rfl rfl rfl ?_
      refine rf_isub C (n := 21) dX10_later_20 rfl ?_
      exact rf_iret C K dX10_later_21
    · refine rf_sipush C (n := 15) (v := (-9999)) dX10_later_12 rfl (by decide) ?_
      refine rf_goto C (n := 21) dX10_later_15 (by decide) ?_
      exact rf_iret C K dX10_later_21
noncomputable def f_X10_worth_156 (fu : Nat) (k65 : Int32 → Int32 → Int32 → Int32 → Int32 → hM → Option (Int32 × hM)) (x1 : Int32) (x2 : Int32) (x3 : Int32) (x4 : Int32) (x5 : Int32) (m : hM) : Option (Int32 × hM) :=
  hLet (x5 + 1) fun y24 =>
k65 x1 x2 x3 x4 y24 m
set_option maxRecDepth 100000 in
set_option maxHeartbeats 4000000 in
theorem r_X10_worth_156 {G : hG} {X : hX} (C : Cx G X 8 cX10_worth 8 RX10 (some .int)) (K : Cr G X) (fu : Nat) (k65 : Int32 → Int32 → Int32 → Int32 → Int32 → hM → Option (Int32 × hM)) (hk65 : ∀ (x1 : Int32) (x2 : Int32) (x3 : Int32) (x4 : Int32) (x5 : Int32) (m : hM), Rf vI G X 65 [(0, hA G 0), (1, .int x1), (2, .int x2), (3, .int x3), (4, .int x4), (5, .int x5)] [] m (k65 x1 x2 x3 x4 x5 m)) (x1 : Int32) (x2 : Int32) (x3 : Int32) (x4 : Int32) (x5 : Int32) (m : hM) : Rf vI G X 156 [(0, hA G 0), (1, .int x1), (2, .int x2), (3, .int x3), (4, .int x4), (5, .int x5)] [] m (f_X10_worth_156 fu k65 x1 x2 x3 x4 x5 m) := by
  unfold f_X10_worth_156
  refine rf_iinc2 C (n := 159) (q := 5) (fun y24 => [(5, .int y24), (0, hA G 0), (1, .int x1), (2, .int x2), (3, .int x3), (4, .int x4)]) dX10_worth_156 rfl rfl (by decide) (by decide) (fun _ => rfl) (fun y24 => ?_)
  refine rf_goto C (n := 65) dX10_worth_159 (by decide) ?_
  exact rf_lv _ [1, 2, 3, 4, 5, 0] rfl (hk65 _ _ _ _ _ _)
noncomputable def s_X10_worth_65 (fu : Nat) (ih : Int32 → Int32 → Int32 → Int32 → Int32 → hM → Option (Int32 × hM)) (x1 : Int32) (x2 : Int32) (x3 : Int32) (x4 : Int32) (x5 : Int32) (m : hM) : Option (Int32 × hM) :=
  if (gI m 41 4) ≤ x5 then (
some (x3, m)) else (
hBd (f_X3_bringTogether fu (1 <<< (x5 &&& 31)) m) fun _ m13 =>
hBd (f_X10_begunAt fu x1 m13) fun y14 m15 =>
if y14 = 55 then (
hBd (f_X8_runToEnd fu 55 2399 m15) fun y17 m18 =>
hBd (f_X3_takeBack fu (1 <<< (x5 &&& 31)) m18) fun _ m19 =>
hBd (f_X10_later fu y17 x2 m19) fun y20 m21 =>
hBd (f_X1_tell fu (Int32.toInt64 y20) m21) fun _ m22 =>
if y20 ≤ x4 then (
f_X10_worth_156 fu ih x1 x2 x3 x4 x5 m22) else (
f_X10_worth_156 fu ih x1 x2 x5 y20 x5 m22)) else none)
noncomputable def f_X10_worth_65 (fu : Nat) (n : Nat) : Int32 → Int32 → Int32 → Int32 → Int32 → hM → Option (Int32 × hM) :=
  Nat.rec (motive := fun _ => Int32 → Int32 → Int32 → Int32 → Int32 → hM → Option (Int32 × hM)) (fun _ _ _ _ _ _ => none) (fun _ ih => s_X10_worth_65 fu ih) n
theorem f_X10_worth_65_s (fu : Nat) (n : Nat) (x1 : Int32) (x2 : Int32) (x3 : Int32) (x4 : Int32) (x5 : Int32) (m : hM) : f_X10_worth_65 fu (n + 1) x1 x2 x3 x4 x5 m = s_X10_worth_65 fu (f_X10_worth_65 fu n) x1 x2 x3 x4 x5 m := rfl
set_option maxRecDepth 100000 in
set_option maxHeartbeats 4000000 in
theorem r_X10_worth_65 {G : hG} {X : hX} (C : Cx G X 8 cX10_worth 8 RX10 (some .int)) (K : Cr G X) (fu : Nat) (n : Nat) : ∀ (x1 : Int32) (x2 : Int32) (x3 : Int32) (x4 : Int32) (x5 : Int32) (m : hM), Rf vI G X 65 [(0, hA G 0), (1, .int x1), (2, .int x2), (3, .int x3), (4, .int x4), (5, .int x5)] [] m (f_X10_worth_65 fu n x1 x2 x3 x4 x5 m) := by
  induction n with
  | zero => intros; exact rf_none
  | succ n ih =>
    intro x1 x2 x3 x4 x5 m
    show Rf vI G X 65 [(0, hA G 0), (1, .int x1), (2, .int x2), (3, .int x3), (4, .int x4), (5, .int x5)] [] m (s_X10_worth_65 fu (f_X10_worth_65 fu n) x1 x2 x3 x4 x5 m)
    unfold s_X10_worth_65
    refine rf_iload C (n := 67) (q := 5) dX10_worth_65 rfl rfl ?_
    refine rf_aload_n C (n := 68) (q := 0) dX10_worth_67 rfl rfl rfl ?_
    refine rf_getS C (n := 71) fl_RX10_58 ly_0 rfl dX10_worth_68 rfl ?_
    refine rf_getI C (n := 74) fl_RX10_333 ly_41 rfl dX10_worth_71 rfl ?_
    refine rf_icmp_ge C (tgt := 162) (n := 77) dX10_worth_74 (by decide) rfl (fun h12 => ?_) (fun h12 => ?_)
    · refine rf_iload_n C (n := 163) (q := 3) dX10_worth_162 rfl rfl rfl ?_
      exact rf_iret C K dX10_worth_163
    · refine rf_aload_n C (n := 78) (q := 0) dX10_worth_77 rfl rfl rfl ?_
      refine rf_getS C (n := 81) fl_RX10_58 ly_0 rfl dX10_worth_78 rfl ?_
      refine rf_aload_n C (n := 82) (q := 0) dX10_worth_81 rfl rfl rfl ?_
      refine rf_getS C (n := 85) fl_RX10_12 ly_0 rfl dX10_worth_82 rfl ?_
      refine rf_iconst C (n := 86) (v := 1) dX10_worth_85 rfl (by decide) ?_
      refine rf_iload C (n := 88) (q := 5) dX10_worth_86 rfl rfl ?_
      refine rf_ishl C (n := 89) dX10_worth_88 rfl ?_
      refine rf_callVv C (n := 92) (c_X3_bringTogether G fu _ _) mw_RX10_350 ly_41 rfl ⟨by decide, by decide⟩ rfl (Nat.le_of_ble_eq_true rfl) rfl dX10_worth_89 rfl (fun _ m13 => ?_)
      refine rf_aload_n C (n := 93) (q := 0) dX10_worth_92 rfl rfl rfl ?_
      refine rf_getS C (n := 96) fl_RX10_42 ly_0 rfl dX10_worth_93 rfl ?_
      refine rf_aload_n C (n := 97) (q := 0) dX10_worth_96 rfl rfl rfl ?_
      refine rf_iload_n C (n := 98) (q := 1) dX10_worth_97 rfl rfl rfl ?_
      refine rf_callVa C (n := 101) (c_X10_begunAt G fu _ _) mw_RX10_322 ly_0 rfl ⟨by decide, by decide⟩ rfl (Nat.le_of_ble_eq_true rfl) rfl dX10_worth_98 rfl (fun y14 m15 => ?_)
      refine rf_guard (fun h16 => ?_)
      subst h16
      refine rf_sipush C (n := 104) (v := 2399) dX10_worth_101 rfl (by decide) ?_
      refine rf_callVi C (n := 107) (c_X8_runToEnd G fu _ _ _) mw_RX10_270 ly_32 rfl ⟨by decide, by decide⟩ rfl (Nat.le_of_ble_eq_true rfl) rfl dX10_worth_104 rfl (fun y17 m18 => ?_)
      refine rf_istore C (n := 109) [(6, .int y17), (0, hA G 0), (1, .int x1), (2, .int x2), (3, .int x3), (4, .int x4), (5, .int x5)] dX10_worth_107 rfl (by decide) rfl ?_
      refine rf_aload_n C (n := 110) (q := 1) dX10_worth_109 rfl rfl rfl ?_
      refine rf_getS C (n := 113) fl_RX10_58 ly_0 rfl dX10_worth_110 rfl ?_
      refine rf_aload_n C (n := 114) (q := 1) dX10_worth_113 rfl rfl rfl ?_
      refine rf_getS C (n := 117) fl_RX10_12 ly_0 rfl dX10_worth_114 rfl ?_
      refine rf_iconst C (n := 118) (v := 1) dX10_worth_117 rfl (by decide) ?_
      refine rf_iload C (n := 120) (q := 6) dX10_worth_118 rfl rfl ?_
      refine rf_ishl C (n := 121) dX10_worth_120 rfl ?_
      refine rf_callVv C (n := 124) (c_X3_takeBack G fu _ _) mw_RX10_354 ly_41 rfl ⟨by decide, by decide⟩ rfl (Nat.le_of_ble_eq_true rfl) rfl dX10_worth_121 rfl (fun _ m19 => ?_)
      refine rf_iload C (n := 126) (q := 0) dX10_worth_124 rfl rfl ?_
      refine rf_iload_n C (n := 127) (q := 3) dX10_worth_126 rfl rfl rfl ?_
      refine rf_callSi C (n := 130) (c_X10_later G fu _ _ _) sw_RX10_357 ⟨by decide, by decide⟩ rfl (Nat.le_of_ble_eq_true rfl) rfl dX10_worth_127 rfl (fun y20 m21 => ?_)
      refine rf_istore C (n := 132) [(7, .int y20), (6, .int y17), (0, hA G 0), (1, .int x1), (2, .int x2), (3, .int x3), (4, .int x4), (5, .int x5)] dX10_worth_130 rfl (by decide) rfl ?_
      refine rf_aload_n C (n := 133) (q := 2) dX10_worth_132 rfl rfl rfl ?_
      refine rf_getS C (n := 136) fl_RX10_83 ly_0 rfl dX10_worth_133 rfl ?_
      refine rf_iload C (n := 138) (q := 0) dX10_worth_136 rfl rfl ?_
      refine rf_i2l C (n := 139) dX10_worth_138 rfl ?_
      refine rf_callVv C (n := 142) (c_X1_tell G fu _ _) mw_RX10_173 ly_66 rfl ⟨by decide, by decide⟩ rfl (Nat.le_of_ble_eq_true rfl) rfl dX10_worth_139 rfl (fun _ m22 => ?_)
      refine rf_iload C (n := 144) (q := 0) dX10_worth_142 rfl rfl ?_
      refine rf_iload C (n := 146) (q := 6) dX10_worth_144 rfl rfl ?_
      refine rf_icmp_le C (tgt := 156) (n := 149) dX10_worth_146 (by decide) rfl (fun h23 => ?_) (fun h23 => ?_)
      · exact rf_lv _ [2, 3, 4, 5, 6, 7] rfl (r_X10_worth_156 C K fu _ ih _ _ _ _ _ _)
      · refine rf_iload C (n := 151) (q := 7) dX10_worth_149 rfl rfl ?_
        refine rf_istore_n C (n := 152) [(3, .int x5), (7, .int y20), (6, .int y17), (0, hA G 0), (1, .int x1), (2, .int x2), (4, .int x4), (5, .int x5)] dX10_worth_151 rfl rfl (by decide) rfl ?_
        refine rf_iload C (n := 154) (q := 1) dX10_worth_152 rfl rfl ?_
        refine rf_istore C (n := 156) [(4, .int y20), (3, .int x5), (7, .int y20), (6, .int y17), (0, hA G 0), (1, .int x1), (2, .int x2), (5, .int x5)] dX10_worth_154 rfl (by decide) rfl ?_
        exact rf_lv _ [4, 5, 6, 1, 0, 7] rfl (r_X10_worth_156 C K fu _ ih _ _ _ _ _ _)
noncomputable def f_X10_worth (fu : Nat) (x1 : Int32) (m : hM) : Option (Int32 × hM) :=
  hBd (f_X10_isHour fu x1 m) fun y1 m2 =>
if y1 = 0 then (
some ((-1), m2)) else (
if ¬ (gI m2 18 6) = 0 then (
if ¬ (gI m2 41 4) = 0 then (
hBd (f_X10_begunAt fu x1 m2) fun y6 m7 =>
if y6 = 55 then (
hBd (f_X8_runToEnd fu 55 2399 m7) fun y9 m10 =>
hBd (f_X1_clear fu m10) fun _ m11 =>
f_X10_worth_65 fu fu x1 y9 0 (-9999) 0 m11) else none) else (
some ((-2), m2))) else (
some ((-1), m2)))
set_option maxRecDepth 100000 in
set_option maxHeartbeats 4000000 in
theorem c_X10_worth (G : hG) (fu : Nat) (x1 : Int32) (m : hM) : Mt vI G 8 yX10_worth cX10_worth 8 (some .int) [hA G 0, .int x1] m (f_X10_worth fu x1 m) := by
  refine mt_of (by decide +kernel) (Nat.le_of_ble_eq_true rfl) (fun X C K => ?_)
  have C : Cx G X 8 cX10_worth 8 RX10 (some .int) := C
  show Rf vI G X 0 [(0, hA G 0), (1, .int x1)] [] m _
  unfold f_X10_worth
  refine rf_iload_n C (n := 1) (q := 1) dX10_worth_0 rfl rfl rfl ?_
  refine rf_callSi C (n := 4) (c_X10_isHour G fu _ _) sw_RX10_119 ⟨by decide, by decide⟩ rfl (Nat.le_of_ble_eq_true rfl) rfl dX10_worth_1 rfl (fun y1 m2 => ?_)
  refine rf_if_eq C (tgt := 17) (n := 7) dX10_worth_4 (by decide) rfl (fun h3 => ?_) (fun h3 => ?_)
  · refine rf_iconst C (n := 18) (v := (-1)) dX10_worth_17 rfl (by decide) ?_
    exact rf_iret C K dX10_worth_18
  · refine rf_aload_n C (n := 8) (q := 0) dX10_worth_7 rfl rfl rfl ?_
    refine rf_getS C (n := 11) fl_RX10_19 ly_0 rfl dX10_worth_8 rfl ?_
    refine rf_getI C (n := 14) fl_RX10_177 ly_18 rfl dX10_worth_11 rfl ?_
    refine rf_if_ne C (tgt := 19) (n := 17) dX10_worth_14 (by decide) rfl (fun h4 => ?_) (fun h4 => ?_)
    · refine rf_aload_n C (n := 20) (q := 0) dX10_worth_19 rfl rfl rfl ?_
      refine rf_getS C (n := 23) fl_RX10_58 ly_0 rfl dX10_worth_20 rfl ?_
      refine rf_getI C (n := 26) fl_RX10_333 ly_41 rfl dX10_worth_23 rfl ?_
      refine rf_if_ne C (tgt := 32) (n := 29) dX10_worth_26 (by decide) rfl (fun h5 => ?_) (fun h5 => ?_)
      · refine rf_aload_n C (n := 33) (q := 0) dX10_worth_32 rfl rfl rfl ?_
        refine rf_getS C (n := 36) fl_RX10_42 ly_0 rfl dX10_worth_33 rfl ?_
        refine rf_aload_n C (n := 37) (q := 0) dX10_worth_36 rfl rfl rfl ?_
        refine rf_iload_n C (n := 38) (q := 1) dX10_worth_37 rfl rfl rfl ?_
        refine rf_callVa C (n := 41) (c_X10_begunAt G fu _ _) mw_RX10_322 ly_0 rfl ⟨by decide, by decide⟩ rfl (Nat.le_of_ble_eq_true rfl) rfl dX10_worth_38 rfl (fun y6 m7 => ?_)
        refine rf_guard (fun h8 => ?_)
        subst h8
        refine rf_sipush C (n := 44) (v := 2399) dX10_worth_41 rfl (by decide) ?_
        refine rf_callVi C (n := 47) (c_X8_runToEnd G fu _ _ _) mw_RX10_270 ly_32 rfl ⟨by decide, by decide⟩ rfl (Nat.le_of_ble_eq_true rfl) rfl dX10_worth_44 rfl (fun y9 m10 => ?_)
        refine rf_istore_n C (n := 48) [(2, .int y9), (0, hA G 0), (1, .int x1)] dX10_worth_47 rfl rfl (by decide) rfl ?_
        refine rf_iconst C (n := 49) (v := 0) dX10_worth_48 rfl (by decide) ?_
        refine rf_istore_n C (n := 50) [(3, .int 0), (2, .int y9), (0, hA G 0), (1, .int x1)] dX10_worth_49 rfl rfl (by decide) rfl ?_
        refine rf_sipush C (n := 53) (v := (-9999)) dX10_worth_50 rfl (by decide) ?_
        refine rf_istore C (n := 55) [(4, .int (-9999)), (3, .int 0), (2, .int y9), (0, hA G 0), (1, .int x1)] dX10_worth_53 rfl (by decide) rfl ?_
        refine rf_aload_n C (n := 56) (q := 3) dX10_worth_55 rfl rfl rfl ?_
        refine rf_getS C (n := 59) fl_RX10_83 ly_0 rfl dX10_worth_56 rfl ?_
        refine rf_callVv C (n := 62) (c_X1_clear G fu _) mw_RX10_170 ly_66 rfl ⟨by decide, by decide⟩ rfl (Nat.le_of_ble_eq_true rfl) rfl dX10_worth_59 rfl (fun _ m11 => ?_)
        refine rf_iconst C (n := 63) (v := 0) dX10_worth_62 rfl (by decide) ?_
        refine rf_istore C (n := 65) [(5, .int 0), (4, .int (-9999)), (3, .int 0), (2, .int y9), (0, hA G 0), (1, .int x1)] dX10_worth_63 rfl (by decide) rfl ?_
        exact rf_lv _ [4, 5, 3, 2, 1, 0] rfl (r_X10_worth_65 C K fu fu _ _ _ _ _ _)
      · refine rf_bipush C (n := 31) (v := (-2)) dX10_worth_29 rfl (by decide) ?_
        exact rf_iret C K dX10_worth_31
    · refine rf_iconst C (n := 18) (v := (-1)) dX10_worth_17 rfl (by decide) ?_
      exact rf_iret C K dX10_worth_18
noncomputable def f_X10_mean_50 (fu : Nat) (x1 : Int32) (x2 : Int64) (m : hM) : Option (Int32 × hM) :=
  hBd (f_X1_clear fu m) fun _ m4 =>
hBd (f_X1_tellFraction fu (x2 * (Int32.toInt64 x1)) 100 m4) fun _ m5 =>
some (gI m5 46 12, m5)
set_option maxRecDepth 100000 in
set_option maxHeartbeats 4000000 in
theorem r_X10_mean_50 {G : hG} {X : hX} (C : Cx G X 3 cX10_mean 5 RX10 (some .int)) (K : Cr G X) (fu : Nat) (x1 : Int32) (x2 : Int64) (m : hM) : Rf vI G X 50 [(0, hA G 0), (1, .int x1), (2, .long x2)] [] m (f_X10_mean_50 fu x1 x2 m) := by
  unfold f_X10_mean_50
  refine rf_aload_n C (n := 51) (q := 0) dX10_mean_50 rfl rfl rfl ?_
  refine rf_getS C (n := 54) fl_RX10_83 ly_0 rfl dX10_mean_51 rfl ?_
  refine rf_callVv C (n := 57) (c_X1_clear G fu _) mw_RX10_170 ly_66 rfl ⟨by decide, by decide⟩ rfl (Nat.le_of_ble_eq_true rfl) rfl dX10_mean_54 rfl (fun _ m4 => ?_)
  refine rf_aload_n C (n := 58) (q := 0) dX10_mean_57 rfl rfl rfl ?_
  refine rf_getS C (n := 61) fl_RX10_83 ly_0 rfl dX10_mean_58 rfl ?_
  refine rf_lload_n C (n := 62) (q := 2) dX10_mean_61 rfl rfl rfl ?_
  refine rf_iload_n C (n := 63) (q := 1) dX10_mean_62 rfl rfl rfl ?_
  refine rf_i2l C (n := 64) dX10_mean_63 rfl ?_
  refine rf_lmul C (n := 65) dX10_mean_64 rfl ?_
  refine rf_ldc2 C (n := 68) dX10_mean_65 rfl kl_RX10_371 ?_
  refine rf_callVv C (n := 71) (c_X1_tellFraction G fu _ _ _) mw_RX10_373 ly_66 rfl ⟨by decide, by decide⟩ rfl (Nat.le_of_ble_eq_true rfl) rfl dX10_mean_68 rfl (fun _ m5 => ?_)
  refine rf_aload_n C (n := 72) (q := 0) dX10_mean_71 rfl rfl rfl ?_
  refine rf_getS C (n := 75) fl_RX10_65 ly_0 rfl dX10_mean_72 rfl ?_
  refine rf_getI C (n := 78) fl_RX10_360 ly_46 rfl dX10_mean_75 rfl ?_
  exact rf_iret C K dX10_mean_78
noncomputable def s_X10_mean_18 (fu : Nat) (ih : Int32 → Int64 → Int32 → hM → Option (Int32 × hM)) (x1 : Int32) (x2 : Int64) (x4 : Int32) (m : hM) : Option (Int32 × hM) :=
  if (gI m 46 12) ≤ x4 then (
f_X10_mean_50 fu x1 x2 m) else (
if hIn x4 60 then (
hLet (x2 + (Int32.toInt64 (gI m 54 (Int32.toNatClampNeg x4)))) fun y7 =>
hLet (x4 + 1) fun y8 =>
ih x1 y7 y8 m) else none)
noncomputable def f_X10_mean_18 (fu : Nat) (n : Nat) : Int32 → Int64 → Int32 → hM → Option (Int32 × hM) :=
  Nat.rec (motive := fun _ => Int32 → Int64 → Int32 → hM → Option (Int32 × hM)) (fun _ _ _ _ => none) (fun _ ih => s_X10_mean_18 fu ih) n
theorem f_X10_mean_18_s (fu : Nat) (n : Nat) (x1 : Int32) (x2 : Int64) (x4 : Int32) (m : hM) : f_X10_mean_18 fu (n + 1) x1 x2 x4 m = s_X10_mean_18 fu (f_X10_mean_18 fu n) x1 x2 x4 m := rfl
set_option maxRecDepth 100000 in
set_option maxHeartbeats 4000000 in
theorem r_X10_mean_18 {G : hG} {X : hX} (C : Cx G X 3 cX10_mean 5 RX10 (some .int)) (K : Cr G X) (fu : Nat) (n : Nat) : ∀ (x1 : Int32) (x2 : Int64) (x4 : Int32) (m : hM), Rf vI G X 18 [(0, hA G 0), (1, .int x1), (2, .long x2), (4, .int x4)] [] m (f_X10_mean_18 fu n x1 x2 x4 m) := by
  induction n with
  | zero => intros; exact rf_none
  | succ n ih =>
    intro x1 x2 x4 m
    show Rf vI G X 18 [(0, hA G 0), (1, .int x1), (2, .long x2), (4, .int x4)] [] m (s_X10_mean_18 fu (f_X10_mean_18 fu n) x1 x2 x4 m)
    unfold s_X10_mean_18
    refine rf_iload C (n := 20) (q := 3) dX10_mean_18 rfl rfl ?_
    refine rf_aload_n C (n := 21) (q := 0) dX10_mean_20 rfl rfl rfl ?_
    refine rf_getS C (n := 24) fl_RX10_65 ly_0 rfl dX10_mean_21 rfl ?_
    refine rf_getI C (n := 27) fl_RX10_360 ly_46 rfl dX10_mean_24 rfl ?_
    refine rf_icmp_ge C (tgt := 50) (n := 30) dX10_mean_27 (by decide) rfl (fun h3 => ?_) (fun h3 => ?_)
    · exact rf_lv _ [0, 1, 2] rfl (r_X10_mean_50 C K fu _ _ _)
    · refine rf_lload_n C (n := 31) (q := 2) dX10_mean_30 rfl rfl rfl ?_
      refine rf_aload_n C (n := 32) (q := 0) dX10_mean_31 rfl rfl rfl ?_
      refine rf_getS C (n := 35) fl_RX10_65 ly_0 rfl dX10_mean_32 rfl ?_
      refine rf_getS C (n := 38) fl_RX10_368 ly_46 rfl dX10_mean_35 rfl ?_
      refine rf_iload C (n := 40) (q := 3) dX10_mean_38 rfl rfl ?_
      refine rf_guard (fun h6 => ?_)
      refine rf_iald C (n := 41) ly_54 h6 rfl dX10_mean_40 rfl ?_
      refine rf_i2l C (n := 42) dX10_mean_41 rfl ?_
      refine rf_ladd C (n := 43) dX10_mean_42 rfl ?_
      refine rf_letL (fun y7 => ?_)
      refine rf_lstore_n C (n := 44) [(2, .long y7), (0, hA G 0), (1, .int x1), (4, .int x4)] dX10_mean_43 rfl rfl (by decide) rfl ?_
      refine rf_iinc2 C (n := 47) (q := 3) (fun y8 => [(4, .int y8), (2, .long y7), (0, hA G 0), (1, .int x1)]) dX10_mean_44 rfl rfl (by decide) (by decide) (fun _ => rfl) (fun y8 => ?_)
      refine rf_goto C (n := 18) dX10_mean_47 (by decide) ?_
      exact rf_lv _ [2, 3, 1, 0] rfl (ih _ _ _ _)
noncomputable def f_X10_mean (fu : Nat) (x1 : Int32) (m : hM) : Option (Int32 × hM) :=
  if x1 < 1 then (
some ((-1), m)) else (
if x1 ≤ 99 then (
f_X10_mean_18 fu fu x1 0 0 m) else (
some ((-1), m)))
set_option maxRecDepth 100000 in
set_option maxHeartbeats 4000000 in
theorem c_X10_mean (G : hG) (fu : Nat) (x1 : Int32) (m : hM) : Mt vI G 3 yX10_mean cX10_mean 5 (some .int) [hA G 0, .int x1] m (f_X10_mean fu x1 m) := by
  refine mt_of (by decide +kernel) (Nat.le_of_ble_eq_true rfl) (fun X C K => ?_)
  have C : Cx G X 3 cX10_mean 5 RX10 (some .int) := C
  show Rf vI G X 0 [(0, hA G 0), (1, .int x1)] [] m _
  unfold f_X10_mean
  refine rf_iload_n C (n := 1) (q := 1) dX10_mean_0 rfl rfl rfl ?_
  refine rf_iconst C (n := 2) (v := 1) dX10_mean_1 rfl (by decide) ?_
  refine rf_icmp_lt C (tgt := 11) (n := 5) dX10_mean_2 (by decide) rfl (fun h1 => ?_) (fun h1 => ?_)
  · refine rf_iconst C (n := 12) (v := (-1)) dX10_mean_11 rfl (by decide) ?_
    exact rf_iret C K dX10_mean_12
  · refine rf_iload_n C (n := 6) (q := 1) dX10_mean_5 rfl rfl rfl ?_
    refine rf_bipush C (n := 8) (v := 99) dX10_mean_6 rfl (by decide) ?_
    refine rf_icmp_le C (tgt := 13) (n := 11) dX10_mean_8 (by decide) rfl (fun h2 => ?_) (fun h2 => ?_)
    · refine rf_lconst C (n := 14) (v := 0) dX10_mean_13 rfl (by decide) ?_
      refine rf_lstore_n C (n := 15) [(2, .long 0), (0, hA G 0), (1, .int x1)] dX10_mean_14 rfl rfl (by decide) rfl ?_
      refine rf_iconst C (n := 16) (v := 0) dX10_mean_15 rfl (by decide) ?_
      refine rf_istore C (n := 18) [(4, .int 0), (2, .long 0), (0, hA G 0), (1, .int x1)] dX10_mean_16 rfl (by decide) rfl ?_
      exact rf_lv _ [2, 3, 1, 0] rfl (r_X10_mean_18 C K fu fu _ _ _ _)
    · refine rf_iconst C (n := 12) (v := (-1)) dX10_mean_11 rfl (by decide) ?_
      exact rf_iret C K dX10_mean_12
noncomputable def f_X10_riskiest_57 (fu : Nat) (x1 : Int32) (m : hM) : Option (Int32 × hM) :=
  hBd (f_X1_clear fu m) fun _ m3 =>
if hIn x1 60 then (
hBd (f_X1_tell fu (Int32.toInt64 (gI m3 54 (Int32.toNatClampNeg x1))) m3) fun _ m5 =>
some (x1, m5)) else none
set_option maxRecDepth 100000 in
set_option maxHeartbeats 4000000 in
theorem r_X10_riskiest_57 {G : hG} {X : hX} (C : Cx G X 2 cX10_riskiest 3 RX10 (some .int)) (K : Cr G X) (fu : Nat) (x1 : Int32) (m : hM) : Rf vI G X 57 [(0, hA G 0), (1, .int x1)] [] m (f_X10_riskiest_57 fu x1 m) := by
  unfold f_X10_riskiest_57
  refine rf_aload_n C (n := 58) (q := 0) dX10_riskiest_57 rfl rfl rfl ?_
  refine rf_getS C (n := 61) fl_RX10_83 ly_0 rfl dX10_riskiest_58 rfl ?_
  refine rf_callVv C (n := 64) (c_X1_clear G fu _) mw_RX10_170 ly_66 rfl ⟨by decide, by decide⟩ rfl (Nat.le_of_ble_eq_true rfl) rfl dX10_riskiest_61 rfl (fun _ m3 => ?_)
  refine rf_aload_n C (n := 65) (q := 0) dX10_riskiest_64 rfl rfl rfl ?_
  refine rf_getS C (n := 68) fl_RX10_83 ly_0 rfl dX10_riskiest_65 rfl ?_
  refine rf_aload_n C (n := 69) (q := 0) dX10_riskiest_68 rfl rfl rfl ?_
  refine rf_getS C (n := 72) fl_RX10_65 ly_0 rfl dX10_riskiest_69 rfl ?_
  refine rf_getS C (n := 75) fl_RX10_368 ly_46 rfl dX10_riskiest_72 rfl ?_
  refine rf_iload_n C (n := 76) (q := 1) dX10_riskiest_75 rfl rfl rfl ?_
  refine rf_guard (fun h4 => ?_)
  refine rf_iald C (n := 77) ly_54 h4 rfl dX10_riskiest_76 rfl ?_
  refine rf_i2l C (n := 78) dX10_riskiest_77 rfl ?_
  refine rf_callVv C (n := 81) (c_X1_tell G fu _ _) mw_RX10_173 ly_66 rfl ⟨by decide, by decide⟩ rfl (Nat.le_of_ble_eq_true rfl) rfl dX10_riskiest_78 rfl (fun _ m5 => ?_)
  refine rf_iload_n C (n := 82) (q := 1) dX10_riskiest_81 rfl rfl rfl ?_
  exact rf_iret C K dX10_riskiest_82
noncomputable def f_X10_riskiest_51 (fu : Nat) (k17 : Int32 → Int32 → hM → Option (Int32 × hM)) (x1 : Int32) (x2 : Int32) (m : hM) : Option (Int32 × hM) :=
  hLet (x2 + 1) fun y9 =>
k17 x1 y9 m
set_option maxRecDepth 100000 in
set_option maxHeartbeats 4000000 in
theorem r_X10_riskiest_51 {G : hG} {X : hX} (C : Cx G X 2 cX10_riskiest 3 RX10 (some .int)) (K : Cr G X) (fu : Nat) (k17 : Int32 → Int32 → hM → Option (Int32 × hM)) (hk17 : ∀ (x1 : Int32) (x2 : Int32) (m : hM), Rf vI G X 17 [(0, hA G 0), (1, .int x1), (2, .int x2)] [] m (k17 x1 x2 m)) (x1 : Int32) (x2 : Int32) (m : hM) : Rf vI G X 51 [(0, hA G 0), (1, .int x1), (2, .int x2)] [] m (f_X10_riskiest_51 fu k17 x1 x2 m) := by
  unfold f_X10_riskiest_51
  refine rf_iinc2 C (n := 54) (q := 2) (fun y9 => [(2, .int y9), (0, hA G 0), (1, .int x1)]) dX10_riskiest_51 rfl rfl (by decide) (by decide) (fun _ => rfl) (fun y9 => ?_)
  refine rf_goto C (n := 17) dX10_riskiest_54 (by decide) ?_
  exact rf_lv _ [1, 2, 0] rfl (hk17 _ _ _)
noncomputable def s_X10_riskiest_17 (fu : Nat) (ih : Int32 → Int32 → hM → Option (Int32 × hM)) (x1 : Int32) (x2 : Int32) (m : hM) : Option (Int32 × hM) :=
  if (gI m 46 12) ≤ x2 then (
f_X10_riskiest_57 fu x1 m) else (
if hIn x2 60 then (
if hIn x1 60 then (
if (gI m 54 (Int32.toNatClampNeg x2)) ≤ (gI m 54 (Int32.toNatClampNeg x1)) then (
f_X10_riskiest_51 fu ih x1 x2 m) else (
f_X10_riskiest_51 fu ih x2 x2 m)) else none) else none)
noncomputable def f_X10_riskiest_17 (fu : Nat) (n : Nat) : Int32 → Int32 → hM → Option (Int32 × hM) :=
  Nat.rec (motive := fun _ => Int32 → Int32 → hM → Option (Int32 × hM)) (fun _ _ _ => none) (fun _ ih => s_X10_riskiest_17 fu ih) n
theorem f_X10_riskiest_17_s (fu : Nat) (n : Nat) (x1 : Int32) (x2 : Int32) (m : hM) : f_X10_riskiest_17 fu (n + 1) x1 x2 m = s_X10_riskiest_17 fu (f_X10_riskiest_17 fu n) x1 x2 m := rfl
set_option maxRecDepth 100000 in
set_option maxHeartbeats 4000000 in
theorem r_X10_riskiest_17 {G : hG} {X : hX} (C : Cx G X 2 cX10_riskiest 3 RX10 (some .int)) (K : Cr G X) (fu : Nat) (n : Nat) : ∀ (x1 : Int32) (x2 : Int32) (m : hM), Rf vI G X 17 [(0, hA G 0), (1, .int x1), (2, .int x2)] [] m (f_X10_riskiest_17 fu n x1 x2 m) := by
  induction n with
  | zero => intros; exact rf_none
  | succ n ih =>
    intro x1 x2 m
    show Rf vI G X 17 [(0, hA G 0), (1, .int x1), (2, .int x2)] [] m (s_X10_riskiest_17 fu (f_X10_riskiest_17 fu n) x1 x2 m)
    unfold s_X10_riskiest_17
    refine rf_iload_n C (n := 18) (q := 2) dX10_riskiest_17 rfl rfl rfl ?_
    refine rf_aload_n C (n := 19) (q := 0) dX10_riskiest_18 rfl rfl rfl ?_
    refine rf_getS C (n := 22) fl_RX10_65 ly_0 rfl dX10_riskiest_19 rfl ?_
    refine rf_getI C (n := 25) fl_RX10_360 ly_46 rfl dX10_riskiest_22 rfl ?_
    refine rf_icmp_ge C (tgt := 57) (n := 28) dX10_riskiest_25 (by decide) rfl (fun h2 => ?_) (fun h2 => ?_)
    · exact rf_lv _ [0, 1] rfl (r_X10_riskiest_57 C K fu _ _)
    · refine rf_aload_n C (n := 29) (q := 0) dX10_riskiest_28 rfl rfl rfl ?_
      refine rf_getS C (n := 32) fl_RX10_65 ly_0 rfl dX10_riskiest_29 rfl ?_
      refine rf_getS C (n := 35) fl_RX10_368 ly_46 rfl dX10_riskiest_32 rfl ?_
      refine rf_iload_n C (n := 36) (q := 2) dX10_riskiest_35 rfl rfl rfl ?_
      refine rf_guard (fun h6 => ?_)
      refine rf_iald C (n := 37) ly_54 h6 rfl dX10_riskiest_36 rfl ?_
      refine rf_aload_n C (n := 38) (q := 0) dX10_riskiest_37 rfl rfl rfl ?_
      refine rf_getS C (n := 41) fl_RX10_65 ly_0 rfl dX10_riskiest_38 rfl ?_
      refine rf_getS C (n := 44) fl_RX10_368 ly_46 rfl dX10_riskiest_41 rfl ?_
      refine rf_iload_n C (n := 45) (q := 1) dX10_riskiest_44 rfl rfl rfl ?_
      refine rf_guard (fun h7 => ?_)
      refine rf_iald C (n := 46) ly_54 h7 rfl dX10_riskiest_45 rfl ?_
      refine rf_icmp_le C (tgt := 51) (n := 49) dX10_riskiest_46 (by decide) rfl (fun h8 => ?_) (fun h8 => ?_)
      · exact rf_lv _ [0, 1, 2] rfl (r_X10_riskiest_51 C K fu _ ih _ _ _)
      · refine rf_iload_n C (n := 50) (q := 2) dX10_riskiest_49 rfl rfl rfl ?_
        refine rf_istore_n C (n := 51) [(1, .int x2), (0, hA G 0), (2, .int x2)] dX10_riskiest_50 rfl rfl (by decide) rfl ?_
        exact rf_lv _ [1, 0, 2] rfl (r_X10_riskiest_51 C K fu _ ih _ _ _)
noncomputable def f_X10_riskiest (fu : Nat) (m : hM) : Option (Int32 × hM) :=
  if ¬ (gI m 46 12) = 0 then (
f_X10_riskiest_17 fu fu 0 1 m) else (
some ((-2), m))
set_option maxRecDepth 100000 in
set_option maxHeartbeats 4000000 in
theorem c_X10_riskiest (G : hG) (fu : Nat) (m : hM) : Mt vI G 2 yX10_riskiest cX10_riskiest 3 (some .int) [hA G 0] m (f_X10_riskiest fu m) := by
  refine mt_of (by decide +kernel) (Nat.le_of_ble_eq_true rfl) (fun X C K => ?_)
  have C : Cx G X 2 cX10_riskiest 3 RX10 (some .int) := C
  show Rf vI G X 0 [(0, hA G 0)] [] m _
  unfold f_X10_riskiest
  refine rf_aload_n C (n := 1) (q := 0) dX10_riskiest_0 rfl rfl rfl ?_
  refine rf_getS C (n := 4) fl_RX10_65 ly_0 rfl dX10_riskiest_1 rfl ?_
  refine rf_getI C (n := 7) fl_RX10_360 ly_46 rfl dX10_riskiest_4 rfl ?_
  refine rf_if_ne C (tgt := 13) (n := 10) dX10_riskiest_7 (by decide) rfl (fun h1 => ?_) (fun h1 => ?_)
  · refine rf_iconst C (n := 14) (v := 0) dX10_riskiest_13 rfl (by decide) ?_
    refine rf_istore_n C (n := 15) [(1, .int 0), (0, hA G 0)] dX10_riskiest_14 rfl rfl (by decide) rfl ?_
    refine rf_iconst C (n := 16) (v := 1) dX10_riskiest_15 rfl (by decide) ?_
    refine rf_istore_n C (n := 17) [(2, .int 1), (1, .int 0), (0, hA G 0)] dX10_riskiest_16 rfl rfl (by decide) rfl ?_
    exact rf_lv _ [2, 1, 0] rfl (r_X10_riskiest_17 C K fu fu _ _ _)
  · refine rf_bipush C (n := 12) (v := (-2)) dX10_riskiest_10 rfl (by decide) ?_
    exact rf_iret C K dX10_riskiest_12
noncomputable def f_X10_site_269 (fu : Nat) (x7 : Int32) (s1 : Int64) (m : hM) : Option (Int32 × hM) :=
  hBd (f_X1_tell fu s1 m) fun _ m28 =>
some (x7, m28)
set_option maxRecDepth 100000 in
set_option maxHeartbeats 4000000 in
theorem r_X10_site_269 {G : hG} {X : hX} (C : Cx G X 8 cX10_site 11 RX10 (some .int)) (K : Cr G X) (fu : Nat) (x7 : Int32) (s1 : Int64) (m : hM) : Rf vI G X 269 [(7, .int x7)] [.long s1, hA G 66] m (f_X10_site_269 fu x7 s1 m) := by
  unfold f_X10_site_269
  refine rf_callVv C (n := 272) (c_X1_tell G fu _ _) mw_RX10_173 ly_66 rfl ⟨by decide, by decide⟩ rfl (Nat.le_of_ble_eq_true rfl) rfl dX10_site_269 rfl (fun _ m28 => ?_)
  refine rf_iload C (n := 274) (q := 0) dX10_site_272 rfl rfl ?_
  exact rf_iret C K dX10_site_274
noncomputable def f_X10_site_206 (fu : Nat) (x5 : Int32) (x6 : Int32) (x7 : Int32) (x8 : Int32) (m : hM) : Option (Int32 × hM) :=
  hBd (f_X0_putKnownToAll fu x6 0 m) fun _ m22 =>
hLet (sI m22 1 4 x6) fun m23 =>
if x7 = (-2) then (
some (x7, m23)) else (
hBd (f_X1_clear fu m23) fun _ m25 =>
hBd (f_X1_tell fu (Int32.toInt64 x8) m25) fun _ m26 =>
if ¬ x5 = (-2) then (
f_X10_site_269 fu x7 (Int32.toInt64 x5) m26) else (
f_X10_site_269 fu x7 (-1) m26))
set_option maxRecDepth 100000 in
set_option maxHeartbeats 4000000 in
theorem r_X10_site_206 {G : hG} {X : hX} (C : Cx G X 8 cX10_site 11 RX10 (some .int)) (K : Cr G X) (fu : Nat) (x5 : Int32) (x6 : Int32) (x7 : Int32) (x8 : Int32) (m : hM) : Rf vI G X 206 [(0, hA G 0), (5, .int x5), (6, .int x6), (7, .int x7), (8, .int x8)] [] m (f_X10_site_206 fu x5 x6 x7 x8 m) := by
  unfold f_X10_site_206
  refine rf_aload_n C (n := 207) (q := 0) dX10_site_206 rfl rfl rfl ?_
  refine rf_getS C (n := 210) fl_RX10_12 ly_0 rfl dX10_site_207 rfl ?_
  refine rf_iload C (n := 212) (q := 2) dX10_site_210 rfl rfl ?_
  refine rf_iconst C (n := 213) (v := 0) dX10_site_212 rfl (by decide) ?_
  refine rf_callVv C (n := 216) (c_X0_putKnownToAll G fu _ _ _) mw_RX10_377 ly_1 rfl ⟨by decide, by decide⟩ rfl (Nat.le_of_ble_eq_true rfl) rfl dX10_site_213 rfl (fun _ m22 => ?_)
  refine rf_aload_n C (n := 217) (q := 0) dX10_site_216 rfl rfl rfl ?_
  refine rf_getS C (n := 220) fl_RX10_12 ly_0 rfl dX10_site_217 rfl ?_
  refine rf_iload C (n := 222) (q := 2) dX10_site_220 rfl rfl ?_
  refine rf_putI C (n := 225) pl_RX10_95 ly_1 rfl ⟨rfl, rfl⟩ dX10_site_222 rfl ?_
  refine rf_letM (fun m23 => ?_)
  refine rf_iload C (n := 227) (q := 3) dX10_site_225 rfl rfl ?_
  refine rf_bipush C (n := 229) (v := (-2)) dX10_site_227 rfl (by decide) ?_
  refine rf_icmp_eq C (tgt := 272) (n := 232) dX10_site_229 (by decide) rfl (fun h24 => ?_) (fun h24 => ?_)
  · refine rf_iload C (n := 274) (q := 3) dX10_site_272 rfl rfl ?_
    exact rf_iret C K dX10_site_274
  · refine rf_aload_n C (n := 233) (q := 0) dX10_site_232 rfl rfl rfl ?_
    refine rf_getS C (n := 236) fl_RX10_83 ly_0 rfl dX10_site_233 rfl ?_
    refine rf_callVv C (n := 239) (c_X1_clear G fu _) mw_RX10_170 ly_66 rfl ⟨by decide, by decide⟩ rfl (Nat.le_of_ble_eq_true rfl) rfl dX10_site_236 rfl (fun _ m25 => ?_)
    refine rf_aload_n C (n := 240) (q := 0) dX10_site_239 rfl rfl rfl ?_
    refine rf_getS C (n := 243) fl_RX10_83 ly_0 rfl dX10_site_240 rfl ?_
    refine rf_iload C (n := 245) (q := 4) dX10_site_243 rfl rfl ?_
    refine rf_i2l C (n := 246) dX10_site_245 rfl ?_
    refine rf_callVv C (n := 249) (c_X1_tell G fu _ _) mw_RX10_173 ly_66 rfl ⟨by decide, by decide⟩ rfl (Nat.le_of_ble_eq_true rfl) rfl dX10_site_246 rfl (fun _ m26 => ?_)
    refine rf_aload_n C (n := 250) (q := 0) dX10_site_249 rfl rfl rfl ?_
    refine rf_getS C (n := 253) fl_RX10_83 ly_0 rfl dX10_site_250 rfl ?_
    refine rf_iload C (n := 255) (q := 1) dX10_site_253 rfl rfl ?_
    refine rf_bipush C (n := 257) (v := (-2)) dX10_site_255 rfl (by decide) ?_
    refine rf_icmp_ne C (tgt := 266) (n := 260) dX10_site_257 (by decide) rfl (fun h27 => ?_) (fun h27 => ?_)
    · refine rf_iload C (n := 268) (q := 1) dX10_site_266 rfl rfl ?_
      refine rf_i2l C (n := 269) dX10_site_268 rfl ?_
      exact rf_lv _ [3] rfl (r_X10_site_269 C K fu _ _ _)
    · refine rf_ldc2 C (n := 263) dX10_site_260 rfl kl_RX10_380 ?_
      refine rf_goto C (n := 269) dX10_site_263 (by decide) ?_
      exact rf_lv _ [3] rfl (r_X10_site_269 C K fu _ _ _)
noncomputable def f_X10_site_200 (fu : Nat) (k122 : Int32 → Int32 → Int32 → Int32 → Int32 → Int32 → Int32 → Int32 → hM → Option (Int32 × hM)) (x1 : Int32) (x2 : Int32) (x4 : Int32) (x5 : Int32) (x6 : Int32) (x7 : Int32) (x8 : Int32) (x9 : Int32) (m : hM) : Option (Int32 × hM) :=
  hLet (x9 + 1) fun y38 =>
k122 x1 x2 x4 x5 x6 x7 x8 y38 m
set_option maxRecDepth 100000 in
set_option maxHeartbeats 4000000 in
theorem r_X10_site_200 {G : hG} {X : hX} (C : Cx G X 8 cX10_site 11 RX10 (some .int)) (K : Cr G X) (fu : Nat) (k122 : Int32 → Int32 → Int32 → Int32 → Int32 → Int32 → Int32 → Int32 → hM → Option (Int32 × hM)) (hk122 : ∀ (x1 : Int32) (x2 : Int32) (x4 : Int32) (x5 : Int32) (x6 : Int32) (x7 : Int32) (x8 : Int32) (x9 : Int32) (m : hM), Rf vI G X 122 [(0, hA G 0), (1, .int x1), (2, .int x2), (4, .int x4), (5, .int x5), (6, .int x6), (7, .int x7), (8, .int x8), (9, .int x9)] [] m (k122 x1 x2 x4 x5 x6 x7 x8 x9 m)) (x1 : Int32) (x2 : Int32) (x4 : Int32) (x5 : Int32) (x6 : Int32) (x7 : Int32) (x8 : Int32) (x9 : Int32) (m : hM) : Rf vI G X 200 [(0, hA G 0), (1, .int x1), (2, .int x2), (4, .int x4), (5, .int x5), (6, .int x6), (7, .int x7), (8, .int x8), (9, .int x9)] [] m (f_X10_site_200 fu k122 x1 x2 x4 x5 x6 x7 x8 x9 m) := by
  unfold f_X10_site_200
  refine rf_iinc2 C (n := 203) (q := 8) (fun y38 => [(9, .int y38), (0, hA G 0), (1, .int x1), (2, .int x2), (4, .int x4), (5, .int x5), (6, .int x6), (7, .int x7), (8, .int x8)]) dX10_site_200 rfl rfl (by decide) (by decide) (fun _ => rfl) (fun y38 => ?_)
  refine rf_goto C (n := 122) dX10_site_203 (by decide) ?_
  exact rf_lv _ [1, 2, 3, 4, 5, 6, 7, 8, 0] rfl (hk122 _ _ _ _ _ _ _ _ _)
noncomputable def s_X10_site_122 (fu : Nat) (ih : Int32 → Int32 → Int32 → Int32 → Int32 → Int32 → Int32 → Int32 → hM → Option (Int32 × hM)) (x1 : Int32) (x2 : Int32) (x4 : Int32) (x5 : Int32) (x6 : Int32) (x7 : Int32) (x8 : Int32) (x9 : Int32) (m : hM) : Option (Int32 × hM) :=
  if 24 ≤ x9 then (
f_X10_site_206 fu x5 x6 x7 x8 m) else (
if hIn x6 6 then (
hBd (f_X2_settle fu (6 + 2 * (Int32.toNatClampNeg x6)) ((x9 * 24) + 9) x1 1 x2 m) fun _ m30 =>
hBd (f_X0_refresh fu x6 0 2560 m30) fun _ m31 =>
hBd (f_X10_begunAt fu x4 m31) fun y32 m33 =>
if y32 = 55 then (
hBd (f_X8_runToEnd fu 55 (x8 - 1) m33) fun y35 m36 =>
if y35 = (-2) then (
f_X10_site_200 fu ih x1 x2 x4 x5 x6 x7 x8 x9 m36) else (
f_X10_site_200 fu ih x1 x2 x4 x5 x6 x9 y35 x9 m36)) else none) else none)
noncomputable def f_X10_site_122 (fu : Nat) (n : Nat) : Int32 → Int32 → Int32 → Int32 → Int32 → Int32 → Int32 → Int32 → hM → Option (Int32 × hM) :=
  Nat.rec (motive := fun _ => Int32 → Int32 → Int32 → Int32 → Int32 → Int32 → Int32 → Int32 → hM → Option (Int32 × hM)) (fun _ _ _ _ _ _ _ _ _ => none) (fun _ ih => s_X10_site_122 fu ih) n
theorem f_X10_site_122_s (fu : Nat) (n : Nat) (x1 : Int32) (x2 : Int32) (x4 : Int32) (x5 : Int32) (x6 : Int32) (x7 : Int32) (x8 : Int32) (x9 : Int32) (m : hM) : f_X10_site_122 fu (n + 1) x1 x2 x4 x5 x6 x7 x8 x9 m = s_X10_site_122 fu (f_X10_site_122 fu n) x1 x2 x4 x5 x6 x7 x8 x9 m := rfl
set_option maxRecDepth 100000 in
set_option maxHeartbeats 4000000 in
theorem r_X10_site_122 {G : hG} {X : hX} (C : Cx G X 8 cX10_site 11 RX10 (some .int)) (K : Cr G X) (fu : Nat) (n : Nat) : ∀ (x1 : Int32) (x2 : Int32) (x4 : Int32) (x5 : Int32) (x6 : Int32) (x7 : Int32) (x8 : Int32) (x9 : Int32) (m : hM), Rf vI G X 122 [(0, hA G 0), (1, .int x1), (2, .int x2), (4, .int x4), (5, .int x5), (6, .int x6), (7, .int x7), (8, .int x8), (9, .int x9)] [] m (f_X10_site_122 fu n x1 x2 x4 x5 x6 x7 x8 x9 m) := by
  induction n with
  | zero => intros; exact rf_none
  | succ n ih =>
    intro x1 x2 x4 x5 x6 x7 x8 x9 m
    show Rf vI G X 122 [(0, hA G 0), (1, .int x1), (2, .int x2), (4, .int x4), (5, .int x5), (6, .int x6), (7, .int x7), (8, .int x8), (9, .int x9)] [] m (s_X10_site_122 fu (f_X10_site_122 fu n) x1 x2 x4 x5 x6 x7 x8 x9 m)
    unfold s_X10_site_122
    refine rf_iload C (n := 124) (q := 8) dX10_site_122 rfl rfl ?_
    refine rf_bipush C (n := 126) (v := 24) dX10_site_124 rfl (by decide) ?_
    refine rf_icmp_ge C (tgt := 206) (n := 129) dX10_site_126 (by decide) rfl (fun h21 => ?_) (fun h21 => ?_)
    · exact rf_lv _ [0, 4, 5, 6, 7] rfl (r_X10_site_206 C K fu _ _ _ _ _)
    · refine rf_aload_n C (n := 130) (q := 0) dX10_site_129 rfl rfl rfl ?_
      refine rf_getS C (n := 133) fl_RX10_12 ly_0 rfl dX10_site_130 rfl ?_
      refine rf_getS C (n := 136) fl_RX10_102 ly_1 rfl dX10_site_133 rfl ?_
      refine rf_iload C (n := 138) (q := 5) dX10_site_136 rfl rfl ?_
      refine rf_guard (fun h29 => ?_)
      refine rf_aaldO C (n := 139) ly_2 h29 (of_r h29) dX10_site_138 rfl ?_
      refine rf_iload C (n := 141) (q := 8) dX10_site_139 rfl rfl ?_
      refine rf_bipush C (n := 143) (v := 24) dX10_site_141 rfl (by decide) ?_
      refine rf_imul C (n := 144) dX10_site_143 rfl ?_
      refine rf_bipush C (n := 146) (v := 9) dX10_site_144 rfl (by decide) ?_
      refine rf_iadd C (n := 147) dX10_site_146 rfl ?_
      refine rf_iload_n C (n := 148) (q := 1) dX10_site_147 rfl rfl rfl ?_
      refine rf_iconst C (n := 149) (v := 1) dX10_site_148 rfl (by decide) ?_
      refine rf_iload_n C (n := 150) (q := 2) dX10_site_149 rfl rfl rfl ?_
      refine rf_callVv C (n := 153) (c_X2_settle G fu _ _ _ _ _ _) mw_RX10_106 (pO_l (of_o h29)) rfl ⟨by decide, by decide⟩ rfl (Nat.le_of_ble_eq_true rfl) rfl dX10_site_150 rfl (fun _ m30 => ?_)
      refine rf_aload_n C (n := 154) (q := 0) dX10_site_153 rfl rfl rfl ?_
      refine rf_getS C (n := 157) fl_RX10_12 ly_0 rfl dX10_site_154 rfl ?_
      refine rf_iload C (n := 159) (q := 5) dX10_site_157 rfl rfl ?_
      refine rf_iconst C (n := 160) (v := 0) dX10_site_159 rfl (by decide) ?_
      refine rf_sipush C (n := 163) (v := 2560) dX10_site_160 rfl (by decide) ?_
      refine rf_callVv C (n := 166) (c_X0_refresh G fu _ _ _ _) mw_RX10_112 ly_1 rfl ⟨by decide, by decide⟩ rfl (Nat.le_of_ble_eq_true rfl) rfl dX10_site_163 rfl (fun _ m31 => ?_)
      refine rf_aload_n C (n := 167) (q := 0) dX10_site_166 rfl rfl rfl ?_
      refine rf_getS C (n := 170) fl_RX10_42 ly_0 rfl dX10_site_167 rfl ?_
      refine rf_aload_n C (n := 171) (q := 0) dX10_site_170 rfl rfl rfl ?_
      refine rf_iload C (n := 173) (q := 3) dX10_site_171 rfl rfl ?_
      refine rf_callVa C (n := 176) (c_X10_begunAt G fu _ _) mw_RX10_322 ly_0 rfl ⟨by decide, by decide⟩ rfl (Nat.le_of_ble_eq_true rfl) rfl dX10_site_173 rfl (fun y32 m33 => ?_)
      refine rf_guard (fun h34 => ?_)
      subst h34
      refine rf_iload C (n := 178) (q := 7) dX10_site_176 rfl rfl ?_
      refine rf_iconst C (n := 179) (v := 1) dX10_site_178 rfl (by decide) ?_
      refine rf_isub C (n := 180) dX10_site_179 rfl ?_
      refine rf_callVi C (n := 183) (c_X8_runToEnd G fu _ _ _) mw_RX10_270 ly_32 rfl ⟨by decide, by decide⟩ rfl (Nat.le_of_ble_eq_true rfl) rfl dX10_site_180 rfl (fun y35 m36 => ?_)
      refine rf_istore C (n := 185) [(10, .int y35), (0, hA G 0), (1, .int x1), (2, .int x2), (4, .int x4), (5, .int x5), (6, .int x6), (7, .int x7), (8, .int x8), (9, .int x9)] dX10_site_183 rfl (by decide) rfl ?_
      refine rf_iload C (n := 187) (q := 0) dX10_site_185 rfl rfl ?_
      refine rf_bipush C (n := 189) (v := (-2)) dX10_site_187 rfl (by decide) ?_
      refine rf_icmp_eq C (tgt := 200) (n := 192) dX10_site_189 (by decide) rfl (fun h37 => ?_) (fun h37 => ?_)
      · exact rf_lv _ [1, 2, 3, 4, 5, 6, 7, 8, 9] rfl (r_X10_site_200 C K fu _ ih _ _ _ _ _ _ _ _ _)
      · refine rf_iload C (n := 194) (q := 9) dX10_site_192 rfl rfl ?_
        refine rf_istore C (n := 196) [(7, .int x9), (10, .int y35), (0, hA G 0), (1, .int x1), (2, .int x2), (4, .int x4), (5, .int x5), (6, .int x6), (8, .int x8), (9, .int x9)] dX10_site_194 rfl (by decide) rfl ?_
        refine rf_iload C (n := 198) (q := 1) dX10_site_196 rfl rfl ?_
        refine rf_istore C (n := 200) [(8, .int y35), (7, .int x9), (10, .int y35), (0, hA G 0), (1, .int x1), (2, .int x2), (4, .int x4), (5, .int x5), (6, .int x6), (9, .int x9)] dX10_site_198 rfl (by decide) rfl ?_
        exact rf_lv _ [3, 4, 5, 6, 7, 8, 1, 0, 9] rfl (r_X10_site_200 C K fu _ ih _ _ _ _ _ _ _ _ _)
noncomputable def f_X10_site (fu : Nat) (x1 : Int32) (x2 : Int32) (x3 : Int32) (x4 : Int32) (m : hM) : Option (Int32 × hM) :=
  if x1 < 1 then (
some ((-1), m)) else (
if 16 < x1 then (
some ((-1), m)) else (
hBd (f_X10_isStaff fu x2 m) fun y3 m4 =>
if y3 = 0 then (
some ((-1), m4)) else (
if x3 < 0 then (
some ((-1), m4)) else (
if x3 ≤ 9 then (
hBd (f_X10_isHour fu x4 m4) fun y8 m9 =>
if y8 = 0 then (
some ((-1), m9)) else (
if 6 ≤ (gI m9 1 4) then (
some ((-1), m9)) else (
if ¬ (gI m9 18 6) = 0 then (
hBd (f_X10_begunAt fu x4 m9) fun y13 m14 =>
if y13 = 55 then (
hBd (f_X8_runToEnd fu 55 2399 m14) fun y16 m17 =>
hLet (gI m17 1 4) fun y18 =>
hLet (sI m17 1 4 (y18 + 1)) fun m19 =>
hBd (f_X0_putKnownToAll fu y18 x3 m19) fun _ m20 =>
f_X10_site_122 fu fu x1 x2 x4 y16 y18 (-2) 2400 0 m20) else none) else (
some ((-1), m9))))) else (
some ((-1), m4))))))
set_option maxRecDepth 100000 in
set_option maxHeartbeats 4000000 in
theorem c_X10_site (G : hG) (fu : Nat) (x1 : Int32) (x2 : Int32) (x3 : Int32) (x4 : Int32) (m : hM) : Mt vI G 8 yX10_site cX10_site 11 (some .int) [hA G 0, .int x1, .int x2, .int x3, .int x4] m (f_X10_site fu x1 x2 x3 x4 m) := by
  refine mt_of (by decide +kernel) (Nat.le_of_ble_eq_true rfl) (fun X C K => ?_)
  have C : Cx G X 8 cX10_site 11 RX10 (some .int) := C
  show Rf vI G X 0 [(0, hA G 0), (1, .int x1), (2, .int x2), (3, .int x3), (4, .int x4)] [] m _
  unfold f_X10_site
  refine rf_iload_n C (n := 1) (q := 1) dX10_site_0 rfl rfl rfl ?_
  refine rf_iconst C (n := 2) (v := 1) dX10_site_1 rfl (by decide) ?_
  refine rf_icmp_lt C (tgt := 28) (n := 5) dX10_site_2 (by decide) rfl (fun h1 => ?_) (fun h1 => ?_)
  · refine rf_iconst C (n := 29) (v := (-1)) dX10_site_28 rfl (by decide) ?_
    exact rf_iret C K dX10_site_29
  · refine rf_iload_n C (n := 6) (q := 1) dX10_site_5 rfl rfl rfl ?_
    refine rf_bipush C (n := 8) (v := 16) dX10_site_6 rfl (by decide) ?_
    refine rf_icmp_gt C (tgt := 28) (n := 11) dX10_site_8 (by decide) rfl (fun h2 => ?_) (fun h2 => ?_)
    · refine rf_iconst C (n := 29) (v := (-1)) dX10_site_28 rfl (by decide) ?_
      exact rf_iret C K dX10_site_29
    · refine rf_iload_n C (n := 12) (q := 2) dX10_site_11 rfl rfl rfl ?_
      refine rf_callSi C (n := 15) (c_X10_isStaff G fu _ _) sw_RX10_98 ⟨by decide, by decide⟩ rfl (Nat.le_of_ble_eq_true rfl) rfl dX10_site_12 rfl (fun y3 m4 => ?_)
      refine rf_if_eq C (tgt := 28) (n := 18) dX10_site_15 (by decide) rfl (fun h5 => ?_) (fun h5 => ?_)
      · refine rf_iconst C (n := 29) (v := (-1)) dX10_site_28 rfl (by decide) ?_
        exact rf_iret C K dX10_site_29
      · refine rf_iload_n C (n := 19) (q := 3) dX10_site_18 rfl rfl rfl ?_
        refine rf_if_lt C (tgt := 28) (n := 22) dX10_site_19 (by decide) rfl (fun h6 => ?_) (fun h6 => ?_)
        · refine rf_iconst C (n := 29) (v := (-1)) dX10_site_28 rfl (by decide) ?_
          exact rf_iret C K dX10_site_29
        · refine rf_iload_n C (n := 23) (q := 3) dX10_site_22 rfl rfl rfl ?_
          refine rf_bipush C (n := 25) (v := 9) dX10_site_23 rfl (by decide) ?_
          refine rf_icmp_le C (tgt := 30) (n := 28) dX10_site_25 (by decide) rfl (fun h7 => ?_) (fun h7 => ?_)
          · refine rf_iload C (n := 32) (q := 4) dX10_site_30 rfl rfl ?_
            refine rf_callSi C (n := 35) (c_X10_isHour G fu _ _) sw_RX10_119 ⟨by decide, by decide⟩ rfl (Nat.le_of_ble_eq_true rfl) rfl dX10_site_32 rfl (fun y8 m9 => ?_)
            refine rf_if_eq C (tgt := 60) (n := 38) dX10_site_35 (by decide) rfl (fun h10 => ?_) (fun h10 => ?_)
            · refine rf_iconst C (n := 61) (v := (-1)) dX10_site_60 rfl (by decide) ?_
              exact rf_iret C K dX10_site_61
            · refine rf_aload_n C (n := 39) (q := 0) dX10_site_38 rfl rfl rfl ?_
              refine rf_getS C (n := 42) fl_RX10_12 ly_0 rfl dX10_site_39 rfl ?_
              refine rf_getI C (n := 45) fl_RX10_95 ly_1 rfl dX10_site_42 rfl ?_
              refine rf_bipush C (n := 47) (v := 6) dX10_site_45 rfl (by decide) ?_
              refine rf_icmp_ge C (tgt := 60) (n := 50) dX10_site_47 (by decide) rfl (fun h11 => ?_) (fun h11 => ?_)
              · refine rf_iconst C (n := 61) (v := (-1)) dX10_site_60 rfl (by decide) ?_
                exact rf_iret C K dX10_site_61
              · refine rf_aload_n C (n := 51) (q := 0) dX10_site_50 rfl rfl rfl ?_
                refine rf_getS C (n := 54) fl_RX10_19 ly_0 rfl dX10_site_51 rfl ?_
                refine rf_getI C (n := 57) fl_RX10_177 ly_18 rfl dX10_site_54 rfl ?_
                refine rf_if_ne C (tgt := 62) (n := 60) dX10_site_57 (by decide) rfl (fun h12 => ?_) (fun h12 => ?_)
                · refine rf_aload_n C (n := 63) (q := 0) dX10_site_62 rfl rfl rfl ?_
                  refine rf_getS C (n := 66) fl_RX10_42 ly_0 rfl dX10_site_63 rfl ?_
                  refine rf_aload_n C (n := 67) (q := 0) dX10_site_66 rfl rfl rfl ?_
                  refine rf_iload C (n := 69) (q := 4) dX10_site_67 rfl rfl ?_
                  refine rf_callVa C (n := 72) (c_X10_begunAt G fu _ _) mw_RX10_322 ly_0 rfl ⟨by decide, by decide⟩ rfl (Nat.le_of_ble_eq_true rfl) rfl dX10_site_69 rfl (fun y13 m14 => ?_)
                  refine rf_guard (fun h15 => ?_)
                  subst h15
                  refine rf_sipush C (n := 75) (v := 2399) dX10_site_72 rfl (by decide) ?_
                  refine rf_callVi C (n := 78) (c_X8_runToEnd G fu _ _ _) mw_RX10_270 ly_32 rfl ⟨by decide, by decide⟩ rfl (Nat.le_of_ble_eq_true rfl) rfl dX10_site_75 rfl (fun y16 m17 => ?_)
                  refine rf_istore C (n := 80) [(5, .int y16), (0, hA G 0), (1, .int x1), (2, .int x2), (3, .int x3), (4, .int x4)] dX10_site_78 rfl (by decide) rfl ?_
                  refine rf_aload_n C (n := 81) (q := 1) dX10_site_80 rfl rfl rfl ?_
                  refine rf_getS C (n := 84) fl_RX10_12 ly_0 rfl dX10_site_81 rfl ?_
                  refine rf_getI C (n := 87) fl_RX10_95 ly_1 rfl dX10_site_84 rfl ?_
                  refine rf_letI (fun y18 => ?_)
                  refine rf_istore C (n := 89) [(6, .int y18), (5, .int y16), (0, hA G 0), (1, .int x1), (2, .int x2), (3, .int x3), (4, .int x4)] dX10_site_87 rfl (by decide) rfl ?_
                  refine rf_aload_n C (n := 90) (q := 2) dX10_site_89 rfl rfl rfl ?_
                  refine rf_getS C (n := 93) fl_RX10_12 ly_0 rfl dX10_site_90 rfl ?_
                  refine rf_iload C (n := 95) (q := 0) dX10_site_93 rfl rfl ?_
                  refine rf_iconst C (n := 96) (v := 1) dX10_site_95 rfl (by decide) ?_
                  refine rf_iadd C (n := 97) dX10_site_96 rfl ?_
                  refine rf_putI C (n := 100) pl_RX10_95 ly_1 rfl ⟨rfl, rfl⟩ dX10_site_97 rfl ?_
                  refine rf_letM (fun m19 => ?_)
                  refine rf_aload_n C (n := 101) (q := 2) dX10_site_100 rfl rfl rfl ?_
                  refine rf_getS C (n := 104) fl_RX10_12 ly_0 rfl dX10_site_101 rfl ?_
                  refine rf_iload C (n := 106) (q := 0) dX10_site_104 rfl rfl ?_
                  refine rf_iload_n C (n := 107) (q := 5) dX10_site_106 rfl rfl rfl ?_
                  refine rf_callVv C (n := 110) (c_X0_putKnownToAll G fu _ _ _) mw_RX10_377 ly_1 rfl ⟨by decide, by decide⟩ rfl (Nat.le_of_ble_eq_true rfl) rfl dX10_site_107 rfl (fun _ m20 => ?_)
                  refine rf_bipush C (n := 112) (v := (-2)) dX10_site_110 rfl (by decide) ?_
                  refine rf_istore C (n := 114) [(7, .int (-2)), (6, .int y18), (5, .int y16), (0, hA G 0), (1, .int x1), (2, .int x2), (3, .int x3), (4, .int x4)] dX10_site_112 rfl (by decide) rfl ?_
                  refine rf_sipush C (n := 117) (v := 2400) dX10_site_114 rfl (by decide) ?_
                  refine rf_istore C (n := 119) [(8, .int 2400), (7, .int (-2)), (6, .int y18), (5, .int y16), (0, hA G 0), (1, .int x1), (2, .int x2), (3, .int x3), (4, .int x4)] dX10_site_117 rfl (by decide) rfl ?_
                  refine rf_iconst C (n := 120) (v := 0) dX10_site_119 rfl (by decide) ?_
                  refine rf_istore C (n := 122) [(9, .int 0), (8, .int 2400), (7, .int (-2)), (6, .int y18), (5, .int y16), (0, hA G 0), (1, .int x1), (2, .int x2), (3, .int x3), (4, .int x4)] dX10_site_120 rfl (by decide) rfl ?_
                  exact rf_lv _ [5, 6, 7, 9, 4, 3, 2, 1, 0] rfl (r_X10_site_122 C K fu fu _ _ _ _ _ _ _ _ _)
                · refine rf_iconst C (n := 61) (v := (-1)) dX10_site_60 rfl (by decide) ?_
                  exact rf_iret C K dX10_site_61
          · refine rf_iconst C (n := 29) (v := (-1)) dX10_site_28 rfl (by decide) ?_
            exact rf_iret C K dX10_site_29
