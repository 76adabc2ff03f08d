theorem dX9_workForPay_0 : decode cX9_workForPay 0 = .ok (.iload_n 1, 1) := by decide +kernel
theorem dX9_workForPay_1 : decode cX9_workForPay 1 = .ok (.bipush 105, 2) := by decide +kernel
theorem dX9_workForPay_3 : decode cX9_workForPay 3 = .ok (.imul, 1) := by decide +kernel
theorem dX9_workForPay_4 : decode cX9_workForPay 4 = .ok (.istore_n 2, 1) := by decide +kernel
theorem dX9_workForPay_5 : decode cX9_workForPay 5 = .ok (.aload_n 0, 1) := by decide +kernel
theorem dX9_workForPay_6 : decode cX9_workForPay 6 = .ok (.getfield 37, 3) := by decide +kernel
theorem dX9_workForPay_9 : decode cX9_workForPay 9 = .ok (.getfield 86, 3) := by decide +kernel
theorem dX9_workForPay_12 : decode cX9_workForPay 12 = .ok (.aload_n 0, 1) := by decide +kernel
theorem dX9_workForPay_13 : decode cX9_workForPay 13 = .ok (.getfield 15, 3) := by decide +kernel
theorem dX9_workForPay_16 : decode cX9_workForPay 16 = .ok (.iload_n 1, 1) := by decide +kernel
theorem dX9_workForPay_17 : decode cX9_workForPay 17 = .ok (.iaload, 1) := by decide +kernel
theorem dX9_workForPay_18 : decode cX9_workForPay 18 = .ok (.aaload, 1) := by decide +kernel
theorem dX9_workForPay_19 : decode cX9_workForPay 19 = .ok (.getfield 90, 3) := by decide +kernel
theorem dX9_workForPay_22 : decode cX9_workForPay 22 = .ok (.istore_n 3, 1) := by decide +kernel
theorem dX9_workForPay_23 : decode cX9_workForPay 23 = .ok (.iload_n 2, 1) := by decide +kernel
theorem dX9_workForPay_24 : decode cX9_workForPay 24 = .ok (.istore 4, 2) := by decide +kernel
theorem dX9_workForPay_26 : decode cX9_workForPay 26 = .ok (.iload 4, 2) := by decide +kernel
theorem dX9_workForPay_28 : decode cX9_workForPay 28 = .ok (.iload_n 2, 1) := by decide +kernel
theorem dX9_workForPay_29 : decode cX9_workForPay 29 = .ok (.bipush 104, 2) := by decide +kernel
theorem dX9_workForPay_31 : decode cX9_workForPay 31 = .ok (.iadd, 1) := by decide +kernel
theorem dX9_workForPay_32 : decode cX9_workForPay 32 = .ok (.if_icmp .ge 53, 3) := by decide +kernel
theorem dX9_workForPay_35 : decode cX9_workForPay 35 = .ok (.aload_n 0, 1) := by decide +kernel
theorem dX9_workForPay_36 : decode cX9_workForPay 36 = .ok (.getfield 31, 3) := by decide +kernel
theorem dX9_workForPay_39 : decode cX9_workForPay 39 = .ok (.iload 4, 2) := by decide +kernel
theorem dX9_workForPay_41 : decode cX9_workForPay 41 = .ok (.iconst 1, 1) := by decide +kernel
theorem dX9_workForPay_42 : decode cX9_workForPay 42 = .ok (.iadd, 1) := by decide +kernel
theorem dX9_workForPay_43 : decode cX9_workForPay 43 = .ok (.iaload, 1) := by decide +kernel
theorem dX9_workForPay_44 : decode cX9_workForPay 44 = .ok (.iload_n 3, 1) := by decide +kernel
theorem dX9_workForPay_45 : decode cX9_workForPay 45 = .ok (.iadd, 1) := by decide +kernel
theorem dX9_workForPay_46 : decode cX9_workForPay 46 = .ok (.istore 5, 2) := by decide +kernel
theorem dX9_workForPay_48 : decode cX9_workForPay 48 = .ok (.aload_n 0, 1) := by decide +kernel
theorem dX9_workForPay_49 : decode cX9_workForPay 49 = .ok (.getfield 31, 3) := by decide +kernel
theorem dX9_workForPay_52 : decode cX9_workForPay 52 = .ok (.iload 4, 2) := by decide +kernel
theorem dX9_workForPay_54 : decode cX9_workForPay 54 = .ok (.iload 5, 2) := by decide +kernel
theorem dX9_workForPay_56 : decode cX9_workForPay 56 = .ok (.aload_n 0, 1) := by decide +kernel
theorem dX9_workForPay_57 : decode cX9_workForPay 57 = .ok (.getfield 31, 3) := by decide +kernel
theorem dX9_workForPay_60 : decode cX9_workForPay 60 = .ok (.iload 4, 2) := by decide +kernel
theorem dX9_workForPay_62 : decode cX9_workForPay 62 = .ok (.iaload, 1) := by decide +kernel
theorem dX9_workForPay_63 : decode cX9_workForPay 63 = .ok (.if_icmp .ge 8, 3) := by decide +kernel
theorem dX9_workForPay_66 : decode cX9_workForPay 66 = .ok (.iload 5, 2) := by decide +kernel
theorem dX9_workForPay_68 : decode cX9_workForPay 68 = .ok (.goto 10, 3) := by decide +kernel
theorem dX9_workForPay_71 : decode cX9_workForPay 71 = .ok (.aload_n 0, 1) := by decide +kernel
theorem dX9_workForPay_72 : decode cX9_workForPay 72 = .ok (.getfield 31, 3) := by decide +kernel
theorem dX9_workForPay_75 : decode cX9_workForPay 75 = .ok (.iload 4, 2) := by decide +kernel
theorem dX9_workForPay_77 : decode cX9_workForPay 77 = .ok (.iaload, 1) := by decide +kernel
theorem dX9_workForPay_78 : decode cX9_workForPay 78 = .ok (.iastore, 1) := by decide +kernel
theorem dX9_workForPay_79 : decode cX9_workForPay 79 = .ok (.iinc 4 1, 3) := by decide +kernel
theorem dX9_workForPay_82 : decode cX9_workForPay 82 = .ok (.goto (-56), 3) := by decide +kernel
theorem dX9_workForPay_85 : decode cX9_workForPay 85 = .ok (.return_, 1) := by decide +kernel
theorem dX9_cheapest_0 : decode cX9_cheapest 0 = .ok (.aload_n 0, 1) := by decide +kernel
theorem dX9_cheapest_1 : decode cX9_cheapest 1 = .ok (.getfield 37, 3) := by decide +kernel
theorem dX9_cheapest_4 : decode cX9_cheapest 4 = .ok (.aload_n 1, 1) := by decide +kernel
theorem dX9_cheapest_5 : decode cX9_cheapest 5 = .ok (.getfield 48, 3) := by decide +kernel
theorem dX9_cheapest_8 : decode cX9_cheapest 8 = .ok (.iload_n 2, 1) := by decide +kernel
theorem dX9_cheapest_9 : decode cX9_cheapest 9 = .ok (.iaload, 1) := by decide +kernel
theorem dX9_cheapest_10 : decode cX9_cheapest 10 = .ok (.invokevirtual 53, 3) := by decide +kernel
theorem dX9_cheapest_13 : decode cX9_cheapest 13 = .ok (.istore 5, 2) := by decide +kernel
theorem dX9_cheapest_15 : decode cX9_cheapest 15 = .ok (.aload_n 0, 1) := by decide +kernel
theorem dX9_cheapest_16 : decode cX9_cheapest 16 = .ok (.getfield 21, 3) := by decide +kernel
theorem dX9_cheapest_19 : decode cX9_cheapest 19 = .ok (.bipush 31, 2) := by decide +kernel
theorem dX9_cheapest_21 : decode cX9_cheapest 21 = .ok (.invokestatic 74, 3) := by decide +kernel
theorem dX9_cheapest_24 : decode cX9_cheapest 24 = .ok (.istore 6, 2) := by decide +kernel
theorem dX9_cheapest_26 : decode cX9_cheapest 26 = .ok (.aload_n 0, 1) := by decide +kernel
theorem dX9_cheapest_27 : decode cX9_cheapest 27 = .ok (.getfield 31, 3) := by decide +kernel
theorem dX9_cheapest_30 : decode cX9_cheapest 30 = .ok (.ldc 57, 2) := by decide +kernel
theorem dX9_cheapest_32 : decode cX9_cheapest 32 = .ok (.invokestatic 58, 3) := by decide +kernel
theorem dX9_cheapest_35 : decode cX9_cheapest 35 = .ok (.aload_n 0, 1) := by decide +kernel
theorem dX9_cheapest_36 : decode cX9_cheapest 36 = .ok (.getfield 31, 3) := by decide +kernel
theorem dX9_cheapest_39 : decode cX9_cheapest 39 = .ok (.aload_n 1, 1) := by decide +kernel
theorem dX9_cheapest_40 : decode cX9_cheapest 40 = .ok (.getfield 64, 3) := by decide +kernel
theorem dX9_cheapest_43 : decode cX9_cheapest 43 = .ok (.iload_n 2, 1) := by decide +kernel
theorem dX9_cheapest_44 : decode cX9_cheapest 44 = .ok (.iaload, 1) := by decide +kernel
theorem dX9_cheapest_45 : decode cX9_cheapest 45 = .ok (.iconst 0, 1) := by decide +kernel
theorem dX9_cheapest_46 : decode cX9_cheapest 46 = .ok (.iastore, 1) := by decide +kernel
theorem dX9_cheapest_47 : decode cX9_cheapest 47 = .ok (.iload_n 3, 1) := by decide +kernel
theorem dX9_cheapest_48 : decode cX9_cheapest 48 = .ok (.istore 7, 2) := by decide +kernel
theorem dX9_cheapest_50 : decode cX9_cheapest 50 = .ok (.iload 7, 2) := by decide +kernel
theorem dX9_cheapest_52 : decode cX9_cheapest 52 = .ok (.iload 4, 2) := by decide +kernel
theorem dX9_cheapest_54 : decode cX9_cheapest 54 = .ok (.if_icmp .ge 93, 3) := by decide +kernel
theorem dX9_cheapest_57 : decode cX9_cheapest 57 = .ok (.aload_n 0, 1) := by decide +kernel
theorem dX9_cheapest_58 : decode cX9_cheapest 58 = .ok (.getfield 37, 3) := by decide +kernel
theorem dX9_cheapest_61 : decode cX9_cheapest 61 = .ok (.getfield 67, 3) := by decide +kernel
theorem dX9_cheapest_64 : decode cX9_cheapest 64 = .ok (.iload 7, 2) := by decide +kernel
theorem dX9_cheapest_66 : decode cX9_cheapest 66 = .ok (.iaload, 1) := by decide +kernel
theorem dX9_cheapest_67 : decode cX9_cheapest 67 = .ok (.iload 5, 2) := by decide +kernel
theorem dX9_cheapest_69 : decode cX9_cheapest 69 = .ok (.iand, 1) := by decide +kernel
theorem dX9_cheapest_70 : decode cX9_cheapest 70 = .ok (.istore 8, 2) := by decide +kernel
theorem dX9_cheapest_72 : decode cX9_cheapest 72 = .ok (.iconst 0, 1) := by decide +kernel
theorem dX9_cheapest_73 : decode cX9_cheapest 73 = .ok (.istore 9, 2) := by decide +kernel
theorem dX9_cheapest_75 : decode cX9_cheapest 75 = .ok (.iload 9, 2) := by decide +kernel
theorem dX9_cheapest_77 : decode cX9_cheapest 77 = .ok (.iload 6, 2) := by decide +kernel
theorem dX9_cheapest_79 : decode cX9_cheapest 79 = .ok (.if_icmp .ge 31, 3) := by decide +kernel
theorem dX9_cheapest_82 : decode cX9_cheapest 82 = .ok (.iload 8, 2) := by decide +kernel
theorem dX9_cheapest_84 : decode cX9_cheapest 84 = .ok (.aload_n 0, 1) := by decide +kernel
theorem dX9_cheapest_85 : decode cX9_cheapest 85 = .ok (.getfield 15, 3) := by decide +kernel
theorem dX9_cheapest_88 : decode cX9_cheapest 88 = .ok (.iload 9, 2) := by decide +kernel
theorem dX9_cheapest_90 : decode cX9_cheapest 90 = .ok (.iaload, 1) := by decide +kernel
theorem dX9_cheapest_91 : decode cX9_cheapest 91 = .ok (.ishr, 1) := by decide +kernel
theorem dX9_cheapest_92 : decode cX9_cheapest 92 = .ok (.iconst 1, 1) := by decide +kernel
theorem dX9_cheapest_93 : decode cX9_cheapest 93 = .ok (.iand, 1) := by decide +kernel
theorem dX9_cheapest_94 : decode cX9_cheapest 94 = .ok (.iconst 1, 1) := by decide +kernel
theorem dX9_cheapest_95 : decode cX9_cheapest 95 = .ok (.if_icmp .ne 9, 3) := by decide +kernel
theorem dX9_cheapest_98 : decode cX9_cheapest 98 = .ok (.aload_n 0, 1) := by decide +kernel
theorem dX9_cheapest_99 : decode cX9_cheapest 99 = .ok (.iload 9, 2) := by decide +kernel
theorem dX9_cheapest_101 : decode cX9_cheapest 101 = .ok (.invokevirtual 80, 3) := by decide +kernel
theorem dX9_cheapest_104 : decode cX9_cheapest 104 = .ok (.iinc 9 1, 3) := by decide +kernel
theorem dX9_cheapest_107 : decode cX9_cheapest 107 = .ok (.goto (-32), 3) := by decide +kernel
theorem dX9_cheapest_110 : decode cX9_cheapest 110 = .ok (.aload_n 0, 1) := by decide +kernel
theorem dX9_cheapest_111 : decode cX9_cheapest 111 = .ok (.iload 7, 2) := by decide +kernel
theorem dX9_cheapest_113 : decode cX9_cheapest 113 = .ok (.iconst 1, 1) := by decide +kernel
theorem dX9_cheapest_114 : decode cX9_cheapest 114 = .ok (.iadd, 1) := by decide +kernel
theorem dX9_cheapest_115 : decode cX9_cheapest 115 = .ok (.invokevirtual 70, 3) := by decide +kernel
theorem dX9_cheapest_118 : decode cX9_cheapest 118 = .ok (.iload 6, 2) := by decide +kernel
theorem dX9_cheapest_120 : decode cX9_cheapest 120 = .ok (.iconst 1, 1) := by decide +kernel
theorem dX9_cheapest_121 : decode cX9_cheapest 121 = .ok (.isub, 1) := by decide +kernel
theorem dX9_cheapest_122 : decode cX9_cheapest 122 = .ok (.istore 9, 2) := by decide +kernel
theorem dX9_cheapest_124 : decode cX9_cheapest 124 = .ok (.iload 9, 2) := by decide +kernel
theorem dX9_cheapest_126 : decode cX9_cheapest 126 = .ok (.ifCond .le 15, 3) := by decide +kernel
theorem dX9_cheapest_129 : decode cX9_cheapest 129 = .ok (.aload_n 0, 1) := by decide +kernel
theorem dX9_cheapest_130 : decode cX9_cheapest 130 = .ok (.iload 9, 2) := by decide +kernel
theorem dX9_cheapest_132 : decode cX9_cheapest 132 = .ok (.invokevirtual 83, 3) := by decide +kernel
theorem dX9_cheapest_135 : decode cX9_cheapest 135 = .ok (.iinc 9 (-1), 3) := by decide +kernel
theorem dX9_cheapest_138 : decode cX9_cheapest 138 = .ok (.goto (-14), 3) := by decide +kernel
theorem dX9_cheapest_141 : decode cX9_cheapest 141 = .ok (.iinc 7 1, 3) := by decide +kernel
theorem dX9_cheapest_144 : decode cX9_cheapest 144 = .ok (.goto (-94), 3) := by decide +kernel
theorem dX9_cheapest_147 : decode cX9_cheapest 147 = .ok (.aload_n 0, 1) := by decide +kernel
theorem dX9_cheapest_148 : decode cX9_cheapest 148 = .ok (.iconst 0, 1) := by decide +kernel
theorem dX9_cheapest_149 : decode cX9_cheapest 149 = .ok (.putfield 25, 3) := by decide +kernel
theorem dX9_cheapest_152 : decode cX9_cheapest 152 = .ok (.iconst 1, 1) := by decide +kernel
theorem dX9_cheapest_153 : decode cX9_cheapest 153 = .ok (.istore 7, 2) := by decide +kernel
theorem dX9_cheapest_155 : decode cX9_cheapest 155 = .ok (.iload 7, 2) := by decide +kernel
theorem dX9_cheapest_157 : decode cX9_cheapest 157 = .ok (.iload 6, 2) := by decide +kernel
theorem dX9_cheapest_159 : decode cX9_cheapest 159 = .ok (.if_icmp .ge 40, 3) := by decide +kernel
theorem dX9_cheapest_162 : decode cX9_cheapest 162 = .ok (.aload_n 0, 1) := by decide +kernel
theorem dX9_cheapest_163 : decode cX9_cheapest 163 = .ok (.getfield 31, 3) := by decide +kernel
theorem dX9_cheapest_166 : decode cX9_cheapest 166 = .ok (.iload 7, 2) := by decide +kernel
theorem dX9_cheapest_168 : decode cX9_cheapest 168 = .ok (.bipush 105, 2) := by decide +kernel
theorem dX9_cheapest_170 : decode cX9_cheapest 170 = .ok (.imul, 1) := by decide +kernel
theorem dX9_cheapest_171 : decode cX9_cheapest 171 = .ok (.iaload, 1) := by decide +kernel
theorem dX9_cheapest_172 : decode cX9_cheapest 172 = .ok (.aload_n 0, 1) := by decide +kernel
theorem dX9_cheapest_173 : decode cX9_cheapest 173 = .ok (.getfield 31, 3) := by decide +kernel
theorem dX9_cheapest_176 : decode cX9_cheapest 176 = .ok (.aload_n 0, 1) := by decide +kernel
theorem dX9_cheapest_177 : decode cX9_cheapest 177 = .ok (.getfield 25, 3) := by decide +kernel
theorem dX9_cheapest_180 : decode cX9_cheapest 180 = .ok (.bipush 105, 2) := by decide +kernel
theorem dX9_cheapest_182 : decode cX9_cheapest 182 = .ok (.imul, 1) := by decide +kernel
theorem dX9_cheapest_183 : decode cX9_cheapest 183 = .ok (.iaload, 1) := by decide +kernel
theorem dX9_cheapest_184 : decode cX9_cheapest 184 = .ok (.if_icmp .ge 9, 3) := by decide +kernel
theorem dX9_cheapest_187 : decode cX9_cheapest 187 = .ok (.aload_n 0, 1) := by decide +kernel
theorem dX9_cheapest_188 : decode cX9_cheapest 188 = .ok (.iload 7, 2) := by decide +kernel
theorem dX9_cheapest_190 : decode cX9_cheapest 190 = .ok (.putfield 25, 3) := by decide +kernel
theorem dX9_cheapest_193 : decode cX9_cheapest 193 = .ok (.iinc 7 1, 3) := by decide +kernel
theorem dX9_cheapest_196 : decode cX9_cheapest 196 = .ok (.goto (-41), 3) := by decide +kernel
theorem dX9_cheapest_199 : decode cX9_cheapest 199 = .ok (.aload_n 0, 1) := by decide +kernel
theorem dX9_cheapest_200 : decode cX9_cheapest 200 = .ok (.getfield 31, 3) := by decide +kernel
theorem dX9_cheapest_203 : decode cX9_cheapest 203 = .ok (.aload_n 0, 1) := by decide +kernel
theorem dX9_cheapest_204 : decode cX9_cheapest 204 = .ok (.getfield 25, 3) := by decide +kernel
theorem dX9_cheapest_207 : decode cX9_cheapest 207 = .ok (.bipush 105, 2) := by decide +kernel
theorem dX9_cheapest_209 : decode cX9_cheapest 209 = .ok (.imul, 1) := by decide +kernel
theorem dX9_cheapest_210 : decode cX9_cheapest 210 = .ok (.iaload, 1) := by decide +kernel
theorem dX9_cheapest_211 : decode cX9_cheapest 211 = .ok (.istore 7, 2) := by decide +kernel
theorem dX9_cheapest_213 : decode cX9_cheapest 213 = .ok (.iload 7, 2) := by decide +kernel
theorem dX9_cheapest_215 : decode cX9_cheapest 215 = .ok (.ldc 57, 2) := by decide +kernel
theorem dX9_cheapest_217 : decode cX9_cheapest 217 = .ok (.if_icmp .lt 8, 3) := by decide +kernel
theorem dX9_cheapest_220 : decode cX9_cheapest 220 = .ok (.bipush (-2), 2) := by decide +kernel
theorem dX9_cheapest_222 : decode cX9_cheapest 222 = .ok (.goto 5, 3) := by decide +kernel
theorem dX9_cheapest_225 : decode cX9_cheapest 225 = .ok (.iload 7, 2) := by decide +kernel
theorem dX9_cheapest_227 : decode cX9_cheapest 227 = .ok (.ireturn, 1) := by decide +kernel
theorem dX9_tellBest_0 : decode cX9_tellBest 0 = .ok (.aload_n 0, 1) := by decide +kernel
theorem dX9_tellBest_1 : decode cX9_tellBest 1 = .ok (.getfield 18, 3) := by decide +kernel
theorem dX9_tellBest_4 : decode cX9_tellBest 4 = .ok (.aload_n 0, 1) := by decide +kernel
theorem dX9_tellBest_5 : decode cX9_tellBest 5 = .ok (.getfield 25, 3) := by decide +kernel
theorem dX9_tellBest_8 : decode cX9_tellBest 8 = .ok (.iaload, 1) := by decide +kernel
theorem dX9_tellBest_9 : decode cX9_tellBest 9 = .ok (.istore_n 2, 1) := by decide +kernel
theorem dX9_tellBest_10 : decode cX9_tellBest 10 = .ok (.aload_n 1, 1) := by decide +kernel
theorem dX9_tellBest_11 : decode cX9_tellBest 11 = .ok (.invokevirtual 101, 3) := by decide +kernel
theorem dX9_tellBest_14 : decode cX9_tellBest 14 = .ok (.aload_n 1, 1) := by decide +kernel
theorem dX9_tellBest_15 : decode cX9_tellBest 15 = .ok (.iload_n 2, 1) := by decide +kernel
theorem dX9_tellBest_16 : decode cX9_tellBest 16 = .ok (.i2l, 1) := by decide +kernel
theorem dX9_tellBest_17 : decode cX9_tellBest 17 = .ok (.invokevirtual 106, 3) := by decide +kernel
theorem dX9_tellBest_20 : decode cX9_tellBest 20 = .ok (.iconst 1, 1) := by decide +kernel
theorem dX9_tellBest_21 : decode cX9_tellBest 21 = .ok (.istore_n 3, 1) := by decide +kernel
theorem dX9_tellBest_22 : decode cX9_tellBest 22 = .ok (.iload_n 3, 1) := by decide +kernel
theorem dX9_tellBest_23 : decode cX9_tellBest 23 = .ok (.iload_n 2, 1) := by decide +kernel
theorem dX9_tellBest_24 : decode cX9_tellBest 24 = .ok (.if_icmp .gt 51, 3) := by decide +kernel
theorem dX9_tellBest_27 : decode cX9_tellBest 27 = .ok (.aload_n 0, 1) := by decide +kernel
theorem dX9_tellBest_28 : decode cX9_tellBest 28 = .ok (.getfield 25, 3) := by decide +kernel
theorem dX9_tellBest_31 : decode cX9_tellBest 31 = .ok (.istore 4, 2) := by decide +kernel
theorem dX9_tellBest_33 : decode cX9_tellBest 33 = .ok (.iload_n 2, 1) := by decide +kernel
theorem dX9_tellBest_34 : decode cX9_tellBest 34 = .ok (.istore 5, 2) := by decide +kernel
theorem dX9_tellBest_36 : decode cX9_tellBest 36 = .ok (.iload 5, 2) := by decide +kernel
theorem dX9_tellBest_38 : decode cX9_tellBest 38 = .ok (.iload_n 3, 1) := by decide +kernel
theorem dX9_tellBest_39 : decode cX9_tellBest 39 = .ok (.if_icmp .le 18, 3) := by decide +kernel
theorem dX9_tellBest_42 : decode cX9_tellBest 42 = .ok (.aload_n 0, 1) := by decide +kernel
theorem dX9_tellBest_43 : decode cX9_tellBest 43 = .ok (.getfield 9, 3) := by decide +kernel
theorem dX9_tellBest_46 : decode cX9_tellBest 46 = .ok (.iload 4, 2) := by decide +kernel
theorem dX9_tellBest_48 : decode cX9_tellBest 48 = .ok (.iaload, 1) := by decide +kernel
theorem dX9_tellBest_49 : decode cX9_tellBest 49 = .ok (.istore 4, 2) := by decide +kernel
theorem dX9_tellBest_51 : decode cX9_tellBest 51 = .ok (.iinc 5 (-1), 3) := by decide +kernel
theorem dX9_tellBest_54 : decode cX9_tellBest 54 = .ok (.goto (-18), 3) := by decide +kernel
theorem dX9_tellBest_57 : decode cX9_tellBest 57 = .ok (.aload_n 1, 1) := by decide +kernel
theorem dX9_tellBest_58 : decode cX9_tellBest 58 = .ok (.aload_n 0, 1) := by decide +kernel
theorem dX9_tellBest_59 : decode cX9_tellBest 59 = .ok (.getfield 15, 3) := by decide +kernel
theorem dX9_tellBest_62 : decode cX9_tellBest 62 = .ok (.iload 4, 2) := by decide +kernel
theorem dX9_tellBest_64 : decode cX9_tellBest 64 = .ok (.iaload, 1) := by decide +kernel
theorem dX9_tellBest_65 : decode cX9_tellBest 65 = .ok (.i2l, 1) := by decide +kernel
theorem dX9_tellBest_66 : decode cX9_tellBest 66 = .ok (.invokevirtual 106, 3) := by decide +kernel
theorem dX9_tellBest_69 : decode cX9_tellBest 69 = .ok (.iinc 3 1, 3) := by decide +kernel
theorem dX9_tellBest_72 : decode cX9_tellBest 72 = .ok (.goto (-50), 3) := by decide +kernel
theorem dX9_tellBest_75 : decode cX9_tellBest 75 = .ok (.return_, 1) := by decide +kernel
theorem dX10_isStaff_0 : decode cX10_isStaff 0 = .ok (.iload_n 0, 1) := by decide +kernel
theorem dX10_isStaff_1 : decode cX10_isStaff 1 = .ok (.bipush 64, 2) := by decide +kernel
theorem dX10_isStaff_3 : decode cX10_isStaff 3 = .ok (.if_icmp .lt 21, 3) := by decide +kernel
theorem dX10_isStaff_6 : decode cX10_isStaff 6 = .ok (.iload_n 0, 1) := by decide +kernel
theorem dX10_isStaff_7 : decode cX10_isStaff 7 = .ok (.sipush 640, 3) := by decide +kernel
theorem dX10_isStaff_10 : decode cX10_isStaff 10 = .ok (.if_icmp .ge 14, 3) := by decide +kernel
theorem dX10_isStaff_13 : decode cX10_isStaff 13 = .ok (.iload_n 0, 1) := by decide +kernel
theorem dX10_isStaff_14 : decode cX10_isStaff 14 = .ok (.bipush 63, 2) := by decide +kernel
theorem dX10_isStaff_16 : decode cX10_isStaff 16 = .ok (.iand, 1) := by decide +kernel
theorem dX10_isStaff_17 : decode cX10_isStaff 17 = .ok (.ifCond .eq 7, 3) := by decide +kernel
theorem dX10_isStaff_20 : decode cX10_isStaff 20 = .ok (.iconst 1, 1) := by decide +kernel
theorem dX10_isStaff_21 : decode cX10_isStaff 21 = .ok (.goto 4, 3) := by decide +kernel
theorem dX10_isStaff_24 : decode cX10_isStaff 24 = .ok (.iconst 0, 1) := by decide +kernel
theorem dX10_isStaff_25 : decode cX10_isStaff 25 = .ok (.ireturn, 1) := by decide +kernel
theorem dX10_office_0 : decode cX10_office 0 = .ok (.aload_n 0, 1) := by decide +kernel
theorem dX10_office_1 : decode cX10_office 1 = .ok (.getfield 12, 3) := by decide +kernel
theorem dX10_office_4 : decode cX10_office 4 = .ok (.getfield 95, 3) := by decide +kernel
theorem dX10_office_7 : decode cX10_office 7 = .ok (.bipush 6, 2) := by decide +kernel
theorem dX10_office_9 : decode cX10_office 9 = .ok (.if_icmp .ge 14, 3) := by decide +kernel
theorem dX10_office_12 : decode cX10_office 12 = .ok (.iload_n 1, 1) := by decide +kernel
theorem dX10_office_13 : decode cX10_office 13 = .ok (.ifCond .lt 10, 3) := by decide +kernel
theorem dX10_office_16 : decode cX10_office 16 = .ok (.iload_n 1, 1) := by decide +kernel
theorem dX10_office_17 : decode cX10_office 17 = .ok (.sipush 576, 3) := by decide +kernel
theorem dX10_office_20 : decode cX10_office 20 = .ok (.if_icmp .lt 5, 3) := by decide +kernel
theorem dX10_office_23 : decode cX10_office 23 = .ok (.iconst (-1), 1) := by decide +kernel
theorem dX10_office_24 : decode cX10_office 24 = .ok (.ireturn, 1) := by decide +kernel
theorem dX10_office_25 : decode cX10_office 25 = .ok (.iload_n 2, 1) := by decide +kernel
theorem dX10_office_26 : decode cX10_office 26 = .ok (.iconst 1, 1) := by decide +kernel
theorem dX10_office_27 : decode cX10_office 27 = .ok (.if_icmp .lt 28, 3) := by decide +kernel
theorem dX10_office_30 : decode cX10_office 30 = .ok (.iload_n 2, 1) := by decide +kernel
theorem dX10_office_31 : decode cX10_office 31 = .ok (.bipush 16, 2) := by decide +kernel
theorem dX10_office_33 : decode cX10_office 33 = .ok (.if_icmp .gt 22, 3) := by decide +kernel
theorem dX10_office_36 : decode cX10_office 36 = .ok (.iload_n 3, 1) := by decide +kernel
theorem dX10_office_37 : decode cX10_office 37 = .ok (.iconst 1, 1) := by decide +kernel
theorem dX10_office_38 : decode cX10_office 38 = .ok (.if_icmp .lt 17, 3) := by decide +kernel
theorem dX10_office_41 : decode cX10_office 41 = .ok (.iload_n 3, 1) := by decide +kernel
theorem dX10_office_42 : decode cX10_office 42 = .ok (.bipush 99, 2) := by decide +kernel
theorem dX10_office_44 : decode cX10_office 44 = .ok (.if_icmp .gt 11, 3) := by decide +kernel
theorem dX10_office_47 : decode cX10_office 47 = .ok (.iload 4, 2) := by decide +kernel
theorem dX10_office_49 : decode cX10_office 49 = .ok (.invokestatic 98, 3) := by decide +kernel
theorem dX10_office_52 : decode cX10_office 52 = .ok (.ifCond .ne 5, 3) := by decide +kernel
theorem dX10_office_55 : decode cX10_office 55 = .ok (.iconst (-1), 1) := by decide +kernel
theorem dX10_office_56 : decode cX10_office 56 = .ok (.ireturn, 1) := by decide +kernel
theorem dX10_office_57 : decode cX10_office 57 = .ok (.aload_n 0, 1) := by decide +kernel
theorem dX10_office_58 : decode cX10_office 58 = .ok (.getfield 12, 3) := by decide +kernel
theorem dX10_office_61 : decode cX10_office 61 = .ok (.getfield 95, 3) := by decide +kernel
theorem dX10_office_64 : decode cX10_office 64 = .ok (.istore 5, 2) := by decide +kernel
theorem dX10_office_66 : decode cX10_office 66 = .ok (.aload_n 0, 1) := by decide +kernel
theorem dX10_office_67 : decode cX10_office 67 = .ok (.getfield 12, 3) := by decide +kernel
theorem dX10_office_70 : decode cX10_office 70 = .ok (.getfield 102, 3) := by decide +kernel
theorem dX10_office_73 : decode cX10_office 73 = .ok (.iload 5, 2) := by decide +kernel
theorem dX10_office_75 : decode cX10_office 75 = .ok (.aaload, 1) := by decide +kernel
theorem dX10_office_76 : decode cX10_office 76 = .ok (.iload_n 1, 1) := by decide +kernel
theorem dX10_office_77 : decode cX10_office 77 = .ok (.iload_n 2, 1) := by decide +kernel
theorem dX10_office_78 : decode cX10_office 78 = .ok (.iload_n 3, 1) := by decide +kernel
theorem dX10_office_79 : decode cX10_office 79 = .ok (.iload 4, 2) := by decide +kernel
theorem dX10_office_81 : decode cX10_office 81 = .ok (.invokevirtual 106, 3) := by decide +kernel
theorem dX10_office_84 : decode cX10_office 84 = .ok (.aload_n 0, 1) := by decide +kernel
theorem dX10_office_85 : decode cX10_office 85 = .ok (.getfield 12, 3) := by decide +kernel
theorem dX10_office_88 : decode cX10_office 88 = .ok (.iload 5, 2) := by decide +kernel
theorem dX10_office_90 : decode cX10_office 90 = .ok (.iconst 1, 1) := by decide +kernel
theorem dX10_office_91 : decode cX10_office 91 = .ok (.iadd, 1) := by decide +kernel
theorem dX10_office_92 : decode cX10_office 92 = .ok (.putfield 95, 3) := by decide +kernel
theorem dX10_office_95 : decode cX10_office 95 = .ok (.aload_n 0, 1) := by decide +kernel
theorem dX10_office_96 : decode cX10_office 96 = .ok (.getfield 12, 3) := by decide +kernel
theorem dX10_office_99 : decode cX10_office 99 = .ok (.iload 5, 2) := by decide +kernel
theorem dX10_office_101 : decode cX10_office 101 = .ok (.iconst 0, 1) := by decide +kernel
theorem dX10_office_102 : decode cX10_office 102 = .ok (.sipush 2560, 3) := by decide +kernel
theorem dX10_office_105 : decode cX10_office 105 = .ok (.invokevirtual 112, 3) := by decide +kernel
theorem dX10_office_108 : decode cX10_office 108 = .ok (.iload 5, 2) := by decide +kernel
theorem dX10_office_110 : decode cX10_office 110 = .ok (.ireturn, 1) := by decide +kernel
theorem dX10_isHour_0 : decode cX10_isHour 0 = .ok (.iload_n 0, 1) := by decide +kernel
theorem dX10_isHour_1 : decode cX10_isHour 1 = .ok (.ifCond .lt 14, 3) := by decide +kernel
theorem dX10_isHour_4 : decode cX10_isHour 4 = .ok (.iload_n 0, 1) := by decide +kernel
theorem dX10_isHour_5 : decode cX10_isHour 5 = .ok (.sipush 2399, 3) := by decide +kernel
theorem dX10_isHour_8 : decode cX10_isHour 8 = .ok (.if_icmp .gt 7, 3) := by decide +kernel
theorem dX10_isHour_11 : decode cX10_isHour 11 = .ok (.iconst 1, 1) := by decide +kernel
theorem dX10_isHour_12 : decode cX10_isHour 12 = .ok (.goto 4, 3) := by decide +kernel
theorem dX10_isHour_15 : decode cX10_isHour 15 = .ok (.iconst 0, 1) := by decide +kernel
theorem dX10_isHour_16 : decode cX10_isHour 16 = .ok (.ireturn, 1) := by decide +kernel
theorem dX10_clock_0 : decode cX10_clock 0 = .ok (.aload_n 0, 1) := by decide +kernel
theorem dX10_clock_1 : decode cX10_clock 1 = .ok (.getfield 12, 3) := by decide +kernel
theorem dX10_clock_4 : decode cX10_clock 4 = .ok (.iload_n 1, 1) := by decide +kernel
theorem dX10_clock_5 : decode cX10_clock 5 = .ok (.invokevirtual 116, 3) := by decide +kernel
theorem dX10_clock_8 : decode cX10_clock 8 = .ok (.ifCond .eq 20, 3) := by decide +kernel
theorem dX10_clock_11 : decode cX10_clock 11 = .ok (.iload_n 2, 1) := by decide +kernel
theorem dX10_clock_12 : decode cX10_clock 12 = .ok (.invokestatic 119, 3) := by decide +kernel
theorem dX10_clock_15 : decode cX10_clock 15 = .ok (.ifCond .eq 13, 3) := by decide +kernel
theorem dX10_clock_18 : decode cX10_clock 18 = .ok (.iload_n 3, 1) := by decide +kernel
theorem dX10_clock_19 : decode cX10_clock 19 = .ok (.iconst (-1), 1) := by decide +kernel
theorem dX10_clock_20 : decode cX10_clock 20 = .ok (.if_icmp .lt 8, 3) := by decide +kernel
theorem dX10_clock_23 : decode cX10_clock 23 = .ok (.iload_n 3, 1) := by decide +kernel
theorem dX10_clock_24 : decode cX10_clock 24 = .ok (.iconst 1, 1) := by decide +kernel
theorem dX10_clock_25 : decode cX10_clock 25 = .ok (.if_icmp .le 5, 3) := by decide +kernel
theorem dX10_clock_28 : decode cX10_clock 28 = .ok (.iconst 0, 1) := by decide +kernel
theorem dX10_clock_29 : decode cX10_clock 29 = .ok (.ireturn, 1) := by decide +kernel
theorem dX10_clock_30 : decode cX10_clock 30 = .ok (.aload_n 0, 1) := by decide +kernel
theorem dX10_clock_31 : decode cX10_clock 31 = .ok (.getfield 12, 3) := by decide +kernel
theorem dX10_clock_34 : decode cX10_clock 34 = .ok (.getfield 102, 3) := by decide +kernel
theorem dX10_clock_37 : decode cX10_clock 37 = .ok (.iload_n 1, 1) := by decide +kernel
theorem dX10_clock_38 : decode cX10_clock 38 = .ok (.aaload, 1) := by decide +kernel
theorem dX10_clock_39 : decode cX10_clock 39 = .ok (.iload_n 2, 1) := by decide +kernel
theorem dX10_clock_40 : decode cX10_clock 40 = .ok (.putfield 122, 3) := by decide +kernel
theorem dX10_clock_43 : decode cX10_clock 43 = .ok (.aload_n 0, 1) := by decide +kernel
theorem dX10_clock_44 : decode cX10_clock 44 = .ok (.getfield 12, 3) := by decide +kernel
theorem dX10_clock_47 : decode cX10_clock 47 = .ok (.getfield 102, 3) := by decide +kernel
theorem dX10_clock_50 : decode cX10_clock 50 = .ok (.iload_n 1, 1) := by decide +kernel
theorem dX10_clock_51 : decode cX10_clock 51 = .ok (.aaload, 1) := by decide +kernel
theorem dX10_clock_52 : decode cX10_clock 52 = .ok (.iload_n 3, 1) := by decide +kernel
theorem dX10_clock_53 : decode cX10_clock 53 = .ok (.putfield 125, 3) := by decide +kernel
theorem dX10_clock_56 : decode cX10_clock 56 = .ok (.aload_n 0, 1) := by decide +kernel
theorem dX10_clock_57 : decode cX10_clock 57 = .ok (.getfield 12, 3) := by decide +kernel
theorem dX10_clock_60 : decode cX10_clock 60 = .ok (.iload_n 1, 1) := by decide +kernel
theorem dX10_clock_61 : decode cX10_clock 61 = .ok (.iconst 0, 1) := by decide +kernel
theorem dX10_clock_62 : decode cX10_clock 62 = .ok (.sipush 2560, 3) := by decide +kernel
theorem dX10_clock_65 : decode cX10_clock 65 = .ok (.invokevirtual 112, 3) := by decide +kernel
theorem dX10_clock_68 : decode cX10_clock 68 = .ok (.iconst 1, 1) := by decide +kernel
theorem dX10_clock_69 : decode cX10_clock 69 = .ok (.ireturn, 1) := by decide +kernel
theorem dX10_feast_0 : decode cX10_feast 0 = .ok (.aload_n 0, 1) := by decide +kernel
theorem dX10_feast_1 : decode cX10_feast 1 = .ok (.getfield 12, 3) := by decide +kernel
theorem dX10_feast_4 : decode cX10_feast 4 = .ok (.iload_n 1, 1) := by decide +kernel
theorem dX10_feast_5 : decode cX10_feast 5 = .ok (.invokevirtual 116, 3) := by decide +kernel
theorem dX10_feast_8 : decode cX10_feast 8 = .ok (.ifCond .eq 10, 3) := by decide +kernel
theorem dX10_feast_11 : decode cX10_feast 11 = .ok (.iload_n 2, 1) := by decide +kernel
theorem dX10_feast_12 : decode cX10_feast 12 = .ok (.invokestatic 128, 3) := by decide +kernel
theorem dX10_feast_15 : decode cX10_feast 15 = .ok (.ifCond .ne 5, 3) := by decide +kernel
theorem dX10_feast_18 : decode cX10_feast 18 = .ok (.iconst 0, 1) := by decide +kernel
theorem dX10_feast_19 : decode cX10_feast 19 = .ok (.ireturn, 1) := by decide +kernel
theorem dX10_feast_20 : decode cX10_feast 20 = .ok (.aload_n 0, 1) := by decide +kernel
theorem dX10_feast_21 : decode cX10_feast 21 = .ok (.getfield 12, 3) := by decide +kernel
theorem dX10_feast_24 : decode cX10_feast 24 = .ok (.iload_n 1, 1) := by decide +kernel
theorem dX10_feast_25 : decode cX10_feast 25 = .ok (.iload_n 2, 1) := by decide +kernel
theorem dX10_feast_26 : decode cX10_feast 26 = .ok (.iload_n 3, 1) := by decide +kernel
theorem dX10_feast_27 : decode cX10_feast 27 = .ok (.invokevirtual 131, 3) := by decide +kernel
theorem dX10_feast_30 : decode cX10_feast 30 = .ok (.iconst 1, 1) := by decide +kernel
theorem dX10_feast_31 : decode cX10_feast 31 = .ok (.ireturn, 1) := by decide +kernel
theorem dX10_know_0 : decode cX10_know 0 = .ok (.aload_n 0, 1) := by decide +kernel
theorem dX10_know_1 : decode cX10_know 1 = .ok (.getfield 12, 3) := by decide +kernel
theorem dX10_know_4 : decode cX10_know 4 = .ok (.iload_n 1, 1) := by decide +kernel
theorem dX10_know_5 : decode cX10_know 5 = .ok (.invokevirtual 116, 3) := by decide +kernel
theorem dX10_know_8 : decode cX10_know 8 = .ok (.ifCond .eq 29, 3) := by decide +kernel
theorem dX10_know_11 : decode cX10_know 11 = .ok (.aload_n 0, 1) := by decide +kernel
theorem dX10_know_12 : decode cX10_know 12 = .ok (.getfield 12, 3) := by decide +kernel
theorem dX10_know_15 : decode cX10_know 15 = .ok (.iload_n 2, 1) := by decide +kernel
theorem dX10_know_16 : decode cX10_know 16 = .ok (.invokevirtual 116, 3) := by decide +kernel
theorem dX10_know_19 : decode cX10_know 19 = .ok (.ifCond .eq 18, 3) := by decide +kernel
theorem dX10_know_22 : decode cX10_know 22 = .ok (.iload_n 1, 1) := by decide +kernel
theorem dX10_know_23 : decode cX10_know 23 = .ok (.iload_n 2, 1) := by decide +kernel
theorem dX10_know_24 : decode cX10_know 24 = .ok (.if_icmp .eq 13, 3) := by decide +kernel
theorem dX10_know_27 : decode cX10_know 27 = .ok (.iload_n 3, 1) := by decide +kernel
theorem dX10_know_28 : decode cX10_know 28 = .ok (.ifCond .lt 9, 3) := by decide +kernel
theorem dX10_know_31 : decode cX10_know 31 = .ok (.iload_n 3, 1) := by decide +kernel
theorem dX10_know_32 : decode cX10_know 32 = .ok (.bipush 9, 2) := by decide +kernel
theorem dX10_know_34 : decode cX10_know 34 = .ok (.if_icmp .le 5, 3) := by decide +kernel
theorem dX10_know_37 : decode cX10_know 37 = .ok (.iconst (-1), 1) := by decide +kernel
theorem dX10_know_38 : decode cX10_know 38 = .ok (.ireturn, 1) := by decide +kernel
theorem dX10_know_39 : decode cX10_know 39 = .ok (.aload_n 0, 1) := by decide +kernel
theorem dX10_know_40 : decode cX10_know 40 = .ok (.getfield 12, 3) := by decide +kernel
theorem dX10_know_43 : decode cX10_know 43 = .ok (.getfield 135, 3) := by decide +kernel
theorem dX10_know_46 : decode cX10_know 46 = .ok (.iload_n 1, 1) := by decide +kernel
theorem dX10_know_47 : decode cX10_know 47 = .ok (.bipush 6, 2) := by decide +kernel
theorem dX10_know_49 : decode cX10_know 49 = .ok (.imul, 1) := by decide +kernel
theorem dX10_know_50 : decode cX10_know 50 = .ok (.iload_n 2, 1) := by decide +kernel
theorem dX10_know_51 : decode cX10_know 51 = .ok (.iadd, 1) := by decide +kernel
theorem dX10_know_52 : decode cX10_know 52 = .ok (.iaload, 1) := by decide +kernel
theorem dX10_know_53 : decode cX10_know 53 = .ok (.istore 4, 2) := by decide +kernel
theorem dX10_know_55 : decode cX10_know 55 = .ok (.aload_n 0, 1) := by decide +kernel
theorem dX10_know_56 : decode cX10_know 56 = .ok (.getfield 12, 3) := by decide +kernel
theorem dX10_know_59 : decode cX10_know 59 = .ok (.iload_n 1, 1) := by decide +kernel
theorem dX10_know_60 : decode cX10_know 60 = .ok (.iload_n 2, 1) := by decide +kernel
theorem dX10_know_61 : decode cX10_know 61 = .ok (.iload_n 3, 1) := by decide +kernel
theorem dX10_know_62 : decode cX10_know 62 = .ok (.invokevirtual 138, 3) := by decide +kernel
theorem dX10_know_65 : decode cX10_know 65 = .ok (.iload 4, 2) := by decide +kernel
theorem dX10_know_67 : decode cX10_know 67 = .ok (.ireturn, 1) := by decide +kernel
theorem dX10_knownByEntry_0 : decode cX10_knownByEntry 0 = .ok (.iload_n 0, 1) := by decide +kernel
theorem dX10_knownByEntry_1 : decode cX10_knownByEntry 1 = .ok (.ifCond .ne 8, 3) := by decide +kernel
theorem dX10_knownByEntry_4 : decode cX10_knownByEntry 4 = .ok (.iload_n 1, 1) := by decide +kernel
theorem dX10_knownByEntry_5 : decode cX10_knownByEntry 5 = .ok (.i2b, 1) := by decide +kernel
theorem dX10_knownByEntry_6 : decode cX10_knownByEntry 6 = .ok (.goto 14, 3) := by decide +kernel
theorem dX10_knownByEntry_9 : decode cX10_knownByEntry 9 = .ok (.iload_n 0, 1) := by decide +kernel
theorem dX10_knownByEntry_10 : decode cX10_knownByEntry 10 = .ok (.iconst 1, 1) := by decide +kernel
theorem dX10_knownByEntry_11 : decode cX10_knownByEntry 11 = .ok (.if_icmp .ne 8, 3) := by decide +kernel
theorem dX10_knownByEntry_14 : decode cX10_knownByEntry 14 = .ok (.iload_n 1, 1) := by decide +kernel
theorem dX10_knownByEntry_15 : decode cX10_knownByEntry 15 = .ok (.i2s, 1) := by decide +kernel
theorem dX10_knownByEntry_16 : decode cX10_knownByEntry 16 = .ok (.goto 4, 3) := by decide +kernel
theorem dX10_knownByEntry_19 : decode cX10_knownByEntry 19 = .ok (.iload_n 1, 1) := by decide +kernel
theorem dX10_knownByEntry_20 : decode cX10_knownByEntry 20 = .ok (.istore_n 2, 1) := by decide +kernel
theorem dX10_knownByEntry_21 : decode cX10_knownByEntry 21 = .ok (.iload_n 2, 1) := by decide +kernel
theorem dX10_knownByEntry_22 : decode cX10_knownByEntry 22 = .ok (.ifCond .ge 7, 3) := by decide +kernel
theorem dX10_knownByEntry_25 : decode cX10_knownByEntry 25 = .ok (.iconst 0, 1) := by decide +kernel
theorem dX10_knownByEntry_26 : decode cX10_knownByEntry 26 = .ok (.goto 15, 3) := by decide +kernel
theorem dX10_knownByEntry_29 : decode cX10_knownByEntry 29 = .ok (.iload_n 2, 1) := by decide +kernel
theorem dX10_knownByEntry_30 : decode cX10_knownByEntry 30 = .ok (.bipush 9, 2) := by decide +kernel
theorem dX10_knownByEntry_32 : decode cX10_knownByEntry 32 = .ok (.if_icmp .le 8, 3) := by decide +kernel
theorem dX10_knownByEntry_35 : decode cX10_knownByEntry 35 = .ok (.bipush 9, 2) := by decide +kernel
theorem dX10_knownByEntry_37 : decode cX10_knownByEntry 37 = .ok (.goto 4, 3) := by decide +kernel
theorem dX10_knownByEntry_40 : decode cX10_knownByEntry 40 = .ok (.iload_n 2, 1) := by decide +kernel
theorem dX10_knownByEntry_41 : decode cX10_knownByEntry 41 = .ok (.ireturn, 1) := by decide +kernel
theorem dX10_sheet_0 : decode cX10_sheet 0 = .ok (.aload_n 0, 1) := by decide +kernel
theorem dX10_sheet_1 : decode cX10_sheet 1 = .ok (.getfield 12, 3) := by decide +kernel
theorem dX10_sheet_4 : decode cX10_sheet 4 = .ok (.iload_n 1, 1) := by decide +kernel
theorem dX10_sheet_5 : decode cX10_sheet 5 = .ok (.invokevirtual 116, 3) := by decide +kernel
theorem dX10_sheet_8 : decode cX10_sheet 8 = .ok (.ifCond .eq 18, 3) := by decide +kernel
theorem dX10_sheet_11 : decode cX10_sheet 11 = .ok (.iload_n 2, 1) := by decide +kernel
theorem dX10_sheet_12 : decode cX10_sheet 12 = .ok (.ifCond .lt 14, 3) := by decide +kernel
theorem dX10_sheet_15 : decode cX10_sheet 15 = .ok (.iload_n 2, 1) := by decide +kernel
theorem dX10_sheet_16 : decode cX10_sheet 16 = .ok (.iconst 3, 1) := by decide +kernel
theorem dX10_sheet_17 : decode cX10_sheet 17 = .ok (.if_icmp .gt 9, 3) := by decide +kernel
theorem dX10_sheet_20 : decode cX10_sheet 20 = .ok (.iload_n 3, 1) := by decide +kernel
theorem dX10_sheet_21 : decode cX10_sheet 21 = .ok (.bipush 6, 2) := by decide +kernel
theorem dX10_sheet_23 : decode cX10_sheet 23 = .ok (.if_icmp .le 5, 3) := by decide +kernel
theorem dX10_sheet_26 : decode cX10_sheet 26 = .ok (.iconst (-1), 1) := by decide +kernel
theorem dX10_sheet_27 : decode cX10_sheet 27 = .ok (.ireturn, 1) := by decide +kernel
theorem dX10_sheet_28 : decode cX10_sheet 28 = .ok (.iload_n 2, 1) := by decide +kernel
theorem dX10_sheet_29 : decode cX10_sheet 29 = .ok (.iconst 3, 1) := by decide +kernel
theorem dX10_sheet_30 : decode cX10_sheet 30 = .ok (.if_icmp .ne 7, 3) := by decide +kernel
theorem dX10_sheet_33 : decode cX10_sheet 33 = .ok (.iconst 1, 1) := by decide +kernel
theorem dX10_sheet_34 : decode cX10_sheet 34 = .ok (.goto 4, 3) := by decide +kernel
theorem dX10_sheet_37 : decode cX10_sheet 37 = .ok (.iconst 0, 1) := by decide +kernel
theorem dX10_sheet_38 : decode cX10_sheet 38 = .ok (.istore 6, 2) := by decide +kernel
theorem dX10_sheet_40 : decode cX10_sheet 40 = .ok (.iload 6, 2) := by decide +kernel
theorem dX10_sheet_42 : decode cX10_sheet 42 = .ok (.ifCond .ne 10, 3) := by decide +kernel
theorem dX10_sheet_45 : decode cX10_sheet 45 = .ok (.iload_n 3, 1) := by decide +kernel
theorem dX10_sheet_46 : decode cX10_sheet 46 = .ok (.ifCond .ge 6, 3) := by decide +kernel
theorem dX10_sheet_49 : decode cX10_sheet 49 = .ok (.bipush (-2), 2) := by decide +kernel
theorem dX10_sheet_51 : decode cX10_sheet 51 = .ok (.ireturn, 1) := by decide +kernel
theorem dX10_sheet_52 : decode cX10_sheet 52 = .ok (.iconst 0, 1) := by decide +kernel
theorem dX10_sheet_53 : decode cX10_sheet 53 = .ok (.istore 7, 2) := by decide +kernel
theorem dX10_sheet_55 : decode cX10_sheet 55 = .ok (.iconst 0, 1) := by decide +kernel
theorem dX10_sheet_56 : decode cX10_sheet 56 = .ok (.istore 8, 2) := by decide +kernel
theorem dX10_sheet_58 : decode cX10_sheet 58 = .ok (.iload 8, 2) := by decide +kernel
theorem dX10_sheet_60 : decode cX10_sheet 60 = .ok (.aload_n 0, 1) := by decide +kernel
theorem dX10_sheet_61 : decode cX10_sheet 61 = .ok (.getfield 12, 3) := by decide +kernel
theorem dX10_sheet_64 : decode cX10_sheet 64 = .ok (.getfield 95, 3) := by decide +kernel
theorem dX10_sheet_67 : decode cX10_sheet 67 = .ok (.if_icmp .ge 85, 3) := by decide +kernel
theorem dX10_sheet_70 : decode cX10_sheet 70 = .ok (.iload 8, 2) := by decide +kernel
theorem dX10_sheet_72 : decode cX10_sheet 72 = .ok (.iload_n 1, 1) := by decide +kernel
theorem dX10_sheet_73 : decode cX10_sheet 73 = .ok (.if_icmp .ne 6, 3) := by decide +kernel
theorem dX10_sheet_76 : decode cX10_sheet 76 = .ok (.goto 70, 3) := by decide +kernel
theorem dX10_sheet_79 : decode cX10_sheet 79 = .ok (.iload 6, 2) := by decide +kernel
theorem dX10_sheet_81 : decode cX10_sheet 81 = .ok (.ifCond .eq 17, 3) := by decide +kernel
theorem dX10_sheet_84 : decode cX10_sheet 84 = .ok (.aload_n 0, 1) := by decide +kernel
theorem dX10_sheet_85 : decode cX10_sheet 85 = .ok (.getfield 12, 3) := by decide +kernel
theorem dX10_sheet_88 : decode cX10_sheet 88 = .ok (.iload_n 1, 1) := by decide +kernel
theorem dX10_sheet_89 : decode cX10_sheet 89 = .ok (.iload 8, 2) := by decide +kernel
theorem dX10_sheet_91 : decode cX10_sheet 91 = .ok (.iconst 0, 1) := by decide +kernel
theorem dX10_sheet_92 : decode cX10_sheet 92 = .ok (.invokevirtual 138, 3) := by decide +kernel
theorem dX10_sheet_95 : decode cX10_sheet 95 = .ok (.goto 31, 3) := by decide +kernel
theorem dX10_sheet_98 : decode cX10_sheet 98 = .ok (.iload 8, 2) := by decide +kernel
theorem dX10_sheet_100 : decode cX10_sheet 100 = .ok (.iload_n 3, 1) := by decide +kernel
theorem dX10_sheet_101 : decode cX10_sheet 101 = .ok (.if_icmp .ge 25, 3) := by decide +kernel
theorem dX10_sheet_104 : decode cX10_sheet 104 = .ok (.aload_n 0, 1) := by decide +kernel
theorem dX10_sheet_105 : decode cX10_sheet 105 = .ok (.getfield 12, 3) := by decide +kernel
theorem dX10_sheet_108 : decode cX10_sheet 108 = .ok (.iload_n 1, 1) := by decide +kernel
theorem dX10_sheet_109 : decode cX10_sheet 109 = .ok (.iload 8, 2) := by decide +kernel
theorem dX10_sheet_111 : decode cX10_sheet 111 = .ok (.iload_n 2, 1) := by decide +kernel
theorem dX10_sheet_112 : decode cX10_sheet 112 = .ok (.iload 4, 2) := by decide +kernel
theorem dX10_sheet_114 : decode cX10_sheet 114 = .ok (.iload 8, 2) := by decide +kernel
theorem dX10_sheet_116 : decode cX10_sheet 116 = .ok (.iload 5, 2) := by decide +kernel
theorem dX10_sheet_118 : decode cX10_sheet 118 = .ok (.imul, 1) := by decide +kernel
theorem dX10_sheet_119 : decode cX10_sheet 119 = .ok (.iadd, 1) := by decide +kernel
theorem dX10_sheet_120 : decode cX10_sheet 120 = .ok (.invokestatic 141, 3) := by decide +kernel
theorem dX10_sheet_123 : decode cX10_sheet 123 = .ok (.invokevirtual 138, 3) := by decide +kernel
theorem dX10_sheet_126 : decode cX10_sheet 126 = .ok (.iload 7, 2) := by decide +kernel
theorem dX10_sheet_128 : decode cX10_sheet 128 = .ok (.aload_n 0, 1) := by decide +kernel
theorem dX10_sheet_129 : decode cX10_sheet 129 = .ok (.getfield 12, 3) := by decide +kernel
theorem dX10_sheet_132 : decode cX10_sheet 132 = .ok (.getfield 135, 3) := by decide +kernel
theorem dX10_sheet_135 : decode cX10_sheet 135 = .ok (.iload_n 1, 1) := by decide +kernel
theorem dX10_sheet_136 : decode cX10_sheet 136 = .ok (.bipush 6, 2) := by decide +kernel
theorem dX10_sheet_138 : decode cX10_sheet 138 = .ok (.imul, 1) := by decide +kernel
theorem dX10_sheet_139 : decode cX10_sheet 139 = .ok (.iload 8, 2) := by decide +kernel
theorem dX10_sheet_141 : decode cX10_sheet 141 = .ok (.iadd, 1) := by decide +kernel
theorem dX10_sheet_142 : decode cX10_sheet 142 = .ok (.iaload, 1) := by decide +kernel
theorem dX10_sheet_143 : decode cX10_sheet 143 = .ok (.iadd, 1) := by decide +kernel
theorem dX10_sheet_144 : decode cX10_sheet 144 = .ok (.istore 7, 2) := by decide +kernel
theorem dX10_sheet_146 : decode cX10_sheet 146 = .ok (.iinc 8 1, 3) := by decide +kernel
theorem dX10_sheet_149 : decode cX10_sheet 149 = .ok (.goto (-91), 3) := by decide +kernel
theorem dX10_sheet_152 : decode cX10_sheet 152 = .ok (.iload 7, 2) := by decide +kernel
theorem dX10_sheet_154 : decode cX10_sheet 154 = .ok (.ireturn, 1) := by decide +kernel
theorem dX10_set_0 : decode cX10_set 0 = .ok (.iload_n 1, 1) := by decide +kernel
theorem dX10_set_1 : decode cX10_set 1 = .ok (.ifCond .ne 31, 3) := by decide +kernel
theorem dX10_set_4 : decode cX10_set 4 = .ok (.iload_n 2, 1) := by decide +kernel
theorem dX10_set_5 : decode cX10_set 5 = .ok (.ifCond .lt 27, 3) := by decide +kernel
theorem dX10_set_8 : decode cX10_set 8 = .ok (.iload_n 2, 1) := by decide +kernel
theorem dX10_set_9 : decode cX10_set 9 = .ok (.bipush 20, 2) := by decide +kernel
theorem dX10_set_11 : decode cX10_set 11 = .ok (.if_icmp .gt 21, 3) := by decide +kernel
theorem dX10_set_14 : decode cX10_set 14 = .ok (.aload_n 0, 1) := by decide +kernel
theorem dX10_set_15 : decode cX10_set 15 = .ok (.getfield 12, 3) := by decide +kernel
theorem dX10_set_18 : decode cX10_set 18 = .ok (.getfield 145, 3) := by decide +kernel
theorem dX10_set_21 : decode cX10_set 21 = .ok (.istore_n 3, 1) := by decide +kernel
theorem dX10_set_22 : decode cX10_set 22 = .ok (.aload_n 0, 1) := by decide +kernel
theorem dX10_set_23 : decode cX10_set 23 = .ok (.getfield 12, 3) := by decide +kernel
theorem dX10_set_26 : decode cX10_set 26 = .ok (.iload_n 2, 1) := by decide +kernel
theorem dX10_set_27 : decode cX10_set 27 = .ok (.putfield 145, 3) := by decide +kernel
theorem dX10_set_30 : decode cX10_set 30 = .ok (.iload_n 3, 1) := by decide +kernel
theorem dX10_set_31 : decode cX10_set 31 = .ok (.ireturn, 1) := by decide +kernel
theorem dX10_set_32 : decode cX10_set 32 = .ok (.iload_n 1, 1) := by decide +kernel
theorem dX10_set_33 : decode cX10_set 33 = .ok (.iconst 1, 1) := by decide +kernel
theorem dX10_set_34 : decode cX10_set 34 = .ok (.if_icmp .ne 31, 3) := by decide +kernel
theorem dX10_set_37 : decode cX10_set 37 = .ok (.iload_n 2, 1) := by decide +kernel
theorem dX10_set_38 : decode cX10_set 38 = .ok (.ifCond .lt 27, 3) := by decide +kernel
theorem dX10_set_41 : decode cX10_set 41 = .ok (.iload_n 2, 1) := by decide +kernel
theorem dX10_set_42 : decode cX10_set 42 = .ok (.bipush 100, 2) := by decide +kernel
theorem dX10_set_44 : decode cX10_set 44 = .ok (.if_icmp .gt 21, 3) := by decide +kernel
theorem dX10_set_47 : decode cX10_set 47 = .ok (.aload_n 0, 1) := by decide +kernel
theorem dX10_set_48 : decode cX10_set 48 = .ok (.getfield 12, 3) := by decide +kernel
theorem dX10_set_51 : decode cX10_set 51 = .ok (.getfield 148, 3) := by decide +kernel
theorem dX10_set_54 : decode cX10_set 54 = .ok (.istore_n 3, 1) := by decide +kernel
theorem dX10_set_55 : decode cX10_set 55 = .ok (.aload_n 0, 1) := by decide +kernel
theorem dX10_set_56 : decode cX10_set 56 = .ok (.getfield 12, 3) := by decide +kernel
theorem dX10_set_59 : decode cX10_set 59 = .ok (.iload_n 2, 1) := by decide +kernel
theorem dX10_set_60 : decode cX10_set 60 = .ok (.putfield 148, 3) := by decide +kernel
theorem dX10_set_63 : decode cX10_set 63 = .ok (.iload_n 3, 1) := by decide +kernel
theorem dX10_set_64 : decode cX10_set 64 = .ok (.ireturn, 1) := by decide +kernel
theorem dX10_set_65 : decode cX10_set 65 = .ok (.iconst (-1), 1) := by decide +kernel
theorem dX10_set_66 : decode cX10_set 66 = .ok (.ireturn, 1) := by decide +kernel
theorem dX10_open_0 : decode cX10_open 0 = .ok (.aload_n 0, 1) := by decide +kernel
theorem dX10_open_1 : decode cX10_open 1 = .ok (.getfield 12, 3) := by decide +kernel
theorem dX10_open_4 : decode cX10_open 4 = .ok (.iload_n 1, 1) := by decide +kernel
theorem dX10_open_5 : decode cX10_open 5 = .ok (.invokevirtual 116, 3) := by decide +kernel
theorem dX10_open_8 : decode cX10_open 8 = .ok (.ifCond .eq 10, 3) := by decide +kernel
theorem dX10_open_11 : decode cX10_open 11 = .ok (.iload_n 2, 1) := by decide +kernel
theorem dX10_open_12 : decode cX10_open 12 = .ok (.invokestatic 119, 3) := by decide +kernel
theorem dX10_open_15 : decode cX10_open 15 = .ok (.ifCond .ne 5, 3) := by decide +kernel
theorem dX10_open_18 : decode cX10_open 18 = .ok (.iconst (-1), 1) := by decide +kernel
theorem dX10_open_19 : decode cX10_open 19 = .ok (.ireturn, 1) := by decide +kernel
theorem dX10_open_20 : decode cX10_open 20 = .ok (.aload_n 0, 1) := by decide +kernel
theorem dX10_open_21 : decode cX10_open 21 = .ok (.getfield 12, 3) := by decide +kernel
theorem dX10_open_24 : decode cX10_open 24 = .ok (.getfield 151, 3) := by decide +kernel
theorem dX10_open_27 : decode cX10_open 27 = .ok (.iload_n 2, 1) := by decide +kernel
theorem dX10_open_28 : decode cX10_open 28 = .ok (.iaload, 1) := by decide +kernel
theorem dX10_open_29 : decode cX10_open 29 = .ok (.iload_n 1, 1) := by decide +kernel
theorem dX10_open_30 : decode cX10_open 30 = .ok (.ishr, 1) := by decide +kernel
theorem dX10_open_31 : decode cX10_open 31 = .ok (.iconst 1, 1) := by decide +kernel
theorem dX10_open_32 : decode cX10_open 32 = .ok (.iand, 1) := by decide +kernel
theorem dX10_open_33 : decode cX10_open 33 = .ok (.ireturn, 1) := by decide +kernel
theorem dX10_overlap_0 : decode cX10_overlap 0 = .ok (.aload_n 0, 1) := by decide +kernel
theorem dX10_overlap_1 : decode cX10_overlap 1 = .ok (.getfield 12, 3) := by decide +kernel
theorem dX10_overlap_4 : decode cX10_overlap 4 = .ok (.iload_n 1, 1) := by decide +kernel
theorem dX10_overlap_5 : decode cX10_overlap 5 = .ok (.invokevirtual 116, 3) := by decide +kernel
theorem dX10_overlap_8 : decode cX10_overlap 8 = .ok (.ifCond .eq 21, 3) := by decide +kernel
theorem dX10_overlap_11 : decode cX10_overlap 11 = .ok (.aload_n 0, 1) := by decide +kernel
theorem dX10_overlap_12 : decode cX10_overlap 12 = .ok (.getfield 12, 3) := by decide +kernel
theorem dX10_overlap_15 : decode cX10_overlap 15 = .ok (.iload_n 2, 1) := by decide +kernel
theorem dX10_overlap_16 : decode cX10_overlap 16 = .ok (.invokevirtual 116, 3) := by decide +kernel
theorem dX10_overlap_19 : decode cX10_overlap 19 = .ok (.ifCond .eq 10, 3) := by decide +kernel
theorem dX10_overlap_22 : decode cX10_overlap 22 = .ok (.iload_n 3, 1) := by decide +kernel
theorem dX10_overlap_23 : decode cX10_overlap 23 = .ok (.invokestatic 119, 3) := by decide +kernel
theorem dX10_overlap_26 : decode cX10_overlap 26 = .ok (.ifCond .ne 5, 3) := by decide +kernel
theorem dX10_overlap_29 : decode cX10_overlap 29 = .ok (.iconst (-1), 1) := by decide +kernel
theorem dX10_overlap_30 : decode cX10_overlap 30 = .ok (.ireturn, 1) := by decide +kernel
theorem dX10_overlap_31 : decode cX10_overlap 31 = .ok (.aload_n 0, 1) := by decide +kernel
theorem dX10_overlap_32 : decode cX10_overlap 32 = .ok (.getfield 12, 3) := by decide +kernel
theorem dX10_overlap_35 : decode cX10_overlap 35 = .ok (.iload_n 1, 1) := by decide +kernel
theorem dX10_overlap_36 : decode cX10_overlap 36 = .ok (.iload_n 2, 1) := by decide +kernel
theorem dX10_overlap_37 : decode cX10_overlap 37 = .ok (.iload_n 3, 1) := by decide +kernel
theorem dX10_overlap_38 : decode cX10_overlap 38 = .ok (.invokevirtual 154, 3) := by decide +kernel
theorem dX10_overlap_41 : decode cX10_overlap 41 = .ok (.invokestatic 158, 3) := by decide +kernel
theorem dX10_overlap_44 : decode cX10_overlap 44 = .ok (.ireturn, 1) := by decide +kernel
theorem dX10_loses_0 : decode cX10_loses 0 = .ok (.aload_n 0, 1) := by decide +kernel
theorem dX10_loses_1 : decode cX10_loses 1 = .ok (.getfield 12, 3) := by decide +kernel
theorem dX10_loses_4 : decode cX10_loses 4 = .ok (.iload_n 1, 1) := by decide +kernel
theorem dX10_loses_5 : decode cX10_loses 5 = .ok (.invokevirtual 116, 3) := by decide +kernel
theorem dX10_loses_8 : decode cX10_loses 8 = .ok (.ifCond .eq 21, 3) := by decide +kernel
theorem dX10_loses_11 : decode cX10_loses 11 = .ok (.aload_n 0, 1) := by decide +kernel
theorem dX10_loses_12 : decode cX10_loses 12 = .ok (.getfield 12, 3) := by decide +kernel
theorem dX10_loses_15 : decode cX10_loses 15 = .ok (.iload_n 2, 1) := by decide +kernel
theorem dX10_loses_16 : decode cX10_loses 16 = .ok (.invokevirtual 116, 3) := by decide +kernel
theorem dX10_loses_19 : decode cX10_loses 19 = .ok (.ifCond .eq 10, 3) := by decide +kernel
theorem dX10_loses_22 : decode cX10_loses 22 = .ok (.iload_n 3, 1) := by decide +kernel
theorem dX10_loses_23 : decode cX10_loses 23 = .ok (.invokestatic 119, 3) := by decide +kernel
theorem dX10_loses_26 : decode cX10_loses 26 = .ok (.ifCond .ne 5, 3) := by decide +kernel
theorem dX10_loses_29 : decode cX10_loses 29 = .ok (.iconst (-1), 1) := by decide +kernel
theorem dX10_loses_30 : decode cX10_loses 30 = .ok (.ireturn, 1) := by decide +kernel
theorem dX10_loses_31 : decode cX10_loses 31 = .ok (.aload_n 0, 1) := by decide +kernel
theorem dX10_loses_32 : decode cX10_loses 32 = .ok (.getfield 12, 3) := by decide +kernel
theorem dX10_loses_35 : decode cX10_loses 35 = .ok (.iload_n 1, 1) := by decide +kernel
theorem dX10_loses_36 : decode cX10_loses 36 = .ok (.iload_n 2, 1) := by decide +kernel
theorem dX10_loses_37 : decode cX10_loses 37 = .ok (.aload_n 0, 1) := by decide +kernel
theorem dX10_loses_38 : decode cX10_loses 38 = .ok (.getfield 12, 3) := by decide +kernel
theorem dX10_loses_41 : decode cX10_loses 41 = .ok (.iload_n 1, 1) := by decide +kernel
theorem dX10_loses_42 : decode cX10_loses 42 = .ok (.iload_n 2, 1) := by decide +kernel
theorem dX10_loses_43 : decode cX10_loses 43 = .ok (.iload_n 3, 1) := by decide +kernel
theorem dX10_loses_44 : decode cX10_loses 44 = .ok (.invokevirtual 154, 3) := by decide +kernel
theorem dX10_loses_47 : decode cX10_loses 47 = .ok (.invokevirtual 164, 3) := by decide +kernel
theorem dX10_loses_50 : decode cX10_loses 50 = .ok (.ireturn, 1) := by decide +kernel
theorem dX10_dark_0 : decode cX10_dark 0 = .ok (.iload_n 1, 1) := by decide +kernel
theorem dX10_dark_1 : decode cX10_dark 1 = .ok (.ifCond .lt 26, 3) := by decide +kernel
theorem dX10_dark_4 : decode cX10_dark 4 = .ok (.iload_n 1, 1) := by decide +kernel
theorem dX10_dark_5 : decode cX10_dark 5 = .ok (.bipush 6, 2) := by decide +kernel
theorem dX10_dark_7 : decode cX10_dark 7 = .ok (.if_icmp .ge 20, 3) := by decide +kernel
theorem dX10_dark_10 : decode cX10_dark 10 = .ok (.iload_n 2, 1) := by decide +kernel
theorem dX10_dark_11 : decode cX10_dark 11 = .ok (.invokestatic 119, 3) := by decide +kernel
theorem dX10_dark_14 : decode cX10_dark 14 = .ok (.ifCond .eq 13, 3) := by decide +kernel
theorem dX10_dark_17 : decode cX10_dark 17 = .ok (.aload_n 0, 1) := by decide +kernel
theorem dX10_dark_18 : decode cX10_dark 18 = .ok (.getfield 12, 3) := by decide +kernel
theorem dX10_dark_21 : decode cX10_dark 21 = .ok (.getfield 95, 3) := by decide +kernel
theorem dX10_dark_24 : decode cX10_dark 24 = .ok (.ifCond .ne 5, 3) := by decide +kernel
theorem dX10_dark_27 : decode cX10_dark 27 = .ok (.iconst (-1), 1) := by decide +kernel
theorem dX10_dark_28 : decode cX10_dark 28 = .ok (.ireturn, 1) := by decide +kernel
theorem dX10_dark_29 : decode cX10_dark 29 = .ok (.aload_n 0, 1) := by decide +kernel
theorem dX10_dark_30 : decode cX10_dark 30 = .ok (.getfield 12, 3) := by decide +kernel
theorem dX10_dark_33 : decode cX10_dark 33 = .ok (.iload_n 1, 1) := by decide +kernel
theorem dX10_dark_34 : decode cX10_dark 34 = .ok (.invokevirtual 167, 3) := by decide +kernel
theorem dX10_dark_37 : decode cX10_dark 37 = .ok (.istore_n 3, 1) := by decide +kernel
theorem dX10_dark_38 : decode cX10_dark 38 = .ok (.iconst 0, 1) := by decide +kernel
theorem dX10_dark_39 : decode cX10_dark 39 = .ok (.istore 4, 2) := by decide +kernel
theorem dX10_dark_41 : decode cX10_dark 41 = .ok (.iconst (-1), 1) := by decide +kernel
theorem dX10_dark_42 : decode cX10_dark 42 = .ok (.istore 5, 2) := by decide +kernel
theorem dX10_dark_44 : decode cX10_dark 44 = .ok (.iconst 0, 1) := by decide +kernel
theorem dX10_dark_45 : decode cX10_dark 45 = .ok (.istore 6, 2) := by decide +kernel
theorem dX10_dark_47 : decode cX10_dark 47 = .ok (.iload_n 2, 1) := by decide +kernel
theorem dX10_dark_48 : decode cX10_dark 48 = .ok (.istore 7, 2) := by decide +kernel
theorem dX10_dark_50 : decode cX10_dark 50 = .ok (.iload_n 2, 1) := by decide +kernel
theorem dX10_dark_51 : decode cX10_dark 51 = .ok (.istore 8, 2) := by decide +kernel
theorem dX10_dark_53 : decode cX10_dark 53 = .ok (.iload 8, 2) := by decide +kernel
theorem dX10_dark_55 : decode cX10_dark 55 = .ok (.iload_n 2, 1) := by decide +kernel
theorem dX10_dark_56 : decode cX10_dark 56 = .ok (.bipush 24, 2) := by decide +kernel
theorem dX10_dark_58 : decode cX10_dark 58 = .ok (.iadd, 1) := by decide +kernel
theorem dX10_dark_59 : decode cX10_dark 59 = .ok (.if_icmp .ge 63, 3) := by decide +kernel
theorem dX10_dark_62 : decode cX10_dark 62 = .ok (.aload_n 0, 1) := by decide +kernel
theorem dX10_dark_63 : decode cX10_dark 63 = .ok (.getfield 12, 3) := by decide +kernel
theorem dX10_dark_66 : decode cX10_dark 66 = .ok (.getfield 151, 3) := by decide +kernel
theorem dX10_dark_69 : decode cX10_dark 69 = .ok (.iload 8, 2) := by decide +kernel
theorem dX10_dark_71 : decode cX10_dark 71 = .ok (.iaload, 1) := by decide +kernel
theorem dX10_dark_72 : decode cX10_dark 72 = .ok (.iload_n 3, 1) := by decide +kernel
theorem dX10_dark_73 : decode cX10_dark 73 = .ok (.iand, 1) := by decide +kernel
theorem dX10_dark_74 : decode cX10_dark 74 = .ok (.invokestatic 158, 3) := by decide +kernel
theorem dX10_dark_77 : decode cX10_dark 77 = .ok (.istore 9, 2) := by decide +kernel
theorem dX10_dark_79 : decode cX10_dark 79 = .ok (.iload 9, 2) := by decide +kernel
theorem dX10_dark_81 : decode cX10_dark 81 = .ok (.ifCond .ne 20, 3) := by decide +kernel
theorem dX10_dark_84 : decode cX10_dark 84 = .ok (.iload 4, 2) := by decide +kernel
theorem dX10_dark_86 : decode cX10_dark 86 = .ok (.ifCond .ne 8, 3) := by decide +kernel
theorem dX10_dark_89 : decode cX10_dark 89 = .ok (.iload 8, 2) := by decide +kernel
theorem dX10_dark_91 : decode cX10_dark 91 = .ok (.goto 5, 3) := by decide +kernel
theorem dX10_dark_94 : decode cX10_dark 94 = .ok (.iload 5, 2) := by decide +kernel
theorem dX10_dark_96 : decode cX10_dark 96 = .ok (.istore 5, 2) := by decide +kernel
theorem dX10_dark_98 : decode cX10_dark 98 = .ok (.iinc 4 1, 3) := by decide +kernel
theorem dX10_dark_101 : decode cX10_dark 101 = .ok (.iload 9, 2) := by decide +kernel
theorem dX10_dark_103 : decode cX10_dark 103 = .ok (.iload 6, 2) := by decide +kernel
theorem dX10_dark_105 : decode cX10_dark 105 = .ok (.if_icmp .le 11, 3) := by decide +kernel
theorem dX10_dark_108 : decode cX10_dark 108 = .ok (.iload 9, 2) := by decide +kernel
theorem dX10_dark_110 : decode cX10_dark 110 = .ok (.istore 6, 2) := by decide +kernel
theorem dX10_dark_112 : decode cX10_dark 112 = .ok (.iload 8, 2) := by decide +kernel
theorem dX10_dark_114 : decode cX10_dark 114 = .ok (.istore 7, 2) := by decide +kernel
theorem dX10_dark_116 : decode cX10_dark 116 = .ok (.iinc 8 1, 3) := by decide +kernel
theorem dX10_dark_119 : decode cX10_dark 119 = .ok (.goto (-66), 3) := by decide +kernel
theorem dX10_dark_122 : decode cX10_dark 122 = .ok (.aload_n 0, 1) := by decide +kernel
theorem dX10_dark_123 : decode cX10_dark 123 = .ok (.getfield 83, 3) := by decide +kernel
theorem dX10_dark_126 : decode cX10_dark 126 = .ok (.invokevirtual 170, 3) := by decide +kernel
theorem dX10_dark_129 : decode cX10_dark 129 = .ok (.aload_n 0, 1) := by decide +kernel
theorem dX10_dark_130 : decode cX10_dark 130 = .ok (.getfield 83, 3) := by decide +kernel
theorem dX10_dark_133 : decode cX10_dark 133 = .ok (.iload 5, 2) := by decide +kernel
theorem dX10_dark_135 : decode cX10_dark 135 = .ok (.i2l, 1) := by decide +kernel
theorem dX10_dark_136 : decode cX10_dark 136 = .ok (.invokevirtual 173, 3) := by decide +kernel
theorem dX10_dark_139 : decode cX10_dark 139 = .ok (.aload_n 0, 1) := by decide +kernel
theorem dX10_dark_140 : decode cX10_dark 140 = .ok (.getfield 83, 3) := by decide +kernel
theorem dX10_dark_143 : decode cX10_dark 143 = .ok (.iload 6, 2) := by decide +kernel
theorem dX10_dark_145 : decode cX10_dark 145 = .ok (.i2l, 1) := by decide +kernel
theorem dX10_dark_146 : decode cX10_dark 146 = .ok (.invokevirtual 173, 3) := by decide +kernel
theorem dX10_dark_149 : decode cX10_dark 149 = .ok (.aload_n 0, 1) := by decide +kernel
theorem dX10_dark_150 : decode cX10_dark 150 = .ok (.getfield 83, 3) := by decide +kernel
theorem dX10_dark_153 : decode cX10_dark 153 = .ok (.iload 7, 2) := by decide +kernel
theorem dX10_dark_155 : decode cX10_dark 155 = .ok (.i2l, 1) := by decide +kernel
theorem dX10_dark_156 : decode cX10_dark 156 = .ok (.invokevirtual 173, 3) := by decide +kernel
theorem dX10_dark_159 : decode cX10_dark 159 = .ok (.iload 4, 2) := by decide +kernel
theorem dX10_dark_161 : decode cX10_dark 161 = .ok (.ireturn, 1) := by decide +kernel
noncomputable def f_X9_workForPay_78 (fu : Nat) (k26 : Int32 → Int32 → Int32 → hM → Option (Unit × hM)) (x2 : Int32) (x3 : Int32) (x4 : Int32) (s1 : Int32) (s2 : Int32) (m : hM) : Option (Unit × hM) :=
  if hIn s1 3255 then (
hLet (sI m 39 (Int32.toNatClampNeg s1) s2) fun m12 =>
hLet (x4 + 1) fun y13 =>
k26 x2 x3 y13 m12) else none
set_option maxRecDepth 100000 in
set_option maxHeartbeats 4000000 in
theorem r_X9_workForPay_78 {G : hG} {X : hX} (C : Cx G X 1 cX9_workForPay 6 RX9 none) (K : Cr G X) (fu : Nat) (k26 : Int32 → Int32 → Int32 → hM → Option (Unit × hM)) (hk26 : ∀ (x2 : Int32) (x3 : Int32) (x4 : Int32) (m : hM), Rf vU G X 26 [(0, hA G 34), (2, .int x2), (3, .int x3), (4, .int x4)] [] m (k26 x2 x3 x4 m)) (x2 : Int32) (x3 : Int32) (x4 : Int32) (s1 : Int32) (s2 : Int32) (m : hM) : Rf vU G X 78 [(0, hA G 34), (2, .int x2), (3, .int x3), (4, .int x4)] [.int s2, .int s1, hA G 39] m (f_X9_workForPay_78 fu k26 x2 x3 x4 s1 s2 m) := by
  unfold f_X9_workForPay_78
  refine rf_guard (fun h11 => ?_)
  refine rf_iast C (n := 79) ly_39 h11 rfl dX9_workForPay_78 rfl ?_
  refine rf_letM (fun m12 => ?_)
  refine rf_iinc2 C (n := 82) (q := 3) (fun y13 => [(4, .int y13), (0, hA G 34), (2, .int x2), (3, .int x3)]) dX9_workForPay_79 rfl rfl (by decide) (by decide) (fun _ => rfl) (fun y13 => ?_)
  refine rf_goto C (n := 26) dX9_workForPay_82 (by decide) ?_
  exact rf_lv _ [1, 2, 3, 0] rfl (hk26 _ _ _ _)
noncomputable def s_X9_workForPay_26 (fu : Nat) (ih : Int32 → Int32 → Int32 → hM → Option (Unit × hM)) (x2 : Int32) (x3 : Int32) (x4 : Int32) (m : hM) : Option (Unit × hM) :=
  if (x2 + 104) ≤ x4 then (
some ((), m)) else (
if hIn (x4 + 1) 3255 then (
hLet ((gI m 39 (Int32.toNatClampNeg (x4 + 1))) + x3) fun y7 =>
if hIn x4 3255 then (
if (gI m 39 (Int32.toNatClampNeg x4)) ≤ y7 then (
if hIn x4 3255 then (
f_X9_workForPay_78 fu ih x2 x3 x4 x4 (gI m 39 (Int32.toNatClampNeg x4)) m) else none) else (
f_X9_workForPay_78 fu ih x2 x3 x4 x4 y7 m)) else none) else none)
noncomputable def f_X9_workForPay_26 (fu : Nat) (n : Nat) : Int32 → Int32 → Int32 → hM → Option (Unit × hM) :=
  Nat.rec (motive := fun _ => Int32 → Int32 → Int32 → hM → Option (Unit × hM)) (fun _ _ _ _ => none) (fun _ ih => s_X9_workForPay_26 fu ih) n
theorem f_X9_workForPay_26_s (fu : Nat) (n : Nat) (x2 : Int32) (x3 : Int32) (x4 : Int32) (m : hM) : f_X9_workForPay_26 fu (n + 1) x2 x3 x4 m = s_X9_workForPay_26 fu (f_X9_workForPay_26 fu n) x2 x3 x4 m := rfl
set_option maxRecDepth 100000 in
set_option maxHeartbeats 4000000 in
theorem r_X9_workForPay_26 {G : hG} {X : hX} (C : Cx G X 1 cX9_workForPay 6 RX9 none) (K : Cr G X) (fu : Nat) (n : Nat) : ∀ (x2 : Int32) (x3 : Int32) (x4 : Int32) (m : hM), Rf vU G X 26 [(0, hA G 34), (2, .int x2), (3, .int x3), (4, .int x4)] [] m (f_X9_workForPay_26 fu n x2 x3 x4 m) := by
  induction n with
  | zero => intros; exact rf_none
  | succ n ih =>
    intro x2 x3 x4 m
    show Rf vU G X 26 [(0, hA G 34), (2, .int x2), (3, .int x3), (4, .int x4)] [] m (s_X9_workForPay_26 fu (f_X9_workForPay_26 fu n) x2 x3 x4 m)
    unfold s_X9_workForPay_26
    refine rf_iload C (n := 28) (q := 3) dX9_workForPay_26 rfl rfl ?_
    refine rf_iload_n C (n := 29) (q := 1) dX9_workForPay_28 rfl rfl rfl ?_
    refine rf_bipush C (n := 31) (v := 104) dX9_workForPay_29 rfl (by decide) ?_
    refine rf_iadd C (n := 32) dX9_workForPay_31 rfl ?_
    refine rf_icmp_ge C (tgt := 85) (n := 35) dX9_workForPay_32 (by decide) rfl (fun h5 => ?_) (fun h5 => ?_)
    · exact rf_vret C K dX9_workForPay_85
    · refine rf_aload_n C (n := 36) (q := 0) dX9_workForPay_35 rfl rfl rfl ?_
      refine rf_getS C (n := 39) fl_RX9_31 ly_34 rfl dX9_workForPay_36 rfl ?_
      refine rf_iload C (n := 41) (q := 3) dX9_workForPay_39 rfl rfl ?_
      refine rf_iconst C (n := 42) (v := 1) dX9_workForPay_41 rfl (by decide) ?_
      refine rf_iadd C (n := 43) dX9_workForPay_42 rfl ?_
      refine rf_guard (fun h6 => ?_)
      refine rf_iald C (n := 44) ly_39 h6 rfl dX9_workForPay_43 rfl ?_
      refine rf_iload_n C (n := 45) (q := 2) dX9_workForPay_44 rfl rfl rfl ?_
      refine rf_iadd C (n := 46) dX9_workForPay_45 rfl ?_
      refine rf_letI (fun y7 => ?_)
      refine rf_istore C (n := 48) [(5, .int y7), (0, hA G 34), (2, .int x2), (3, .int x3), (4, .int x4)] dX9_workForPay_46 rfl (by decide) rfl ?_
      refine rf_aload_n C (n := 49) (q := 1) dX9_workForPay_48 rfl rfl rfl ?_
      refine rf_getS C (n := 52) fl_RX9_31 ly_34 rfl dX9_workForPay_49 rfl ?_
      refine rf_iload C (n := 54) (q := 4) dX9_workForPay_52 rfl rfl ?_
      refine rf_iload C (n := 56) (q := 0) dX9_workForPay_54 rfl rfl ?_
      refine rf_aload_n C (n := 57) (q := 1) dX9_workForPay_56 rfl rfl rfl ?_
      refine rf_getS C (n := 60) fl_RX9_31 ly_34 rfl dX9_workForPay_57 rfl ?_
      refine rf_iload C (n := 62) (q := 4) dX9_workForPay_60 rfl rfl ?_
      refine rf_guard (fun h8 => ?_)
      refine rf_iald C (n := 63) ly_39 h8 rfl dX9_workForPay_62 rfl ?_
      refine rf_icmp_ge C (tgt := 71) (n := 66) dX9_workForPay_63 (by decide) rfl (fun h9 => ?_) (fun h9 => ?_)
      · refine rf_aload_n C (n := 72) (q := 1) dX9_workForPay_71 rfl rfl rfl ?_
        refine rf_getS C (n := 75) fl_RX9_31 ly_34 rfl dX9_workForPay_72 rfl ?_
        refine rf_iload C (n := 77) (q := 4) dX9_workForPay_75 rfl rfl ?_
        refine rf_guard (fun h10 => ?_)
        refine rf_iald C (n := 78) ly_39 h10 rfl dX9_workForPay_77 rfl ?_
        exact rf_lv _ [1, 2, 3, 4] rfl (r_X9_workForPay_78 C K fu _ ih _ _ _ _ _ _)
      · refine rf_iload C (n := 68) (q := 0) dX9_workForPay_66 rfl rfl ?_
        refine rf_goto C (n := 78) dX9_workForPay_68 (by decide) ?_
        exact rf_lv _ [1, 2, 3, 4] rfl (r_X9_workForPay_78 C K fu _ ih _ _ _ _ _ _)
noncomputable def f_X9_workForPay (fu : Nat) (x1 : Int32) (m : hM) : Option (Unit × hM) :=
  hLet (x1 * 105) fun y1 =>
if hIn x1 156 then (
if hIn (gI m 36 (Int32.toNatClampNeg x1)) 6 then (
hLet (gI m (6 + 2 * (Int32.toNatClampNeg (gI m 36 (Int32.toNatClampNeg x1)))) 3) fun y4 =>
f_X9_workForPay_26 fu fu y1 y4 y1 m) else none) else none
set_option maxRecDepth 100000 in
set_option maxHeartbeats 4000000 in
theorem c_X9_workForPay (G : hG) (fu : Nat) (x1 : Int32) (m : hM) : Mt vU G 1 yX9_workForPay cX9_workForPay 6 none [hA G 34, .int x1] m (f_X9_workForPay fu x1 m) := by
  refine mt_of (by decide +kernel) (Nat.le_of_ble_eq_true rfl) (fun X C K => ?_)
  have C : Cx G X 1 cX9_workForPay 6 RX9 none := C
  show Rf vU G X 0 [(0, hA G 34), (1, .int x1)] [] m _
  unfold f_X9_workForPay
  refine rf_iload_n C (n := 1) (q := 1) dX9_workForPay_0 rfl rfl rfl ?_
  refine rf_bipush C (n := 3) (v := 105) dX9_workForPay_1 rfl (by decide) ?_
  refine rf_imul C (n := 4) dX9_workForPay_3 rfl ?_
  refine rf_letI (fun y1 => ?_)
  refine rf_istore_n C (n := 5) [(2, .int y1), (0, hA G 34), (1, .int x1)] dX9_workForPay_4 rfl rfl (by decide) rfl ?_
  refine rf_aload_n C (n := 6) (q := 1) dX9_workForPay_5 rfl rfl rfl ?_
  refine rf_getS C (n := 9) fl_RX9_37 ly_34 rfl dX9_workForPay_6 rfl ?_
  refine rf_getS C (n := 12) fl_RX9_86 ly_1 rfl dX9_workForPay_9 rfl ?_
  refine rf_aload_n C (n := 13) (q := 1) dX9_workForPay_12 rfl rfl rfl ?_
  refine rf_getS C (n := 16) fl_RX9_15 ly_34 rfl dX9_workForPay_13 rfl ?_
  refine rf_iload_n C (n := 17) (q := 2) dX9_workForPay_16 rfl rfl rfl ?_
  refine rf_guard (fun h2 => ?_)
  refine rf_iald C (n := 18) ly_36 h2 rfl dX9_workForPay_17 rfl ?_
  refine rf_guard (fun h3 => ?_)
  refine rf_aaldO C (n := 19) ly_2 h3 (of_r h3) dX9_workForPay_18 rfl ?_
  refine rf_getI C (n := 22) fl_RX9_90 (pO_l (of_o h3)) rfl dX9_workForPay_19 rfl ?_
  refine rf_letI (fun y4 => ?_)
  refine rf_istore_n C (n := 23) [(3, .int y4), (2, .int y1), (0, hA G 34), (1, .int x1)] dX9_workForPay_22 rfl rfl (by decide) rfl ?_
  refine rf_iload_n C (n := 24) (q := 1) dX9_workForPay_23 rfl rfl rfl ?_
  refine rf_istore C (n := 26) [(4, .int y1), (3, .int y4), (2, .int y1), (0, hA G 34), (1, .int x1)] dX9_workForPay_24 rfl (by decide) rfl ?_
  exact rf_lv _ [3, 2, 1, 0] rfl (r_X9_workForPay_26 C K fu fu _ _ _ _)
noncomputable def f_X9_cheapest_199 (fu : Nat) (m : hM) : Option (Int32 × hM) :=
  if hIn ((gI m 34 5) * 105) 3255 then (
hLet (gI m 39 (Int32.toNatClampNeg ((gI m 34 5) * 105))) fun y14 =>
if y14 < 1000000 then (
some (y14, m)) else (
some ((-2), m))) else none
set_option maxRecDepth 100000 in
set_option maxHeartbeats 4000000 in
theorem r_X9_cheapest_199 {G : hG} {X : hX} (C : Cx G X 4 cX9_cheapest 10 RX9 (some .int)) (K : Cr G X) (fu : Nat) (m : hM) : Rf vI G X 199 [(0, hA G 34)] [] m (f_X9_cheapest_199 fu m) := by
  unfold f_X9_cheapest_199
  refine rf_aload_n C (n := 200) (q := 0) dX9_cheapest_199 rfl rfl rfl ?_
  refine rf_getS C (n := 203) fl_RX9_31 ly_34 rfl dX9_cheapest_200 rfl ?_
  refine rf_aload_n C (n := 204) (q := 0) dX9_cheapest_203 rfl rfl rfl ?_
  refine rf_getI C (n := 207) fl_RX9_25 ly_34 rfl dX9_cheapest_204 rfl ?_
  refine rf_bipush C (n := 209) (v := 105) dX9_cheapest_207 rfl (by decide) ?_
  refine rf_imul C (n := 210) dX9_cheapest_209 rfl ?_
  refine rf_guard (fun h13 => ?_)
  refine rf_iald C (n := 211) ly_39 h13 rfl dX9_cheapest_210 rfl ?_
  refine rf_letI (fun y14 => ?_)
  refine rf_istore C (n := 213) [(7, .int y14), (0, hA G 34)] dX9_cheapest_211 rfl (by decide) rfl ?_
  refine rf_iload C (n := 215) (q := 0) dX9_cheapest_213 rfl rfl ?_
  refine rf_ldc C (n := 217) dX9_cheapest_215 rfl kc_RX9_57 ?_
  refine rf_icmp_lt C (tgt := 225) (n := 220) dX9_cheapest_217 (by decide) rfl (fun h15 => ?_) (fun h15 => ?_)
  · refine rf_iload C (n := 227) (q := 0) dX9_cheapest_225 rfl rfl ?_
    exact rf_iret C K dX9_cheapest_227
  · refine rf_bipush C (n := 222) (v := (-2)) dX9_cheapest_220 rfl (by decide) ?_
    refine rf_goto C (n := 227) dX9_cheapest_222 (by decide) ?_
    exact rf_iret C K dX9_cheapest_227
noncomputable def f_X9_cheapest_193 (fu : Nat) (k155 : Int32 → Int32 → hM → Option (Int32 × hM)) (x6 : Int32) (x7 : Int32) (m : hM) : Option (Int32 × hM) :=
  hLet (x7 + 1) fun y19 =>
k155 x6 y19 m
set_option maxRecDepth 100000 in
set_option maxHeartbeats 4000000 in
theorem r_X9_cheapest_193 {G : hG} {X : hX} (C : Cx G X 4 cX9_cheapest 10 RX9 (some .int)) (K : Cr G X) (fu : Nat) (k155 : Int32 → Int32 → hM → Option (Int32 × hM)) (hk155 : ∀ (x6 : Int32) (x7 : Int32) (m : hM), Rf vI G X 155 [(0, hA G 34), (6, .int x6), (7, .int x7)] [] m (k155 x6 x7 m)) (x6 : Int32) (x7 : Int32) (m : hM) : Rf vI G X 193 [(0, hA G 34), (6, .int x6), (7, .int x7)] [] m (f_X9_cheapest_193 fu k155 x6 x7 m) := by
  unfold f_X9_cheapest_193
  refine rf_iinc2 C (n := 196) (q := 2) (fun y19 => [(7, .int y19), (0, hA G 34), (6, .int x6)]) dX9_cheapest_193 rfl rfl (by decide) (by decide) (fun _ => rfl) (fun y19 => ?_)
  refine rf_goto C (n := 155) dX9_cheapest_196 (by decide) ?_
  exact rf_lv _ [1, 2, 0] rfl (hk155 _ _ _)
noncomputable def s_X9_cheapest_155 (fu : Nat) (ih : Int32 → Int32 → hM → Option (Int32 × hM)) (x6 : Int32) (x7 : Int32) (m : hM) : Option (Int32 × hM) :=
  if x6 ≤ x7 then (
f_X9_cheapest_199 fu m) else (
if hIn (x7 * 105) 3255 then (
if hIn ((gI m 34 5) * 105) 3255 then (
if (gI m 39 (Int32.toNatClampNeg ((gI m 34 5) * 105))) ≤ (gI m 39 (Int32.toNatClampNeg (x7 * 105))) then (
f_X9_cheapest_193 fu ih x6 x7 m) else (
hLet (sI m 34 5 x7) fun m20 =>
f_X9_cheapest_193 fu ih x6 x7 m20)) else none) else none)
noncomputable def f_X9_cheapest_155 (fu : Nat) (n : Nat) : Int32 → Int32 → hM → Option (Int32 × hM) :=
  Nat.rec (motive := fun _ => Int32 → Int32 → hM → Option (Int32 × hM)) (fun _ _ _ => none) (fun _ ih => s_X9_cheapest_155 fu ih) n
theorem f_X9_cheapest_155_s (fu : Nat) (n : Nat) (x6 : Int32) (x7 : Int32) (m : hM) : f_X9_cheapest_155 fu (n + 1) x6 x7 m = s_X9_cheapest_155 fu (f_X9_cheapest_155 fu n) x6 x7 m := rfl
set_option maxRecDepth 100000 in
set_option maxHeartbeats 4000000 in
theorem r_X9_cheapest_155 {G : hG} {X : hX} (C : Cx G X 4 cX9_cheapest 10 RX9 (some .int)) (K : Cr G X) (fu : Nat) (n : Nat) : ∀ (x6 : Int32) (x7 : Int32) (m : hM), Rf vI G X 155 [(0, hA G 34), (6, .int x6), (7, .int x7)] [] m (f_X9_cheapest_155 fu n x6 x7 m) := by
  induction n with
  | zero => intros; exact rf_none
  | succ n ih =>
    intro x6 x7 m
    show Rf vI G X 155 [(0, hA G 34), (6, .int x6), (7, .int x7)] [] m (s_X9_cheapest_155 fu (f_X9_cheapest_155 fu n) x6 x7 m)
    unfold s_X9_cheapest_155
    refine rf_iload C (n := 157) (q := 2) dX9_cheapest_155 rfl rfl ?_
    refine rf_iload C (n := 159) (q := 1) dX9_cheapest_157 rfl rfl ?_
    refine rf_icmp_ge C (tgt := 199) (n := 162) dX9_cheapest_159 (by decide) rfl (fun h12 => ?_) (fun h12 => ?_)
    · exact rf_lv _ [0] rfl (r_X9_cheapest_199 C K fu _)
    · refine rf_aload_n C (n := 163) (q := 0) dX9_cheapest_162 rfl rfl rfl ?_
      refine rf_getS C (n := 166) fl_RX9_31 ly_34 rfl dX9_cheapest_163 rfl ?_
      refine rf_iload C (n := 168) (q := 2) dX9_cheapest_166 rfl rfl ?_
      refine rf_bipush C (n := 170) (v := 105) dX9_cheapest_168 rfl (by decide) ?_
      refine rf_imul C (n := 171) dX9_cheapest_170 rfl ?_
      refine rf_guard (fun h16 => ?_)
      refine rf_iald C (n := 172) ly_39 h16 rfl dX9_cheapest_171 rfl ?_
      refine rf_aload_n C (n := 173) (q := 0) dX9_cheapest_172 rfl rfl rfl ?_
      refine rf_getS C (n := 176) fl_RX9_31 ly_34 rfl dX9_cheapest_173 rfl ?_
      refine rf_aload_n C (n := 177) (q := 0) dX9_cheapest_176 rfl rfl rfl ?_
      refine rf_getI C (n := 180) fl_RX9_25 ly_34 rfl dX9_cheapest_177 rfl ?_
      refine rf_bipush C (n := 182) (v := 105) dX9_cheapest_180 rfl (by decide) ?_
      refine rf_imul C (n := 183) dX9_cheapest_182 rfl ?_
      refine rf_guard (fun h17 => ?_)
      refine rf_iald C (n := 184) ly_39 h17 rfl dX9_cheapest_183 rfl ?_
      refine rf_icmp_ge C (tgt := 193) (n := 187) dX9_cheapest_184 (by decide) rfl (fun h18 => ?_) (fun h18 => ?_)
      · exact rf_lv _ [0, 1, 2] rfl (r_X9_cheapest_193 C K fu _ ih _ _ _)
      · refine rf_aload_n C (n := 188) (q := 0) dX9_cheapest_187 rfl rfl rfl ?_
        refine rf_iload C (n := 190) (q := 2) dX9_cheapest_188 rfl rfl ?_
        refine rf_putI C (n := 193) pl_RX9_25 ly_34 rfl ⟨rfl, rfl⟩ dX9_cheapest_190 rfl ?_
        refine rf_letM (fun m20 => ?_)
        exact rf_lv _ [0, 1, 2] rfl (r_X9_cheapest_193 C K fu _ ih _ _ _)
noncomputable def f_X9_cheapest_147 (fu : Nat) (x6 : Int32) (m : hM) : Option (Int32 × hM) :=
  hLet (sI m 34 5 0) fun m11 =>
f_X9_cheapest_155 fu fu x6 1 m11
set_option maxRecDepth 100000 in
set_option maxHeartbeats 4000000 in
theorem r_X9_cheapest_147 {G : hG} {X : hX} (C : Cx G X 4 cX9_cheapest 10 RX9 (some .int)) (K : Cr G X) (fu : Nat) (x6 : Int32) (m : hM) : Rf vI G X 147 [(0, hA G 34), (6, .int x6)] [] m (f_X9_cheapest_147 fu x6 m) := by
  unfold f_X9_cheapest_147
  refine rf_aload_n C (n := 148) (q := 0) dX9_cheapest_147 rfl rfl rfl ?_
  refine rf_iconst C (n := 149) (v := 0) dX9_cheapest_148 rfl (by decide) ?_
  refine rf_putI C (n := 152) pl_RX9_25 ly_34 rfl ⟨rfl, rfl⟩ dX9_cheapest_149 rfl ?_
  refine rf_letM (fun m11 => ?_)
  refine rf_iconst C (n := 153) (v := 1) dX9_cheapest_152 rfl (by decide) ?_
  refine rf_istore C (n := 155) [(7, .int 1), (0, hA G 34), (6, .int x6)] dX9_cheapest_153 rfl (by decide) rfl ?_
  exact rf_lv _ [1, 2, 0] rfl (r_X9_cheapest_155 C K fu fu _ _ _)
noncomputable def f_X9_cheapest_141 (fu : Nat) (k50 : Int32 → Int32 → Int32 → Int32 → hM → Option (Int32 × hM)) (x4 : Int32) (x5 : Int32) (x6 : Int32) (x7 : Int32) (m : hM) : Option (Int32 × hM) :=
  hLet (x7 + 1) fun y27 =>
k50 x4 x5 x6 y27 m
set_option maxRecDepth 100000 in
set_option maxHeartbeats 4000000 in
theorem r_X9_cheapest_141 {G : hG} {X : hX} (C : Cx G X 4 cX9_cheapest 10 RX9 (some .int)) (K : Cr G X) (fu : Nat) (k50 : Int32 → Int32 → Int32 → Int32 → hM → Option (Int32 × hM)) (hk50 : ∀ (x4 : Int32) (x5 : Int32) (x6 : Int32) (x7 : Int32) (m : hM), Rf vI G X 50 [(0, hA G 34), (4, .int x4), (5, .int x5), (6, .int x6), (7, .int x7)] [] m (k50 x4 x5 x6 x7 m)) (x4 : Int32) (x5 : Int32) (x6 : Int32) (x7 : Int32) (m : hM) : Rf vI G X 141 [(0, hA G 34), (4, .int x4), (5, .int x5), (6, .int x6), (7, .int x7)] [] m (f_X9_cheapest_141 fu k50 x4 x5 x6 x7 m) := by
  unfold f_X9_cheapest_141
  refine rf_iinc2 C (n := 144) (q := 4) (fun y27 => [(7, .int y27), (0, hA G 34), (4, .int x4), (5, .int x5), (6, .int x6)]) dX9_cheapest_141 rfl rfl (by decide) (by decide) (fun _ => rfl) (fun y27 => ?_)
  refine rf_goto C (n := 50) dX9_cheapest_144 (by decide) ?_
  exact rf_lv _ [1, 2, 3, 4, 0] rfl (hk50 _ _ _ _ _)
noncomputable def s_X9_cheapest_124 (fu : Nat) (k50 : Int32 → Int32 → Int32 → Int32 → hM → Option (Int32 × hM)) (ih : Int32 → Int32 → Int32 → Int32 → Int32 → hM → Option (Int32 × hM)) (x4 : Int32) (x5 : Int32) (x6 : Int32) (x7 : Int32) (x9 : Int32) (m : hM) : Option (Int32 × hM) :=
  if x9 ≤ 0 then (
f_X9_cheapest_141 fu k50 x4 x5 x6 x7 m) else (
hBd (f_X9_handForPay fu x9 m) fun _ m28 =>
hLet (x9 + (-1)) fun y29 =>
ih x4 x5 x6 x7 y29 m28)
noncomputable def f_X9_cheapest_124 (fu : Nat) (k50 : Int32 → Int32 → Int32 → Int32 → hM → Option (Int32 × hM)) (n : Nat) : Int32 → Int32 → Int32 → Int32 → Int32 → hM → Option (Int32 × hM) :=
  Nat.rec (motive := fun _ => Int32 → Int32 → Int32 → Int32 → Int32 → hM → Option (Int32 × hM)) (fun _ _ _ _ _ _ => none) (fun _ ih => s_X9_cheapest_124 fu k50 ih) n
theorem f_X9_cheapest_124_s (fu : Nat) (k50 : Int32 → Int32 → Int32 → Int32 → hM → Option (Int32 × hM)) (n : Nat) (x4 : Int32) (x5 : Int32) (x6 : Int32) (x7 : Int32) (x9 : Int32) (m : hM) : f_X9_cheapest_124 fu k50 (n + 1) x4 x5 x6 x7 x9 m = s_X9_cheapest_124 fu k50 (f_X9_cheapest_124 fu k50 n) x4 x5 x6 x7 x9 m := rfl
set_option maxRecDepth 100000 in
set_option maxHeartbeats 4000000 in
theorem r_X9_cheapest_124 {G : hG} {X : hX} (C : Cx G X 4 cX9_cheapest 10 RX9 (some .int)) (K : Cr G X) (fu : Nat) (k50 : Int32 → Int32 → Int32 → Int32 → hM → Option (Int32 × hM)) (hk50 : ∀ (x4 : Int32) (x5 : Int32) (x6 : Int32) (x7 : Int32) (m : hM), Rf vI G X 50 [(0, hA G 34), (4, .int x4), (5, .int x5), (6, .int x6), (7, .int x7)] [] m (k50 x4 x5 x6 x7 m)) (n : Nat) : ∀ (x4 : Int32) (x5 : Int32) (x6 : Int32) (x7 : Int32) (x9 : Int32) (m : hM), Rf vI G X 124 [(0, hA G 34), (4, .int x4), (5, .int x5), (6, .int x6), (7, .int x7), (9, .int x9)] [] m (f_X9_cheapest_124 fu k50 n x4 x5 x6 x7 x9 m) := by
  induction n with
  | zero => intros; exact rf_none
  | succ n ih =>
    intro x4 x5 x6 x7 x9 m
    show Rf vI G X 124 [(0, hA G 34), (4, .int x4), (5, .int x5), (6, .int x6), (7, .int x7), (9, .int x9)] [] m (s_X9_cheapest_124 fu k50 (f_X9_cheapest_124 fu k50 n) x4 x5 x6 x7 x9 m)
    unfold s_X9_cheapest_124
    refine rf_iload C (n := 126) (q := 5) dX9_cheapest_124 rfl rfl ?_
    refine rf_if_le C (tgt := 141) (n := 129) dX9_cheapest_126 (by decide) rfl (fun h26 => ?_) (fun h26 => ?_)
    · exact rf_lv _ [0, 1, 2, 3, 4] rfl (r_X9_cheapest_141 C K fu _ hk50 _ _ _ _ _)
    · refine rf_aload_n C (n := 130) (q := 0) dX9_cheapest_129 rfl rfl rfl ?_
      refine rf_iload C (n := 132) (q := 5) dX9_cheapest_130 rfl rfl ?_
      refine rf_callVv C (n := 135) (c_X9_handForPay G fu _ _) mw_RX9_83 ly_34 rfl ⟨by decide, by decide⟩ rfl (Nat.le_of_ble_eq_true rfl) rfl dX9_cheapest_132 rfl (fun _ m28 => ?_)
      refine rf_iinc2 C (n := 138) (q := 5) (fun y29 => [(9, .int y29), (0, hA G 34), (4, .int x4), (5, .int x5), (6, .int x6), (7, .int x7)]) dX9_cheapest_135 rfl rfl (by decide) (by decide) (fun _ => rfl) (fun y29 => ?_)
      refine rf_goto C (n := 124) dX9_cheapest_138 (by decide) ?_
      exact rf_lv _ [1, 2, 3, 4, 5, 0] rfl (ih _ _ _ _ _ _)
noncomputable def f_X9_cheapest_110 (fu : Nat) (k50 : Int32 → Int32 → Int32 → Int32 → hM → Option (Int32 × hM)) (x4 : Int32) (x5 : Int32) (x6 : Int32) (x7 : Int32) (m : hM) : Option (Int32 × hM) :=
  hBd (f_X9_loseFrom fu (x7 + 1) m) fun _ m24 =>
hLet (x6 - 1) fun y25 =>
f_X9_cheapest_124 fu k50 fu x4 x5 x6 x7 y25 m24
set_option maxRecDepth 100000 in
set_option maxHeartbeats 4000000 in
theorem r_X9_cheapest_110 {G : hG} {X : hX} (C : Cx G X 4 cX9_cheapest 10 RX9 (some .int)) (K : Cr G X) (fu : Nat) (k50 : Int32 → Int32 → Int32 → Int32 → hM → Option (Int32 × hM)) (hk50 : ∀ (x4 : Int32) (x5 : Int32) (x6 : Int32) (x7 : Int32) (m : hM), Rf vI G X 50 [(0, hA G 34), (4, .int x4), (5, .int x5), (6, .int x6), (7, .int x7)] [] m (k50 x4 x5 x6 x7 m)) (x4 : Int32) (x5 : Int32) (x6 : Int32) (x7 : Int32) (m : hM) : Rf vI G X 110 [(0, hA G 34), (4, .int x4), (5, .int x5), (6, .int x6), (7, .int x7)] [] m (f_X9_cheapest_110 fu k50 x4 x5 x6 x7 m) := by
  unfold f_X9_cheapest_110
  refine rf_aload_n C (n := 111) (q := 0) dX9_cheapest_110 rfl rfl rfl ?_
  refine rf_iload C (n := 113) (q := 4) dX9_cheapest_111 rfl rfl ?_
  refine rf_iconst C (n := 114) (v := 1) dX9_cheapest_113 rfl (by decide) ?_
  refine rf_iadd C (n := 115) dX9_cheapest_114 rfl ?_
  refine rf_callVv C (n := 118) (c_X9_loseFrom G fu _ _) mw_RX9_70 ly_34 rfl ⟨by decide, by decide⟩ rfl (Nat.le_of_ble_eq_true rfl) rfl dX9_cheapest_115 rfl (fun _ m24 => ?_)
  refine rf_iload C (n := 120) (q := 3) dX9_cheapest_118 rfl rfl ?_
  refine rf_iconst C (n := 121) (v := 1) dX9_cheapest_120 rfl (by decide) ?_
  refine rf_isub C (n := 122) dX9_cheapest_121 rfl ?_
  refine rf_letI (fun y25 => ?_)
  refine rf_istore C (n := 124) [(9, .int y25), (0, hA G 34), (4, .int x4), (5, .int x5), (6, .int x6), (7, .int x7)] dX9_cheapest_122 rfl (by decide) rfl ?_
  exact rf_lv _ [1, 2, 3, 4, 5, 0] rfl (r_X9_cheapest_124 C K fu _ hk50 fu _ _ _ _ _ _)
noncomputable def f_X9_cheapest_104 (fu : Nat) (k50 : Int32 → Int32 → Int32 → Int32 → hM → Option (Int32 × hM)) (k75 : Int32 → Int32 → Int32 → Int32 → Int32 → Int32 → hM → Option (Int32 × hM)) (x4 : Int32) (x5 : Int32) (x6 : Int32) (x7 : Int32) (x8 : Int32) (x9 : Int32) (m : hM) : Option (Int32 × hM) :=
  hLet (x9 + 1) fun y32 =>
k75 x4 x5 x6 x7 x8 y32 m
set_option maxRecDepth 100000 in
set_option maxHeartbeats 4000000 in
theorem r_X9_cheapest_104 {G : hG} {X : hX} (C : Cx G X 4 cX9_cheapest 10 RX9 (some .int)) (K : Cr G X) (fu : Nat) (k50 : Int32 → Int32 → Int32 → Int32 → hM → Option (Int32 × hM)) (hk50 : ∀ (x4 : Int32) (x5 : Int32) (x6 : Int32) (x7 : Int32) (m : hM), Rf vI G X 50 [(0, hA G 34), (4, .int x4), (5, .int x5), (6, .int x6), (7, .int x7)] [] m (k50 x4 x5 x6 x7 m)) (k75 : Int32 → Int32 → Int32 → Int32 → Int32 → Int32 → hM → Option (Int32 × hM)) (hk75 : ∀ (x4 : Int32) (x5 : Int32) (x6 : Int32) (x7 : Int32) (x8 : Int32) (x9 : Int32) (m : hM), Rf vI G X 75 [(0, hA G 34), (4, .int x4), (5, .int x5), (6, .int x6), (7, .int x7), (8, .int x8), (9, .int x9)] [] m (k75 x4 x5 x6 x7 x8 x9 m)) (x4 : Int32) (x5 : Int32) (x6 : Int32) (x7 : Int32) (x8 : Int32) (x9 : Int32) (m : hM) : Rf vI G X 104 [(0, hA G 34), (4, .int x4), (5, .int x5), (6, .int x6), (7, .int x7), (8, .int x8), (9, .int x9)] [] m (f_X9_cheapest_104 fu k50 k75 x4 x5 x6 x7 x8 x9 m) := by
  unfold f_X9_cheapest_104
  refine rf_iinc2 C (n := 107) (q := 6) (fun y32 => [(9, .int y32), (0, hA G 34), (4, .int x4), (5, .int x5), (6, .int x6), (7, .int x7), (8, .int x8)]) dX9_cheapest_104 rfl rfl (by decide) (by decide) (fun _ => rfl) (fun y32 => ?_)
  refine rf_goto C (n := 75) dX9_cheapest_107 (by decide) ?_
  exact rf_lv _ [1, 2, 3, 4, 5, 6, 0] rfl (hk75 _ _ _ _ _ _ _)
noncomputable def s_X9_cheapest_75 (fu : Nat) (k50 : Int32 → Int32 → Int32 → Int32 → hM → Option (Int32 × hM)) (ih : Int32 → Int32 → Int32 → Int32 → Int32 → Int32 → hM → Option (Int32 × hM)) (x4 : Int32) (x5 : Int32) (x6 : Int32) (x7 : Int32) (x8 : Int32) (x9 : Int32) (m : hM) : Option (Int32 × hM) :=
  if x6 ≤ x9 then (
f_X9_cheapest_110 fu k50 x4 x5 x6 x7 m) else (
if hIn x9 156 then (
if ¬ ((x8 >>> ((gI m 36 (Int32.toNatClampNeg x9)) &&& 31)) &&& 1) = 1 then (
f_X9_cheapest_104 fu k50 ih x4 x5 x6 x7 x8 x9 m) else (
hBd (f_X9_workForPay fu x9 m) fun _ m33 =>
f_X9_cheapest_104 fu k50 ih x4 x5 x6 x7 x8 x9 m33)) else none)
noncomputable def f_X9_cheapest_75 (fu : Nat) (k50 : Int32 → Int32 → Int32 → Int32 → hM → Option (Int32 × hM)) (n : Nat) : Int32 → Int32 → Int32 → Int32 → Int32 → Int32 → hM → Option (Int32 × hM) :=
  Nat.rec (motive := fun _ => Int32 → Int32 → Int32 → Int32 → Int32 → Int32 → hM → Option (Int32 × hM)) (fun _ _ _ _ _ _ _ => none) (fun _ ih => s_X9_cheapest_75 fu k50 ih) n
theorem f_X9_cheapest_75_s (fu : Nat) (k50 : Int32 → Int32 → Int32 → Int32 → hM → Option (Int32 × hM)) (n : Nat) (x4 : Int32) (x5 : Int32) (x6 : Int32) (x7 : Int32) (x8 : Int32) (x9 : Int32) (m : hM) : f_X9_cheapest_75 fu k50 (n + 1) x4 x5 x6 x7 x8 x9 m = s_X9_cheapest_75 fu k50 (f_X9_cheapest_75 fu k50 n) x4 x5 x6 x7 x8 x9 m := rfl
set_option maxRecDepth 100000 in
set_option maxHeartbeats 4000000 in
theorem r_X9_cheapest_75 {G : hG} {X : hX} (C : Cx G X 4 cX9_cheapest 10 RX9 (some .int)) (K : Cr G X) (fu : Nat) (k50 : Int32 → Int32 → Int32 → Int32 → hM → Option (Int32 × hM)) (hk50 : ∀ (x4 : Int32) (x5 : Int32) (x6 : Int32) (x7 : Int32) (m : hM), Rf vI G X 50 [(0, hA G 34), (4, .int x4), (5, .int x5), (6, .int x6), (7, .int x7)] [] m (k50 x4 x5 x6 x7 m)) (n : Nat) : ∀ (x4 : Int32) (x5 : Int32) (x6 : Int32) (x7 : Int32) (x8 : Int32) (x9 : Int32) (m : hM), Rf vI G X 75 [(0, hA G 34), (4, .int x4), (5, .int x5), (6, .int x6), (7, .int x7), (8, .int x8), (9, .int x9)] [] m (f_X9_cheapest_75 fu k50 n x4 x5 x6 x7 x8 x9 m) := by
  induction n with
  | zero => intros; exact rf_none
  | succ n ih =>
    intro x4 x5 x6 x7 x8 x9 m
    show Rf vI G X 75 [(0, hA G 34), (4, .int x4), (5, .int x5), (6, .int x6), (7, .int x7), (8, .int x8), (9, .int x9)] [] m (s_X9_cheapest_75 fu k50 (f_X9_cheapest_75 fu k50 n) x4 x5 x6 x7 x8 x9 m)
    unfold s_X9_cheapest_75
    refine rf_iload C (n := 77) (q := 6) dX9_cheapest_75 rfl rfl ?_
    refine rf_iload C (n := 79) (q := 3) dX9_cheapest_77 rfl rfl ?_
    refine rf_icmp_ge C (tgt := 110) (n := 82) dX9_cheapest_79 (by decide) rfl (fun h23 => ?_) (fun h23 => ?_)
    · exact rf_lv _ [0, 1, 2, 3, 4] rfl (r_X9_cheapest_110 C K fu _ hk50 _ _ _ _ _)
    · refine rf_iload C (n := 84) (q := 5) dX9_cheapest_82 rfl rfl ?_
      refine rf_aload_n C (n := 85) (q := 0) dX9_cheapest_84 rfl rfl rfl ?_
      refine rf_getS C (n := 88) fl_RX9_15 ly_34 rfl dX9_cheapest_85 rfl ?_
      refine rf_iload C (n := 90) (q := 6) dX9_cheapest_88 rfl rfl ?_
      refine rf_guard (fun h30 => ?_)
      refine rf_iald C (n := 91) ly_36 h30 rfl dX9_cheapest_90 rfl ?_
      refine rf_ishr C (n := 92) dX9_cheapest_91 rfl ?_
      refine rf_iconst C (n := 93) (v := 1) dX9_cheapest_92 rfl (by decide) ?_
      refine rf_iand C (n := 94) dX9_cheapest_93 rfl ?_
      refine rf_iconst C (n := 95) (v := 1) dX9_cheapest_94 rfl (by decide) ?_
      refine rf_icmp_ne C (tgt := 104) (n := 98) dX9_cheapest_95 (by decide) rfl (fun h31 => ?_) (fun h31 => ?_)
      · exact rf_lv _ [0, 1, 2, 3, 4, 5, 6] rfl (r_X9_cheapest_104 C K fu _ hk50 _ ih _ _ _ _ _ _ _)
      · refine rf_aload_n C (n := 99) (q := 0) dX9_cheapest_98 rfl rfl rfl ?_
        refine rf_iload C (n := 101) (q := 6) dX9_cheapest_99 rfl rfl ?_
        refine rf_callVv C (n := 104) (c_X9_workForPay G fu _ _) mw_RX9_80 ly_34 rfl ⟨by decide, by decide⟩ rfl (Nat.le_of_ble_eq_true rfl) rfl dX9_cheapest_101 rfl (fun _ m33 => ?_)
        exact rf_lv _ [0, 1, 2, 3, 4, 5, 6] rfl (r_X9_cheapest_104 C K fu _ hk50 _ ih _ _ _ _ _ _ _)
noncomputable def s_X9_cheapest_50 (fu : Nat) (ih : Int32 → Int32 → Int32 → Int32 → hM → Option (Int32 × hM)) (x4 : Int32) (x5 : Int32) (x6 : Int32) (x7 : Int32) (m : hM) : Option (Int32 × hM) :=
  if x4 ≤ x7 then (
f_X9_cheapest_147 fu x6 m) else (
if hIn x7 2560 then (
hLet ((gI m 4 (Int32.toNatClampNeg x7)) &&& x5) fun y22 =>
f_X9_cheapest_75 fu ih fu x4 x5 x6 x7 y22 0 m) else none)
noncomputable def f_X9_cheapest_50 (fu : Nat) (n : Nat) : Int32 → Int32 → Int32 → Int32 → hM → Option (Int32 × hM) :=
  Nat.rec (motive := fun _ => Int32 → Int32 → Int32 → Int32 → hM → Option (Int32 × hM)) (fun _ _ _ _ _ => none) (fun _ ih => s_X9_cheapest_50 fu ih) n
theorem f_X9_cheapest_50_s (fu : Nat) (n : Nat) (x4 : Int32) (x5 : Int32) (x6 : Int32) (x7 : Int32) (m : hM) : f_X9_cheapest_50 fu (n + 1) x4 x5 x6 x7 m = s_X9_cheapest_50 fu (f_X9_cheapest_50 fu n) x4 x5 x6 x7 m := rfl
set_option maxRecDepth 100000 in
set_option maxHeartbeats 4000000 in
theorem r_X9_cheapest_50 {G : hG} {X : hX} (C : Cx G X 4 cX9_cheapest 10 RX9 (some .int)) (K : Cr G X) (fu : Nat) (n : Nat) : ∀ (x4 : Int32) (x5 : Int32) (x6 : Int32) (x7 : Int32) (m : hM), Rf vI G X 50 [(0, hA G 34), (4, .int x4), (5, .int x5), (6, .int x6), (7, .int x7)] [] m (f_X9_cheapest_50 fu n x4 x5 x6 x7 m) := by
  induction n with
  | zero => intros; exact rf_none
  | succ n ih =>
    intro x4 x5 x6 x7 m
    show Rf vI G X 50 [(0, hA G 34), (4, .int x4), (5, .int x5), (6, .int x6), (7, .int x7)] [] m (s_X9_cheapest_50 fu (f_X9_cheapest_50 fu n) x4 x5 x6 x7 m)
    unfold s_X9_cheapest_50
    refine rf_iload C (n := 52) (q := 4) dX9_cheapest_50 rfl rfl ?_
    refine rf_iload C (n := 54) (q := 1) dX9_cheapest_52 rfl rfl ?_
    refine rf_icmp_ge C (tgt := 147) (n := 57) dX9_cheapest_54 (by decide) rfl (fun h10 => ?_) (fun h10 => ?_)
    · exact rf_lv _ [0, 3] rfl (r_X9_cheapest_147 C K fu _ _)
    · refine rf_aload_n C (n := 58) (q := 0) dX9_cheapest_57 rfl rfl rfl ?_
      refine rf_getS C (n := 61) fl_RX9_37 ly_34 rfl dX9_cheapest_58 rfl ?_
      refine rf_getS C (n := 64) fl_RX9_67 ly_1 rfl dX9_cheapest_61 rfl ?_
      refine rf_iload C (n := 66) (q := 4) dX9_cheapest_64 rfl rfl ?_
      refine rf_guard (fun h21 => ?_)
      refine rf_iald C (n := 67) ly_4 h21 rfl dX9_cheapest_66 rfl ?_
      refine rf_iload C (n := 69) (q := 2) dX9_cheapest_67 rfl rfl ?_
      refine rf_iand C (n := 70) dX9_cheapest_69 rfl ?_
      refine rf_letI (fun y22 => ?_)
      refine rf_istore C (n := 72) [(8, .int y22), (0, hA G 34), (4, .int x4), (5, .int x5), (6, .int x6), (7, .int x7)] dX9_cheapest_70 rfl (by decide) rfl ?_
      refine rf_iconst C (n := 73) (v := 0) dX9_cheapest_72 rfl (by decide) ?_
      refine rf_istore C (n := 75) [(9, .int 0), (8, .int y22), (0, hA G 34), (4, .int x4), (5, .int x5), (6, .int x6), (7, .int x7)] dX9_cheapest_73 rfl (by decide) rfl ?_
      exact rf_lv _ [2, 3, 4, 5, 6, 1, 0] rfl (r_X9_cheapest_75 C K fu _ ih fu _ _ _ _ _ _ _)
noncomputable def f_X9_cheapest (fu : Nat) (x2 : Int32) (x3 : Int32) (x4 : Int32) (m : hM) : Option (Int32 × hM) :=
  if hIn x2 8 then (
hBd (f_X0_officesWith fu (gI m 19 (Int32.toNatClampNeg x2)) m) fun y2 m3 =>
hBd (f_J9_min_7cf53 fu (gI m3 34 4) 31 m3) fun y4 m5 =>
hBd (f_J7_fill_53178 fu 39 3255 1000000 m5) fun _ m6 =>
if hIn x2 8 then (
if hIn (gI m6 21 (Int32.toNatClampNeg x2)) 3255 then (
hLet (sI m6 39 (Int32.toNatClampNeg (gI m6 21 (Int32.toNatClampNeg x2))) 0) fun m9 =>
f_X9_cheapest_50 fu fu x4 y2 y4 x3 m9) else none) else none) else none
set_option maxRecDepth 100000 in
set_option maxHeartbeats 4000000 in
theorem c_X9_cheapest (G : hG) (fu : Nat) (x2 : Int32) (x3 : Int32) (x4 : Int32) (m : hM) : Mt vI G 4 yX9_cheapest cX9_cheapest 10 (some .int) [hA G 34, hA G 18, .int x2, .int x3, .int x4] m (f_X9_cheapest fu x2 x3 x4 m) := by
  refine mt_of (by decide +kernel) (Nat.le_of_ble_eq_true rfl) (fun X C K => ?_)
  have C : Cx G X 4 cX9_cheapest 10 RX9 (some .int) := C
  show Rf vI G X 0 [(0, hA G 34), (1, hA G 18), (2, .int x2), (3, .int x3), (4, .int x4)] [] m _
  unfold f_X9_cheapest
  refine rf_aload_n C (n := 1) (q := 0) dX9_cheapest_0 rfl rfl rfl ?_
  refine rf_getS C (n := 4) fl_RX9_37 ly_34 rfl dX9_cheapest_1 rfl ?_
  refine rf_aload_n C (n := 5) (q := 1) dX9_cheapest_4 rfl rfl rfl ?_
  refine rf_getS C (n := 8) fl_RX9_48 ly_18 rfl dX9_cheapest_5 rfl ?_
  refine rf_iload_n C (n := 9) (q := 2) dX9_cheapest_8 rfl rfl rfl ?_
  refine rf_guard (fun h1 => ?_)
  refine rf_iald C (n := 10) ly_19 h1 rfl dX9_cheapest_9 rfl ?_
  refine rf_callVi C (n := 13) (c_X0_officesWith G fu _ _) mw_RX9_53 ly_1 rfl ⟨by decide, by decide⟩ rfl (Nat.le_of_ble_eq_true rfl) rfl dX9_cheapest_10 rfl (fun y2 m3 => ?_)
  refine rf_istore C (n := 15) [(5, .int y2), (0, hA G 34), (1, hA G 18), (2, .int x2), (3, .int x3), (4, .int x4)] dX9_cheapest_13 rfl (by decide) rfl ?_
  refine rf_aload_n C (n := 16) (q := 1) dX9_cheapest_15 rfl rfl rfl ?_
  refine rf_getI C (n := 19) fl_RX9_21 ly_34 rfl dX9_cheapest_16 rfl ?_
  refine rf_bipush C (n := 21) (v := 31) dX9_cheapest_19 rfl (by decide) ?_
  refine rf_callSi C (n := 24) (c_J9_min_7cf53 G fu _ _ _) sw_RX9_74 ⟨by decide, by decide⟩ rfl (Nat.le_of_ble_eq_true rfl) rfl dX9_cheapest_21 rfl (fun y4 m5 => ?_)
  refine rf_istore C (n := 26) [(6, .int y4), (5, .int y2), (0, hA G 34), (1, hA G 18), (2, .int x2), (3, .int x3), (4, .int x4)] dX9_cheapest_24 rfl (by decide) rfl ?_
  refine rf_aload_n C (n := 27) (q := 2) dX9_cheapest_26 rfl rfl rfl ?_
  refine rf_getS C (n := 30) fl_RX9_31 ly_34 rfl dX9_cheapest_27 rfl ?_
  refine rf_ldc C (n := 32) dX9_cheapest_30 rfl kc_RX9_57 ?_
  refine rf_callSv C (n := 35) (c_J7_fill_53178 G fu _ _ _ _) sw_RX9_58 ⟨by decide, by decide⟩ rfl (Nat.le_of_ble_eq_true rfl) rfl dX9_cheapest_32 rfl (fun _ m6 => ?_)
  refine rf_aload_n C (n := 36) (q := 2) dX9_cheapest_35 rfl rfl rfl ?_
  refine rf_getS C (n := 39) fl_RX9_31 ly_34 rfl dX9_cheapest_36 rfl ?_
  refine rf_aload_n C (n := 40) (q := 3) dX9_cheapest_39 rfl rfl rfl ?_
  refine rf_getS C (n := 43) fl_RX9_64 ly_18 rfl dX9_cheapest_40 rfl ?_
  refine rf_iload_n C (n := 44) (q := 4) dX9_cheapest_43 rfl rfl rfl ?_
  refine rf_guard (fun h7 => ?_)
  refine rf_iald C (n := 45) ly_21 h7 rfl dX9_cheapest_44 rfl ?_
  refine rf_iconst C (n := 46) (v := 0) dX9_cheapest_45 rfl (by decide) ?_
  refine rf_guard (fun h8 => ?_)
  refine rf_iast C (n := 47) ly_39 h8 rfl dX9_cheapest_46 rfl ?_
  refine rf_letM (fun m9 => ?_)
  refine rf_iload_n C (n := 48) (q := 5) dX9_cheapest_47 rfl rfl rfl ?_
  refine rf_istore C (n := 50) [(7, .int x3), (6, .int y4), (5, .int y2), (0, hA G 34), (1, hA G 18), (2, .int x2), (3, .int x3), (4, .int x4)] dX9_cheapest_48 rfl (by decide) rfl ?_
  exact rf_lv _ [3, 7, 2, 1, 0] rfl (r_X9_cheapest_50 C K fu fu _ _ _ _ _)
noncomputable def f_X9_tellBest_57 (fu : Nat) (k22 : Int32 → Int32 → hM → Option (Unit × hM)) (x2 : Int32) (x3 : Int32) (x4 : Int32) (m : hM) : Option (Unit × hM) :=
  if hIn x4 156 then (
hBd (f_X1_tell fu (Int32.toInt64 (gI m 36 (Int32.toNatClampNeg x4))) m) fun _ m9 =>
hLet (x3 + 1) fun y10 =>
k22 x2 y10 m9) else none
set_option maxRecDepth 100000 in
set_option maxHeartbeats 4000000 in
theorem r_X9_tellBest_57 {G : hG} {X : hX} (C : Cx G X 2 cX9_tellBest 6 RX9 none) (K : Cr G X) (fu : Nat) (k22 : Int32 → Int32 → hM → Option (Unit × hM)) (hk22 : ∀ (x2 : Int32) (x3 : Int32) (m : hM), Rf vU G X 22 [(0, hA G 34), (1, hA G 66), (2, .int x2), (3, .int x3)] [] m (k22 x2 x3 m)) (x2 : Int32) (x3 : Int32) (x4 : Int32) (m : hM) : Rf vU G X 57 [(0, hA G 34), (1, hA G 66), (2, .int x2), (3, .int x3), (4, .int x4)] [] m (f_X9_tellBest_57 fu k22 x2 x3 x4 m) := by
  unfold f_X9_tellBest_57
  refine rf_aload_n C (n := 58) (q := 1) dX9_tellBest_57 rfl rfl rfl ?_
  refine rf_aload_n C (n := 59) (q := 0) dX9_tellBest_58 rfl rfl rfl ?_
  refine rf_getS C (n := 62) fl_RX9_15 ly_34 rfl dX9_tellBest_59 rfl ?_
  refine rf_iload C (n := 64) (q := 4) dX9_tellBest_62 rfl rfl ?_
  refine rf_guard (fun h8 => ?_)
  refine rf_iald C (n := 65) ly_36 h8 rfl dX9_tellBest_64 rfl ?_
  refine rf_i2l C (n := 66) dX9_tellBest_65 rfl ?_
  refine rf_callVv C (n := 69) (c_X1_tell G fu _ _) mw_RX9_106 ly_66 rfl ⟨by decide, by decide⟩ rfl (Nat.le_of_ble_eq_true rfl) rfl dX9_tellBest_66 rfl (fun _ m9 => ?_)
  refine rf_iinc2 C (n := 72) (q := 3) (fun y10 => [(3, .int y10), (0, hA G 34), (1, hA G 66), (2, .int x2), (4, .int x4)]) dX9_tellBest_69 rfl rfl (by decide) (by decide) (fun _ => rfl) (fun y10 => ?_)
  refine rf_goto C (n := 22) dX9_tellBest_72 (by decide) ?_
  exact rf_lv _ [1, 2, 3, 0] rfl (hk22 _ _ _)
noncomputable def s_X9_tellBest_36 (fu : Nat) (k22 : Int32 → Int32 → hM → Option (Unit × hM)) (ih : Int32 → Int32 → Int32 → Int32 → hM → Option (Unit × hM)) (x2 : Int32) (x3 : Int32) (x4 : Int32) (x5 : Int32) (m : hM) : Option (Unit × hM) :=
  if x5 ≤ x3 then (
f_X9_tellBest_57 fu k22 x2 x3 x4 m) else (
if hIn x4 156 then (
hLet (gI m 35 (Int32.toNatClampNeg x4)) fun y12 =>
hLet (x5 + (-1)) fun y13 =>
ih x2 x3 y12 y13 m) else none)
noncomputable def f_X9_tellBest_36 (fu : Nat) (k22 : Int32 → Int32 → hM → Option (Unit × hM)) (n : Nat) : Int32 → Int32 → Int32 → Int32 → hM → Option (Unit × hM) :=
  Nat.rec (motive := fun _ => Int32 → Int32 → Int32 → Int32 → hM → Option (Unit × hM)) (fun _ _ _ _ _ => none) (fun _ ih => s_X9_tellBest_36 fu k22 ih) n
theorem f_X9_tellBest_36_s (fu : Nat) (k22 : Int32 → Int32 → hM → Option (Unit × hM)) (n : Nat) (x2 : Int32) (x3 : Int32) (x4 : Int32) (x5 : Int32) (m : hM) : f_X9_tellBest_36 fu k22 (n + 1) x2 x3 x4 x5 m = s_X9_tellBest_36 fu k22 (f_X9_tellBest_36 fu k22 n) x2 x3 x4 x5 m := rfl
set_option maxRecDepth 100000 in
set_option maxHeartbeats 4000000 in
theorem r_X9_tellBest_36 {G : hG} {X : hX} (C : Cx G X 2 cX9_tellBest 6 RX9 none) (K : Cr G X) (fu : Nat) (k22 : Int32 → Int32 → hM → Option (Unit × hM)) (hk22 : ∀ (x2 : Int32) (x3 : Int32) (m : hM), Rf vU G X 22 [(0, hA G 34), (1, hA G 66), (2, .int x2), (3, .int x3)] [] m (k22 x2 x3 m)) (n : Nat) : ∀ (x2 : Int32) (x3 : Int32) (x4 : Int32) (x5 : Int32) (m : hM), Rf vU G X 36 [(0, hA G 34), (1, hA G 66), (2, .int x2), (3, .int x3), (4, .int x4), (5, .int x5)] [] m (f_X9_tellBest_36 fu k22 n x2 x3 x4 x5 m) := by
  induction n with
  | zero => intros; exact rf_none
  | succ n ih =>
    intro x2 x3 x4 x5 m
    show Rf vU G X 36 [(0, hA G 34), (1, hA G 66), (2, .int x2), (3, .int x3), (4, .int x4), (5, .int x5)] [] m (s_X9_tellBest_36 fu k22 (f_X9_tellBest_36 fu k22 n) x2 x3 x4 x5 m)
    unfold s_X9_tellBest_36
    refine rf_iload C (n := 38) (q := 5) dX9_tellBest_36 rfl rfl ?_
    refine rf_iload_n C (n := 39) (q := 3) dX9_tellBest_38 rfl rfl rfl ?_
    refine rf_icmp_le C (tgt := 57) (n := 42) dX9_tellBest_39 (by decide) rfl (fun h7 => ?_) (fun h7 => ?_)
    · exact rf_lv _ [0, 1, 2, 3, 4] rfl (r_X9_tellBest_57 C K fu _ hk22 _ _ _ _)
    · refine rf_aload_n C (n := 43) (q := 0) dX9_tellBest_42 rfl rfl rfl ?_
      refine rf_getS C (n := 46) fl_RX9_9 ly_34 rfl dX9_tellBest_43 rfl ?_
      refine rf_iload C (n := 48) (q := 4) dX9_tellBest_46 rfl rfl ?_
      refine rf_guard (fun h11 => ?_)
      refine rf_iald C (n := 49) ly_35 h11 rfl dX9_tellBest_48 rfl ?_
      refine rf_letI (fun y12 => ?_)
      refine rf_istore C (n := 51) [(4, .int y12), (0, hA G 34), (1, hA G 66), (2, .int x2), (3, .int x3), (5, .int x5)] dX9_tellBest_49 rfl (by decide) rfl ?_
      refine rf_iinc2 C (n := 54) (q := 5) (fun y13 => [(5, .int y13), (4, .int y12), (0, hA G 34), (1, hA G 66), (2, .int x2), (3, .int x3)]) dX9_tellBest_51 rfl rfl (by decide) (by decide) (fun _ => rfl) (fun y13 => ?_)
      refine rf_goto C (n := 36) dX9_tellBest_54 (by decide) ?_
      exact rf_lv _ [2, 3, 4, 5, 1, 0] rfl (ih _ _ _ _ _)
noncomputable def s_X9_tellBest_22 (fu : Nat) (ih : Int32 → Int32 → hM → Option (Unit × hM)) (x2 : Int32) (x3 : Int32) (m : hM) : Option (Unit × hM) :=
  if x2 < x3 then (
some ((), m)) else (
hLet (gI m 34 5) fun y6 =>
f_X9_tellBest_36 fu ih fu x2 x3 y6 x2 m)
noncomputable def f_X9_tellBest_22 (fu : Nat) (n : Nat) : Int32 → Int32 → hM → Option (Unit × hM) :=
  Nat.rec (motive := fun _ => Int32 → Int32 → hM → Option (Unit × hM)) (fun _ _ _ => none) (fun _ ih => s_X9_tellBest_22 fu ih) n
theorem f_X9_tellBest_22_s (fu : Nat) (n : Nat) (x2 : Int32) (x3 : Int32) (m : hM) : f_X9_tellBest_22 fu (n + 1) x2 x3 m = s_X9_tellBest_22 fu (f_X9_tellBest_22 fu n) x2 x3 m := rfl
set_option maxRecDepth 100000 in
set_option maxHeartbeats 4000000 in
theorem r_X9_tellBest_22 {G : hG} {X : hX} (C : Cx G X 2 cX9_tellBest 6 RX9 none) (K : Cr G X) (fu : Nat) (n : Nat) : ∀ (x2 : Int32) (x3 : Int32) (m : hM), Rf vU G X 22 [(0, hA G 34), (1, hA G 66), (2, .int x2), (3, .int x3)] [] m (f_X9_tellBest_22 fu n x2 x3 m) := by
  induction n with
  | zero => intros; exact rf_none
  | succ n ih =>
    intro x2 x3 m
    show Rf vU G X 22 [(0, hA G 34), (1, hA G 66), (2, .int x2), (3, .int x3)] [] m (s_X9_tellBest_22 fu (f_X9_tellBest_22 fu n) x2 x3 m)
    unfold s_X9_tellBest_22
    refine rf_iload_n C (n := 23) (q := 3) dX9_tellBest_22 rfl rfl rfl ?_
    refine rf_iload_n C (n := 24) (q := 2) dX9_tellBest_23 rfl rfl rfl ?_
    refine rf_icmp_gt C (tgt := 75) (n := 27) dX9_tellBest_24 (by decide) rfl (fun h5 => ?_) (fun h5 => ?_)
    · exact rf_vret C K dX9_tellBest_75
    · refine rf_aload_n C (n := 28) (q := 0) dX9_tellBest_27 rfl rfl rfl ?_
      refine rf_getI C (n := 31) fl_RX9_25 ly_34 rfl dX9_tellBest_28 rfl ?_
      refine rf_letI (fun y6 => ?_)
      refine rf_istore C (n := 33) [(4, .int y6), (0, hA G 34), (1, hA G 66), (2, .int x2), (3, .int x3)] dX9_tellBest_31 rfl (by decide) rfl ?_
      refine rf_iload_n C (n := 34) (q := 3) dX9_tellBest_33 rfl rfl rfl ?_
      refine rf_istore C (n := 36) [(5, .int x2), (4, .int y6), (0, hA G 34), (1, hA G 66), (2, .int x2), (3, .int x3)] dX9_tellBest_34 rfl (by decide) rfl ?_
      exact rf_lv _ [2, 3, 4, 5, 1, 0] rfl (r_X9_tellBest_36 C K fu _ ih fu _ _ _ _ _)
noncomputable def f_X9_tellBest (fu : Nat) (m : hM) : Option (Unit × hM) :=
  if hIn (gI m 34 5) 156 then (
hLet (gI m 37 (Int32.toNatClampNeg (gI m 34 5))) fun y2 =>
hBd (f_X1_clear fu m) fun _ m3 =>
hBd (f_X1_tell fu (Int32.toInt64 y2) m3) fun _ m4 =>
f_X9_tellBest_22 fu fu y2 1 m4) else none
set_option maxRecDepth 100000 in
set_option maxHeartbeats 4000000 in
theorem c_X9_tellBest (G : hG) (fu : Nat) (m : hM) : Mt vU G 2 yX9_tellBest cX9_tellBest 6 none [hA G 34, hA G 66] m (f_X9_tellBest fu m) := by
  refine mt_of (by decide +kernel) (Nat.le_of_ble_eq_true rfl) (fun X C K => ?_)
  have C : Cx G X 2 cX9_tellBest 6 RX9 none := C
  show Rf vU G X 0 [(0, hA G 34), (1, hA G 66)] [] m _
  unfold f_X9_tellBest
  refine rf_aload_n C (n := 1) (q := 0) dX9_tellBest_0 rfl rfl rfl ?_
  refine rf_getS C (n := 4) fl_RX9_18 ly_34 rfl dX9_tellBest_1 rfl ?_
  refine rf_aload_n C (n := 5) (q := 0) dX9_tellBest_4 rfl rfl rfl ?_
  refine rf_getI C (n := 8) fl_RX9_25 ly_34 rfl dX9_tellBest_5 rfl ?_
  refine rf_guard (fun h1 => ?_)
  refine rf_iald C (n := 9) ly_37 h1 rfl dX9_tellBest_8 rfl ?_
  refine rf_letI (fun y2 => ?_)
  refine rf_istore_n C (n := 10) [(2, .int y2), (0, hA G 34), (1, hA G 66)] dX9_tellBest_9 rfl rfl (by decide) rfl ?_
  refine rf_aload_n C (n := 11) (q := 2) dX9_tellBest_10 rfl rfl rfl ?_
  refine rf_callVv C (n := 14) (c_X1_clear G fu _) mw_RX9_101 ly_66 rfl ⟨by decide, by decide⟩ rfl (Nat.le_of_ble_eq_true rfl) rfl dX9_tellBest_11 rfl (fun _ m3 => ?_)
  refine rf_aload_n C (n := 15) (q := 2) dX9_tellBest_14 rfl rfl rfl ?_
  refine rf_iload_n C (n := 16) (q := 0) dX9_tellBest_15 rfl rfl rfl ?_
  refine rf_i2l C (n := 17) dX9_tellBest_16 rfl ?_
  refine rf_callVv C (n := 20) (c_X1_tell G fu _ _) mw_RX9_106 ly_66 rfl ⟨by decide, by decide⟩ rfl (Nat.le_of_ble_eq_true rfl) rfl dX9_tellBest_17 rfl (fun _ m4 => ?_)
  refine rf_iconst C (n := 21) (v := 1) dX9_tellBest_20 rfl (by decide) ?_
  refine rf_istore_n C (n := 22) [(3, .int 1), (2, .int y2), (0, hA G 34), (1, hA G 66)] dX9_tellBest_21 rfl rfl (by decide) rfl ?_
  exact rf_lv _ [2, 3, 1, 0] rfl (r_X9_tellBest_22 C K fu fu _ _ _)
noncomputable def f_X10_isStaff (fu : Nat) (x0 : Int32) (m : hM) : Option (Int32 × hM) :=
  if x0 < 64 then (
some (0, m)) else (
if 640 ≤ x0 then (
some (0, m)) else (
if (x0 &&& 63) = 0 then (
some (0, m)) else (
some (1, m))))
set_option maxRecDepth 100000 in
set_option maxHeartbeats 4000000 in
theorem c_X10_isStaff (G : hG) (fu : Nat) (x0 : Int32) (m : hM) : Mt vI G 1 yX10_isStaff cX10_isStaff 1 (some .boolean) [.int x0] m (f_X10_isStaff fu x0 m) := by
  refine mt_of (by decide +kernel) (Nat.le_of_ble_eq_true rfl) (fun X C K => ?_)
  have C : Cx G X 1 cX10_isStaff 1 RX10 (some .boolean) := C
  show Rf vI G X 0 [(0, .int x0)] [] m _
  unfold f_X10_isStaff
  refine rf_iload_n C (n := 1) (q := 0) dX10_isStaff_0 rfl rfl rfl ?_
  refine rf_bipush C (n := 3) (v := 64) dX10_isStaff_1 rfl (by decide) ?_
  refine rf_icmp_lt C (tgt := 24) (n := 6) dX10_isStaff_3 (by decide) rfl (fun h1 => ?_) (fun h1 => ?_)
  · refine rf_iconst C (n := 25) (v := 0) dX10_isStaff_24 rfl (by decide) ?_
    exact rf_zret C K (by decide) dX10_isStaff_25
  · refine rf_iload_n C (n := 7) (q := 0) dX10_isStaff_6 rfl rfl rfl ?_
    refine rf_sipush C (n := 10) (v := 640) dX10_isStaff_7 rfl (by decide) ?_
    refine rf_icmp_ge C (tgt := 24) (n := 13) dX10_isStaff_10 (by decide) rfl (fun h2 => ?_) (fun h2 => ?_)
    · refine rf_iconst C (n := 25) (v := 0) dX10_isStaff_24 rfl (by decide) ?_
      exact rf_zret C K (by decide) dX10_isStaff_25
    · refine rf_iload_n C (n := 14) (q := 0) dX10_isStaff_13 rfl rfl rfl ?_
      refine rf_bipush C (n := 16) (v := 63) dX10_isStaff_14 rfl (by decide) ?_
      refine rf_iand C (n := 17) dX10_isStaff_16 rfl ?_
      refine rf_if_eq C (tgt := 24) (n := 20) dX10_isStaff_17 (by decide) rfl (fun h3 => ?_) (fun h3 => ?_)
      · refine rf_iconst C (n := 25) (v := 0) dX10_isStaff_24 rfl (by decide) ?_
        exact rf_zret C K (by decide) dX10_isStaff_25
      · refine rf_iconst C (n := 21) (v := 1) dX10_isStaff_20 rfl (by decide) ?_
        refine rf_goto C (n := 25) dX10_isStaff_21 (by decide) ?_
        exact rf_zret C K (by decide) dX10_isStaff_25
noncomputable def f_X10_office (fu : Nat) (x1 : Int32) (x2 : Int32) (x3 : Int32) (x4 : Int32) (m : hM) : Option (Int32 × hM) :=
  if 6 ≤ (gI m 1 4) then (
some ((-1), m)) else (
if x1 < 0 then (
some ((-1), m)) else (
if x1 < 576 then (
if x2 < 1 then (
some ((-1), m)) else (
if 16 < x2 then (
some ((-1), m)) else (
if x3 < 1 then (
some ((-1), m)) else (
if 99 < x3 then (
some ((-1), m)) else (
hBd (f_X10_isStaff fu x4 m) fun y8 m9 =>
if ¬ y8 = 0 then (
hLet (gI m9 1 4) fun y11 =>
if hIn y11 6 then (
hBd (f_X2_settle fu (6 + 2 * (Int32.toNatClampNeg y11)) x1 x2 x3 x4 m9) fun _ m13 =>
hLet (sI m13 1 4 (y11 + 1)) fun m14 =>
hBd (f_X0_refresh fu y11 0 2560 m14) fun _ m15 =>
some (y11, m15)) else none) else (
some ((-1), m9))))))) else (
some ((-1), m))))
set_option maxRecDepth 100000 in
set_option maxHeartbeats 4000000 in
theorem c_X10_office (G : hG) (fu : Nat) (x1 : Int32) (x2 : Int32) (x3 : Int32) (x4 : Int32) (m : hM) : Mt vI G 4 yX10_office cX10_office 6 (some .int) [hA G 0, .int x1, .int x2, .int x3, .int x4] m (f_X10_office fu x1 x2 x3 x4 m) := by
  refine mt_of (by decide +kernel) (Nat.le_of_ble_eq_true rfl) (fun X C K => ?_)
  have C : Cx G X 4 cX10_office 6 RX10 (some .int) := C
  show Rf vI G X 0 [(0, hA G 0), (1, .int x1), (2, .int x2), (3, .int x3), (4, .int x4)] [] m _
  unfold f_X10_office
  refine rf_aload_n C (n := 1) (q := 0) dX10_office_0 rfl rfl rfl ?_
  refine rf_getS C (n := 4) fl_RX10_12 ly_0 rfl dX10_office_1 rfl ?_
  refine rf_getI C (n := 7) fl_RX10_95 ly_1 rfl dX10_office_4 rfl ?_
  refine rf_bipush C (n := 9) (v := 6) dX10_office_7 rfl (by decide) ?_
  refine rf_icmp_ge C (tgt := 23) (n := 12) dX10_office_9 (by decide) rfl (fun h1 => ?_) (fun h1 => ?_)
  · refine rf_iconst C (n := 24) (v := (-1)) dX10_office_23 rfl (by decide) ?_
    exact rf_iret C K dX10_office_24
  · refine rf_iload_n C (n := 13) (q := 1) dX10_office_12 rfl rfl rfl ?_
    refine rf_if_lt C (tgt := 23) (n := 16) dX10_office_13 (by decide) rfl (fun h2 => ?_) (fun h2 => ?_)
    · refine rf_iconst C (n := 24) (v := (-1)) dX10_office_23 rfl (by decide) ?_
      exact rf_iret C K dX10_office_24
    · refine rf_iload_n C (n := 17) (q := 1) dX10_office_16 rfl rfl rfl ?_
      refine rf_sipush C (n := 20) (v := 576) dX10_office_17 rfl (by decide) ?_
      refine rf_icmp_lt C (tgt := 25) (n := 23) dX10_office_20 (by decide) rfl (fun h3 => ?_) (fun h3 => ?_)
      · refine rf_iload_n C (n := 26) (q := 2) dX10_office_25 rfl rfl rfl ?_
        refine rf_iconst C (n := 27) (v := 1) dX10_office_26 rfl (by decide) ?_
        refine rf_icmp_lt C (tgt := 55) (n := 30) dX10_office_27 (by decide) rfl (fun h4 => ?_) (fun h4 => ?_)
        · refine rf_iconst C (n := 56) (v := (-1)) dX10_office_55 rfl (by decide) ?_
          exact rf_iret C K dX10_office_56
        · refine rf_iload_n C (n := 31) (q := 2) dX10_office_30 rfl rfl rfl ?_
          refine rf_bipush C (n := 33) (v := 16) dX10_office_31 rfl (by decide) ?_
          refine rf_icmp_gt C (tgt := 55) (n := 36) dX10_office_33 (by decide) rfl (fun h5 => ?_) (fun h5 => ?_)
          · refine rf_iconst C (n := 56) (v := (-1)) dX10_office_55 rfl (by decide) ?_
            exact rf_iret C K dX10_office_56
          · refine rf_iload_n C (n := 37) (q := 3) dX10_office_36 rfl rfl rfl ?_
            refine rf_iconst C (n := 38) (v := 1) dX10_office_37 rfl (by decide) ?_
            refine rf_icmp_lt C (tgt := 55) (n := 41) dX10_office_38 (by decide) rfl (fun h6 => ?_) (fun h6 => ?_)
            · refine rf_iconst C (n := 56) (v := (-1)) dX10_office_55 rfl (by decide) ?_
              exact rf_iret C K dX10_office_56
            · refine rf_iload_n C (n := 42) (q := 3) dX10_office_41 rfl rfl rfl ?_
              refine rf_bipush C (n := 44) (v := 99) dX10_office_42 rfl (by decide) ?_
              refine rf_icmp_gt C (tgt := 55) (n := 47) dX10_office_44 (by decide) rfl (fun h7 => ?_) (fun h7 => ?_)
              · refine rf_iconst C (n := 56) (v := (-1)) dX10_office_55 rfl (by decide) ?_
                exact rf_iret C K dX10_office_56
              · refine rf_iload C (n := 49) (q := 4) dX10_office_47 rfl rfl ?_
                refine rf_callSi C (n := 52) (c_X10_isStaff G fu _ _) sw_RX10_98 ⟨by decide, by decide⟩ rfl (Nat.le_of_ble_eq_true rfl) rfl dX10_office_49 rfl (fun y8 m9 => ?_)
                refine rf_if_ne C (tgt := 57) (n := 55) dX10_office_52 (by decide) rfl (fun h10 => ?_) (fun h10 => ?_)
                · refine rf_aload_n C (n := 58) (q := 0) dX10_office_57 rfl rfl rfl ?_
                  refine rf_getS C (n := 61) fl_RX10_12 ly_0 rfl dX10_office_58 rfl ?_
                  refine rf_getI C (n := 64) fl_RX10_95 ly_1 rfl dX10_office_61 rfl ?_
                  refine rf_letI (fun y11 => ?_)
                  refine rf_istore C (n := 66) [(5, .int y11), (0, hA G 0), (1, .int x1), (2, .int x2), (3, .int x3), (4, .int x4)] dX10_office_64 rfl (by decide) rfl ?_
                  refine rf_aload_n C (n := 67) (q := 1) dX10_office_66 rfl rfl rfl ?_
                  refine rf_getS C (n := 70) fl_RX10_12 ly_0 rfl dX10_office_67 rfl ?_
                  refine rf_getS C (n := 73) fl_RX10_102 ly_1 rfl dX10_office_70 rfl ?_
                  refine rf_iload C (n := 75) (q := 0) dX10_office_73 rfl rfl ?_
                  refine rf_guard (fun h12 => ?_)
                  refine rf_aaldO C (n := 76) ly_2 h12 (of_r h12) dX10_office_75 rfl ?_
                  refine rf_iload_n C (n := 77) (q := 2) dX10_office_76 rfl rfl rfl ?_
                  refine rf_iload_n C (n := 78) (q := 3) dX10_office_77 rfl rfl rfl ?_
                  refine rf_iload_n C (n := 79) (q := 4) dX10_office_78 rfl rfl rfl ?_
                  refine rf_iload C (n := 81) (q := 5) dX10_office_79 rfl rfl ?_
                  refine rf_callVv C (n := 84) (c_X2_settle G fu _ _ _ _ _ _) mw_RX10_106 (pO_l (of_o h12)) rfl ⟨by decide, by decide⟩ rfl (Nat.le_of_ble_eq_true rfl) rfl dX10_office_81 rfl (fun _ m13 => ?_)
                  refine rf_aload_n C (n := 85) (q := 1) dX10_office_84 rfl rfl rfl ?_
                  refine rf_getS C (n := 88) fl_RX10_12 ly_0 rfl dX10_office_85 rfl ?_
                  refine rf_iload C (n := 90) (q := 0) dX10_office_88 rfl rfl ?_
                  refine rf_iconst C (n := 91) (v := 1) dX10_office_90 rfl (by decide) ?_
                  refine rf_iadd C (n := 92) dX10_office_91 rfl ?_
                  refine rf_putI C (n := 95) pl_RX10_95 ly_1 rfl ⟨rfl, rfl⟩ dX10_office_92 rfl ?_
                  refine rf_letM (fun m14 => ?_)
                  refine rf_aload_n C (n := 96) (q := 1) dX10_office_95 rfl rfl rfl ?_
                  refine rf_getS C (n := 99) fl_RX10_12 ly_0 rfl dX10_office_96 rfl ?_
                  refine rf_iload C (n := 101) (q := 0) dX10_office_99 rfl rfl ?_
                  refine rf_iconst C (n := 102) (v := 0) dX10_office_101 rfl (by decide) ?_
                  refine rf_sipush C (n := 105) (v := 2560) dX10_office_102 rfl (by decide) ?_
                  refine rf_callVv C (n := 108) (c_X0_refresh G fu _ _ _ _) mw_RX10_112 ly_1 rfl ⟨by decide, by decide⟩ rfl (Nat.le_of_ble_eq_true rfl) rfl dX10_office_105 rfl (fun _ m15 => ?_)
                  refine rf_iload C (n := 110) (q := 0) dX10_office_108 rfl rfl ?_
                  exact rf_iret C K dX10_office_110
                · refine rf_iconst C (n := 56) (v := (-1)) dX10_office_55 rfl (by decide) ?_
                  exact rf_iret C K dX10_office_56
      · refine rf_iconst C (n := 24) (v := (-1)) dX10_office_23 rfl (by decide) ?_
        exact rf_iret C K dX10_office_24
noncomputable def f_X10_isHour (fu : Nat) (x0 : Int32) (m : hM) : Option (Int32 × hM) :=
  if x0 < 0 then (
some (0, m)) else (
if 2399 < x0 then (
some (0, m)) else (
some (1, m)))
set_option maxRecDepth 100000 in
set_option maxHeartbeats 4000000 in
theorem c_X10_isHour (G : hG) (fu : Nat) (x0 : Int32) (m : hM) : Mt vI G 1 yX10_isHour cX10_isHour 1 (some .boolean) [.int x0] m (f_X10_isHour fu x0 m) := by
  refine mt_of (by decide +kernel) (Nat.le_of_ble_eq_true rfl) (fun X C K => ?_)
  have C : Cx G X 1 cX10_isHour 1 RX10 (some .boolean) := C
  show Rf vI G X 0 [(0, .int x0)] [] m _
  unfold f_X10_isHour
  refine rf_iload_n C (n := 1) (q := 0) dX10_isHour_0 rfl rfl rfl ?_
  refine rf_if_lt C (tgt := 15) (n := 4) dX10_isHour_1 (by decide) rfl (fun h1 => ?_) (fun h1 => ?_)
  · refine rf_iconst C (n := 16) (v := 0) dX10_isHour_15 rfl (by decide) ?_
    exact rf_zret C K (by decide) dX10_isHour_16
  · refine rf_iload_n C (n := 5) (q := 0) dX10_isHour_4 rfl rfl rfl ?_
    refine rf_sipush C (n := 8) (v := 2399) dX10_isHour_5 rfl (by decide) ?_
    refine rf_icmp_gt C (tgt := 15) (n := 11) dX10_isHour_8 (by decide) rfl (fun h2 => ?_) (fun h2 => ?_)
    · refine rf_iconst C (n := 16) (v := 0) dX10_isHour_15 rfl (by decide) ?_
      exact rf_zret C K (by decide) dX10_isHour_16
    · refine rf_iconst C (n := 12) (v := 1) dX10_isHour_11 rfl (by decide) ?_
      refine rf_goto C (n := 16) dX10_isHour_12 (by decide) ?_
      exact rf_zret C K (by decide) dX10_isHour_16
noncomputable def f_X10_clock (fu : Nat) (x1 : Int32) (x2 : Int32) (x3 : Int32) (m : hM) : Option (Int32 × hM) :=
  hBd (f_X0_has fu x1 m) fun y1 m2 =>
if y1 = 0 then (
some (0, m2)) else (
hBd (f_X10_isHour fu x2 m2) fun y4 m5 =>
if y4 = 0 then (
some (0, m5)) else (
if x3 < (-1) then (
some (0, m5)) else (
if x3 ≤ 1 then (
if hIn x1 6 then (
hLet (sI m5 (6 + 2 * (Int32.toNatClampNeg x1)) 6 x2) fun m10 =>
if hIn x1 6 then (
hLet (sI m10 (6 + 2 * (Int32.toNatClampNeg x1)) 7 x3) fun m12 =>
hBd (f_X0_refresh fu x1 0 2560 m12) fun _ m13 =>
some (1, m13)) else none) else none) else (
some (0, m5)))))
set_option maxRecDepth 100000 in
set_option maxHeartbeats 4000000 in
theorem c_X10_clock (G : hG) (fu : Nat) (x1 : Int32) (x2 : Int32) (x3 : Int32) (m : hM) : Mt vI G 4 yX10_clock cX10_clock 4 (some .boolean) [hA G 0, .int x1, .int x2, .int x3] m (f_X10_clock fu x1 x2 x3 m) := by
  refine mt_of (by decide +kernel) (Nat.le_of_ble_eq_true rfl) (fun X C K => ?_)
  have C : Cx G X 4 cX10_clock 4 RX10 (some .boolean) := C
  show Rf vI G X 0 [(0, hA G 0), (1, .int x1), (2, .int x2), (3, .int x3)] [] m _
  unfold f_X10_clock
  refine rf_aload_n C (n := 1) (q := 0) dX10_clock_0 rfl rfl rfl ?_
  refine rf_getS C (n := 4) fl_RX10_12 ly_0 rfl dX10_clock_1 rfl ?_
  refine rf_iload_n C (n := 5) (q := 1) dX10_clock_4 rfl rfl rfl ?_
  refine rf_callVi C (n := 8) (c_X0_has G fu _ _) mw_RX10_116 ly_1 rfl ⟨by decide, by decide⟩ rfl (Nat.le_of_ble_eq_true rfl) rfl dX10_clock_5 rfl (fun y1 m2 => ?_)
  refine rf_if_eq C (tgt := 28) (n := 11) dX10_clock_8 (by decide) rfl (fun h3 => ?_) (fun h3 => ?_)
  · refine rf_iconst C (n := 29) (v := 0) dX10_clock_28 rfl (by decide) ?_
    exact rf_zret C K (by decide) dX10_clock_29
  · refine rf_iload_n C (n := 12) (q := 2) dX10_clock_11 rfl rfl rfl ?_
    refine rf_callSi C (n := 15) (c_X10_isHour G fu _ _) sw_RX10_119 ⟨by decide, by decide⟩ rfl (Nat.le_of_ble_eq_true rfl) rfl dX10_clock_12 rfl (fun y4 m5 => ?_)
    refine rf_if_eq C (tgt := 28) (n := 18) dX10_clock_15 (by decide) rfl (fun h6 => ?_) (fun h6 => ?_)
    · refine rf_iconst C (n := 29) (v := 0) dX10_clock_28 rfl (by decide) ?_
      exact rf_zret C K (by decide) dX10_clock_29
    · refine rf_iload_n C (n := 19) (q := 3) dX10_clock_18 rfl rfl rfl ?_
      refine rf_iconst C (n := 20) (v := (-1)) dX10_clock_19 rfl (by decide) ?_
      refine rf_icmp_lt C (tgt := 28) (n := 23) dX10_clock_20 (by decide) rfl (fun h7 => ?_) (fun h7 => ?_)
      · refine rf_iconst C (n := 29) (v := 0) dX10_clock_28 rfl (by decide) ?_
        exact rf_zret C K (by decide) dX10_clock_29
      · refine rf_iload_n C (n := 24) (q := 3) dX10_clock_23 rfl rfl rfl ?_
        refine rf_iconst C (n := 25) (v := 1) dX10_clock_24 rfl (by decide) ?_
        refine rf_icmp_le C (tgt := 30) (n := 28) dX10_clock_25 (by decide) rfl (fun h8 => ?_) (fun h8 => ?_)
        · refine rf_aload_n C (n := 31) (q := 0) dX10_clock_30 rfl rfl rfl ?_
          refine rf_getS C (n := 34) fl_RX10_12 ly_0 rfl dX10_clock_31 rfl ?_
          refine rf_getS C (n := 37) fl_RX10_102 ly_1 rfl dX10_clock_34 rfl ?_
          refine rf_iload_n C (n := 38) (q := 1) dX10_clock_37 rfl rfl rfl ?_
          refine rf_guard (fun h9 => ?_)
          refine rf_aaldO C (n := 39) ly_2 h9 (of_r h9) dX10_clock_38 rfl ?_
          refine rf_iload_n C (n := 40) (q := 2) dX10_clock_39 rfl rfl rfl ?_
          refine rf_putI C (n := 43) pl_RX10_122 (pO_l (of_o h9)) rfl ⟨rfl, rfl⟩ dX10_clock_40 rfl ?_
          refine rf_letM (fun m10 => ?_)
          refine rf_aload_n C (n := 44) (q := 0) dX10_clock_43 rfl rfl rfl ?_
          refine rf_getS C (n := 47) fl_RX10_12 ly_0 rfl dX10_clock_44 rfl ?_
          refine rf_getS C (n := 50) fl_RX10_102 ly_1 rfl dX10_clock_47 rfl ?_
          refine rf_iload_n C (n := 51) (q := 1) dX10_clock_50 rfl rfl rfl ?_
          refine rf_guard (fun h11 => ?_)
          refine rf_aaldO C (n := 52) ly_2 h11 (of_r h11) dX10_clock_51 rfl ?_
          refine rf_iload_n C (n := 53) (q := 3) dX10_clock_52 rfl rfl rfl ?_
          refine rf_putI C (n := 56) pl_RX10_125 (pO_l (of_o h11)) rfl ⟨rfl, rfl⟩ dX10_clock_53 rfl ?_
          refine rf_letM (fun m12 => ?_)
          refine rf_aload_n C (n := 57) (q := 0) dX10_clock_56 rfl rfl rfl ?_
          refine rf_getS C (n := 60) fl_RX10_12 ly_0 rfl dX10_clock_57 rfl ?_
          refine rf_iload_n C (n := 61) (q := 1) dX10_clock_60 rfl rfl rfl ?_
          refine rf_iconst C (n := 62) (v := 0) dX10_clock_61 rfl (by decide) ?_
          refine rf_sipush C (n := 65) (v := 2560) dX10_clock_62 rfl (by decide) ?_
          refine rf_callVv C (n := 68) (c_X0_refresh G fu _ _ _ _) mw_RX10_112 ly_1 rfl ⟨by decide, by decide⟩ rfl (Nat.le_of_ble_eq_true rfl) rfl dX10_clock_65 rfl (fun _ m13 => ?_)
          refine rf_iconst C (n := 69) (v := 1) dX10_clock_68 rfl (by decide) ?_
          exact rf_zret C K (by decide) dX10_clock_69
        · refine rf_iconst C (n := 29) (v := 0) dX10_clock_28 rfl (by decide) ?_
          exact rf_zret C K (by decide) dX10_clock_29
noncomputable def f_X10_feast (fu : Nat) (x1 : Int32) (x2 : Int32) (x3 : Int32) (m : hM) : Option (Int32 × hM) :=
  hBd (f_X0_has fu x1 m) fun y1 m2 =>
if y1 = 0 then (
some (0, m2)) else (
hBd (f_X10_isDay fu x2 m2) fun y4 m5 =>
if ¬ y4 = 0 then (
hBd (f_X0_putFeast fu x1 x2 x3 m5) fun _ m7 =>
some (1, m7)) else (
some (0, m5)))
set_option maxRecDepth 100000 in
set_option maxHeartbeats 4000000 in
theorem c_X10_feast (G : hG) (fu : Nat) (x1 : Int32) (x2 : Int32) (x3 : Int32) (m : hM) : Mt vI G 5 yX10_feast cX10_feast 4 (some .boolean) [hA G 0, .int x1, .int x2, .int x3] m (f_X10_feast fu x1 x2 x3 m) := by
  refine mt_of (by decide +kernel) (Nat.le_of_ble_eq_true rfl) (fun X C K => ?_)
  have C : Cx G X 5 cX10_feast 4 RX10 (some .boolean) := C
  show Rf vI G X 0 [(0, hA G 0), (1, .int x1), (2, .int x2), (3, .int x3)] [] m _
  unfold f_X10_feast
  refine rf_aload_n C (n := 1) (q := 0) dX10_feast_0 rfl rfl rfl ?_
  refine rf_getS C (n := 4) fl_RX10_12 ly_0 rfl dX10_feast_1 rfl ?_
  refine rf_iload_n C (n := 5) (q := 1) dX10_feast_4 rfl rfl rfl ?_
  refine rf_callVi C (n := 8) (c_X0_has G fu _ _) mw_RX10_116 ly_1 rfl ⟨by decide, by decide⟩ rfl (Nat.le_of_ble_eq_true rfl) rfl dX10_feast_5 rfl (fun y1 m2 => ?_)
  refine rf_if_eq C (tgt := 18) (n := 11) dX10_feast_8 (by decide) rfl (fun h3 => ?_) (fun h3 => ?_)
  · refine rf_iconst C (n := 19) (v := 0) dX10_feast_18 rfl (by decide) ?_
    exact rf_zret C K (by decide) dX10_feast_19
  · refine rf_iload_n C (n := 12) (q := 2) dX10_feast_11 rfl rfl rfl ?_
    refine rf_callSi C (n := 15) (c_X10_isDay G fu _ _) sw_RX10_128 ⟨by decide, by decide⟩ rfl (Nat.le_of_ble_eq_true rfl) rfl dX10_feast_12 rfl (fun y4 m5 => ?_)
    refine rf_if_ne C (tgt := 20) (n := 18) dX10_feast_15 (by decide) rfl (fun h6 => ?_) (fun h6 => ?_)
    · refine rf_aload_n C (n := 21) (q := 0) dX10_feast_20 rfl rfl rfl ?_
      refine rf_getS C (n := 24) fl_RX10_12 ly_0 rfl dX10_feast_21 rfl ?_
      refine rf_iload_n C (n := 25) (q := 1) dX10_feast_24 rfl rfl rfl ?_
      refine rf_iload_n C (n := 26) (q := 2) dX10_feast_25 rfl rfl rfl ?_
      refine rf_iload_n C (n := 27) (q := 3) dX10_feast_26 rfl rfl rfl ?_
      refine rf_callVv C (n := 30) (c_X0_putFeast G fu _ _ _ _) mw_RX10_131 ly_1 rfl ⟨by decide, by decide⟩ rfl (Nat.le_of_ble_eq_true rfl) rfl dX10_feast_27 rfl (fun _ m7 => ?_)
      refine rf_iconst C (n := 31) (v := 1) dX10_feast_30 rfl (by decide) ?_
      exact rf_zret C K (by decide) dX10_feast_31
    · refine rf_iconst C (n := 19) (v := 0) dX10_feast_18 rfl (by decide) ?_
      exact rf_zret C K (by decide) dX10_feast_19
noncomputable def f_X10_know (fu : Nat) (x1 : Int32) (x2 : Int32) (x3 : Int32) (m : hM) : Option (Int32 × hM) :=
  hBd (f_X0_has fu x1 m) fun y1 m2 =>
if y1 = 0 then (
some ((-1), m2)) else (
hBd (f_X0_has fu x2 m2) fun y4 m5 =>
if y4 = 0 then (
some ((-1), m5)) else (
if x1 = x2 then (
some ((-1), m5)) else (
if x3 < 0 then (
some ((-1), m5)) else (
if x3 ≤ 9 then (
if hIn ((x1 * 6) + x2) 36 then (
hLet (gI m5 3 (Int32.toNatClampNeg ((x1 * 6) + x2))) fun y11 =>
hBd (f_X0_putKnown fu x1 x2 x3 m5) fun _ m12 =>
some (y11, m12)) else none) else (
some ((-1), m5))))))
set_option maxRecDepth 100000 in
set_option maxHeartbeats 4000000 in
theorem c_X10_know (G : hG) (fu : Nat) (x1 : Int32) (x2 : Int32) (x3 : Int32) (m : hM) : Mt vI G 2 yX10_know cX10_know 5 (some .int) [hA G 0, .int x1, .int x2, .int x3] m (f_X10_know fu x1 x2 x3 m) := by
  refine mt_of (by decide +kernel) (Nat.le_of_ble_eq_true rfl) (fun X C K => ?_)
  have C : Cx G X 2 cX10_know 5 RX10 (some .int) := C
  show Rf vI G X 0 [(0, hA G 0), (1, .int x1), (2, .int x2), (3, .int x3)] [] m _
  unfold f_X10_know
  refine rf_aload_n C (n := 1) (q := 0) dX10_know_0 rfl rfl rfl ?_
  refine rf_getS C (n := 4) fl_RX10_12 ly_0 rfl dX10_know_1 rfl ?_
  refine rf_iload_n C (n := 5) (q := 1) dX10_know_4 rfl rfl rfl ?_
  refine rf_callVi C (n := 8) (c_X0_has G fu _ _) mw_RX10_116 ly_1 rfl ⟨by decide, by decide⟩ rfl (Nat.le_of_ble_eq_true rfl) rfl dX10_know_5 rfl (fun y1 m2 => ?_)
  refine rf_if_eq C (tgt := 37) (n := 11) dX10_know_8 (by decide) rfl (fun h3 => ?_) (fun h3 => ?_)
  · refine rf_iconst C (n := 38) (v := (-1)) dX10_know_37 rfl (by decide) ?_
    exact rf_iret C K dX10_know_38
  · refine rf_aload_n C (n := 12) (q := 0) dX10_know_11 rfl rfl rfl ?_
    refine rf_getS C (n := 15) fl_RX10_12 ly_0 rfl dX10_know_12 rfl ?_
    refine rf_iload_n C (n := 16) (q := 2) dX10_know_15 rfl rfl rfl ?_
    refine rf_callVi C (n := 19) (c_X0_has G fu _ _) mw_RX10_116 ly_1 rfl ⟨by decide, by decide⟩ rfl (Nat.le_of_ble_eq_true rfl) rfl dX10_know_16 rfl (fun y4 m5 => ?_)
    refine rf_if_eq C (tgt := 37) (n := 22) dX10_know_19 (by decide) rfl (fun h6 => ?_) (fun h6 => ?_)
    · refine rf_iconst C (n := 38) (v := (-1)) dX10_know_37 rfl (by decide) ?_
      exact rf_iret C K dX10_know_38
    · refine rf_iload_n C (n := 23) (q := 1) dX10_know_22 rfl rfl rfl ?_
      refine rf_iload_n C (n := 24) (q := 2) dX10_know_23 rfl rfl rfl ?_
      refine rf_icmp_eq C (tgt := 37) (n := 27) dX10_know_24 (by decide) rfl (fun h7 => ?_) (fun h7 => ?_)
      · refine rf_iconst C (n := 38) (v := (-1)) dX10_know_37 rfl (by decide) ?_
        exact rf_iret C K dX10_know_38
      · refine rf_iload_n C (n := 28) (q := 3) dX10_know_27 rfl rfl rfl ?_
        refine rf_if_lt C (tgt := 37) (n := 31) dX10_know_28 (by decide) rfl (fun h8 => ?_) (fun h8 => ?_)
        · refine rf_iconst C (n := 38) (v := (-1)) dX10_know_37 rfl (by decide) ?_
          exact rf_iret C K dX10_know_38
        · refine rf_iload_n C (n := 32) (q := 3) dX10_know_31 rfl rfl rfl ?_
          refine rf_bipush C (n := 34) (v := 9) dX10_know_32 rfl (by decide) ?_
          refine rf_icmp_le C (tgt := 39) (n := 37) dX10_know_34 (by decide) rfl (fun h9 => ?_) (fun h9 => ?_)
          · refine rf_aload_n C (n := 40) (q := 0) dX10_know_39 rfl rfl rfl ?_
            refine rf_getS C (n := 43) fl_RX10_12 ly_0 rfl dX10_know_40 rfl ?_
            refine rf_getS C (n := 46) fl_RX10_135 ly_1 rfl dX10_know_43 rfl ?_
            refine rf_iload_n C (n := 47) (q := 1) dX10_know_46 rfl rfl rfl ?_
            refine rf_bipush C (n := 49) (v := 6) dX10_know_47 rfl (by decide) ?_
            refine rf_imul C (n := 50) dX10_know_49 rfl ?_
            refine rf_iload_n C (n := 51) (q := 2) dX10_know_50 rfl rfl rfl ?_
            refine rf_iadd C (n := 52) dX10_know_51 rfl ?_
            refine rf_guard (fun h10 => ?_)
            refine rf_iald C (n := 53) ly_3 h10 rfl dX10_know_52 rfl ?_
            refine rf_letI (fun y11 => ?_)
            refine rf_istore C (n := 55) [(4, .int y11), (0, hA G 0), (1, .int x1), (2, .int x2), (3, .int x3)] dX10_know_53 rfl (by decide) rfl ?_
            refine rf_aload_n C (n := 56) (q := 1) dX10_know_55 rfl rfl rfl ?_
            refine rf_getS C (n := 59) fl_RX10_12 ly_0 rfl dX10_know_56 rfl ?_
            refine rf_iload_n C (n := 60) (q := 2) dX10_know_59 rfl rfl rfl ?_
            refine rf_iload_n C (n := 61) (q := 3) dX10_know_60 rfl rfl rfl ?_
            refine rf_iload_n C (n := 62) (q := 4) dX10_know_61 rfl rfl rfl ?_
            refine rf_callVv C (n := 65) (c_X0_putKnown G fu _ _ _ _) mw_RX10_138 ly_1 rfl ⟨by decide, by decide⟩ rfl (Nat.le_of_ble_eq_true rfl) rfl dX10_know_62 rfl (fun _ m12 => ?_)
            refine rf_iload C (n := 67) (q := 0) dX10_know_65 rfl rfl ?_
            exact rf_iret C K dX10_know_67
          · refine rf_iconst C (n := 38) (v := (-1)) dX10_know_37 rfl (by decide) ?_
            exact rf_iret C K dX10_know_38
noncomputable def f_X10_knownByEntry_20 (fu : Nat) (s0 : Int32) (m : hM) : Option (Int32 × hM) :=
  if 0 ≤ s0 then (
if s0 ≤ 9 then (
some (s0, m)) else (
some (9, m))) else (
some (0, m))
set_option maxRecDepth 100000 in
set_option maxHeartbeats 4000000 in
theorem r_X10_knownByEntry_20 {G : hG} {X : hX} (C : Cx G X 1 cX10_knownByEntry 3 RX10 (some .int)) (K : Cr G X) (fu : Nat) (s0 : Int32) (m : hM) : Rf vI G X 20 [] [.int s0] m (f_X10_knownByEntry_20 fu s0 m) := by
  unfold f_X10_knownByEntry_20
  refine rf_istore_n C (n := 21) [(2, .int s0)] dX10_knownByEntry_20 rfl rfl (by decide) rfl ?_
  refine rf_iload_n C (n := 22) (q := 0) dX10_knownByEntry_21 rfl rfl rfl ?_
  refine rf_if_ge C (tgt := 29) (n := 25) dX10_knownByEntry_22 (by decide) rfl (fun h3 => ?_) (fun h3 => ?_)
  · refine rf_iload_n C (n := 30) (q := 0) dX10_knownByEntry_29 rfl rfl rfl ?_
    refine rf_bipush C (n := 32) (v := 9) dX10_knownByEntry_30 rfl (by decide) ?_
    refine rf_icmp_le C (tgt := 40) (n := 35) dX10_knownByEntry_32 (by decide) rfl (fun h4 => ?_) (fun h4 => ?_)
    · refine rf_iload_n C (n := 41) (q := 0) dX10_knownByEntry_40 rfl rfl rfl ?_
      exact rf_iret C K dX10_knownByEntry_41
    · refine rf_bipush C (n := 37) (v := 9) dX10_knownByEntry_35 rfl (by decide) ?_
      refine rf_goto C (n := 41) dX10_knownByEntry_37 (by decide) ?_
      exact rf_iret C K dX10_knownByEntry_41
  · refine rf_iconst C (n := 26) (v := 0) dX10_knownByEntry_25 rfl (by decide) ?_
    refine rf_goto C (n := 41) dX10_knownByEntry_26 (by decide) ?_
    exact rf_iret C K dX10_knownByEntry_41
noncomputable def f_X10_knownByEntry (fu : Nat) (x0 : Int32) (x1 : Int32) (m : hM) : Option (Int32 × hM) :=
  if ¬ x0 = 0 then (
if ¬ x0 = 1 then (
f_X10_knownByEntry_20 fu x1 m) else (
f_X10_knownByEntry_20 fu ((Int32.toInt16 x1).toInt32) m)) else (
f_X10_knownByEntry_20 fu ((Int32.toInt8 x1).toInt32) m)
set_option maxRecDepth 100000 in
set_option maxHeartbeats 4000000 in
theorem c_X10_knownByEntry (G : hG) (fu : Nat) (x0 : Int32) (x1 : Int32) (m : hM) : Mt vI G 1 yX10_knownByEntry cX10_knownByEntry 3 (some .int) [.int x0, .int x1] m (f_X10_knownByEntry fu x0 x1 m) := by
  refine mt_of (by decide +kernel) (Nat.le_of_ble_eq_true rfl) (fun X C K => ?_)
  have C : Cx G X 1 cX10_knownByEntry 3 RX10 (some .int) := C
  show Rf vI G X 0 [(0, .int x0), (1, .int x1)] [] m _
  unfold f_X10_knownByEntry
  refine rf_iload_n C (n := 1) (q := 0) dX10_knownByEntry_0 rfl rfl rfl ?_
  refine rf_if_ne C (tgt := 9) (n := 4) dX10_knownByEntry_1 (by decide) rfl (fun h1 => ?_) (fun h1 => ?_)
  · refine rf_iload_n C (n := 10) (q := 0) dX10_knownByEntry_9 rfl rfl rfl ?_
    refine rf_iconst C (n := 11) (v := 1) dX10_knownByEntry_10 rfl (by decide) ?_
    refine rf_icmp_ne C (tgt := 19) (n := 14) dX10_knownByEntry_11 (by decide) rfl (fun h2 => ?_) (fun h2 => ?_)
    · refine rf_iload_n C (n := 20) (q := 1) dX10_knownByEntry_19 rfl rfl rfl ?_
      exact rf_lv _ [] rfl (r_X10_knownByEntry_20 C K fu _ _)
    · refine rf_iload_n C (n := 15) (q := 1) dX10_knownByEntry_14 rfl rfl rfl ?_
      refine rf_i2s C (n := 16) dX10_knownByEntry_15 rfl ?_
      refine rf_goto C (n := 20) dX10_knownByEntry_16 (by decide) ?_
      exact rf_lv _ [] rfl (r_X10_knownByEntry_20 C K fu _ _)
  · refine rf_iload_n C (n := 5) (q := 1) dX10_knownByEntry_4 rfl rfl rfl ?_
    refine rf_i2b C (n := 6) dX10_knownByEntry_5 rfl ?_
    refine rf_goto C (n := 20) dX10_knownByEntry_6 (by decide) ?_
    exact rf_lv _ [] rfl (r_X10_knownByEntry_20 C K fu _ _)
noncomputable def f_X10_sheet_146 (fu : Nat) (k58 : Int32 → Int32 → Int32 → Int32 → Int32 → Int32 → Int32 → Int32 → hM → Option (Int32 × hM)) (x1 : Int32) (x2 : Int32) (x3 : Int32) (x4 : Int32) (x5 : Int32) (x6 : Int32) (x7 : Int32) (x8 : Int32) (m : hM) : Option (Int32 × hM) :=
  hLet (x8 + 1) fun y15 =>
k58 x1 x2 x3 x4 x5 x6 x7 y15 m
set_option maxRecDepth 100000 in
set_option maxHeartbeats 4000000 in
theorem r_X10_sheet_146 {G : hG} {X : hX} (C : Cx G X 2 cX10_sheet 9 RX10 (some .int)) (K : Cr G X) (fu : Nat) (k58 : Int32 → Int32 → Int32 → Int32 → Int32 → Int32 → Int32 → Int32 → hM → Option (Int32 × hM)) (hk58 : ∀ (x1 : Int32) (x2 : Int32) (x3 : Int32) (x4 : Int32) (x5 : Int32) (x6 : Int32) (x7 : Int32) (x8 : Int32) (m : hM), Rf vI G X 58 [(0, hA G 0), (1, .int x1), (2, .int x2), (3, .int x3), (4, .int x4), (5, .int x5), (6, .int x6), (7, .int x7), (8, .int x8)] [] m (k58 x1 x2 x3 x4 x5 x6 x7 x8 m)) (x1 : Int32) (x2 : Int32) (x3 : Int32) (x4 : Int32) (x5 : Int32) (x6 : Int32) (x7 : Int32) (x8 : Int32) (m : hM) : Rf vI G X 146 [(0, hA G 0), (1, .int x1), (2, .int x2), (3, .int x3), (4, .int x4), (5, .int x5), (6, .int x6), (7, .int x7), (8, .int x8)] [] m (f_X10_sheet_146 fu k58 x1 x2 x3 x4 x5 x6 x7 x8 m) := by
  unfold f_X10_sheet_146
  refine rf_iinc2 C (n := 149) (q := 8) (fun y15 => [(8, .int y15), (0, hA G 0), (1, .int x1), (2, .int x2), (3, .int x3), (4, .int x4), (5, .int x5), (6, .int x6), (7, .int x7)]) dX10_sheet_146 rfl rfl (by decide) (by decide) (fun _ => rfl) (fun y15 => ?_)
  refine rf_goto C (n := 58) dX10_sheet_149 (by decide) ?_
  exact rf_lv _ [1, 2, 3, 4, 5, 6, 7, 8, 0] rfl (hk58 _ _ _ _ _ _ _ _ _)
noncomputable def f_X10_sheet_126 (fu : Nat) (k58 : Int32 → Int32 → Int32 → Int32 → Int32 → Int32 → Int32 → Int32 → hM → Option (Int32 × hM)) (x1 : Int32) (x2 : Int32) (x3 : Int32) (x4 : Int32) (x5 : Int32) (x6 : Int32) (x7 : Int32) (x8 : Int32) (m : hM) : Option (Int32 × hM) :=
  if hIn ((x1 * 6) + x8) 36 then (
hLet (x7 + (gI m 3 (Int32.toNatClampNeg ((x1 * 6) + x8)))) fun y14 =>
f_X10_sheet_146 fu k58 x1 x2 x3 x4 x5 x6 y14 x8 m) else none
set_option maxRecDepth 100000 in
set_option maxHeartbeats 4000000 in
theorem r_X10_sheet_126 {G : hG} {X : hX} (C : Cx G X 2 cX10_sheet 9 RX10 (some .int)) (K : Cr G X) (fu : Nat) (k58 : Int32 → Int32 → Int32 → Int32 → Int32 → Int32 → Int32 → Int32 → hM → Option (Int32 × hM)) (hk58 : ∀ (x1 : Int32) (x2 : Int32) (x3 : Int32) (x4 : Int32) (x5 : Int32) (x6 : Int32) (x7 : Int32) (x8 : Int32) (m : hM), Rf vI G X 58 [(0, hA G 0), (1, .int x1), (2, .int x2), (3, .int x3), (4, .int x4), (5, .int x5), (6, .int x6), (7, .int x7), (8, .int x8)] [] m (k58 x1 x2 x3 x4 x5 x6 x7 x8 m)) (x1 : Int32) (x2 : Int32) (x3 : Int32) (x4 : Int32) (x5 : Int32) (x6 : Int32) (x7 : Int32) (x8 : Int32) (m : hM) : Rf vI G X 126 [(0, hA G 0), (1, .int x1), (2, .int x2), (3, .int x3), (4, .int x4), (5, .int x5), (6, .int x6), (7, .int x7), (8, .int x8)] [] m (f_X10_sheet_126 fu k58 x1 x2 x3 x4 x5 x6 x7 x8 m) := by
  unfold f_X10_sheet_126
  refine rf_iload C (n := 128) (q := 7) dX10_sheet_126 rfl rfl ?_
  refine rf_aload_n C (n := 129) (q := 0) dX10_sheet_128 rfl rfl rfl ?_
  refine rf_getS C (n := 132) fl_RX10_12 ly_0 rfl dX10_sheet_129 rfl ?_
  refine rf_getS C (n := 135) fl_RX10_135 ly_1 rfl dX10_sheet_132 rfl ?_
  refine rf_iload_n C (n := 136) (q := 1) dX10_sheet_135 rfl rfl rfl ?_
  refine rf_bipush C (n := 138) (v := 6) dX10_sheet_136 rfl (by decide) ?_
  refine rf_imul C (n := 139) dX10_sheet_138 rfl ?_
  refine rf_iload C (n := 141) (q := 8) dX10_sheet_139 rfl rfl ?_
  refine rf_iadd C (n := 142) dX10_sheet_141 rfl ?_
  refine rf_guard (fun h13 => ?_)
  refine rf_iald C (n := 143) ly_3 h13 rfl dX10_sheet_142 rfl ?_
  refine rf_iadd C (n := 144) dX10_sheet_143 rfl ?_
  refine rf_letI (fun y14 => ?_)
  refine rf_istore C (n := 146) [(7, .int y14), (0, hA G 0), (1, .int x1), (2, .int x2), (3, .int x3), (4, .int x4), (5, .int x5), (6, .int x6), (8, .int x8)] dX10_sheet_144 rfl (by decide) rfl ?_
  exact rf_lv _ [1, 2, 3, 4, 5, 6, 7, 0, 8] rfl (r_X10_sheet_146 C K fu _ hk58 _ _ _ _ _ _ _ _ _)
noncomputable def s_X10_sheet_58 (fu : Nat) (ih : Int32 → Int32 → Int32 → Int32 → Int32 → Int32 → Int32 → Int32 → hM → Option (Int32 × hM)) (x1 : Int32) (x2 : Int32) (x3 : Int32) (x4 : Int32) (x5 : Int32) (x6 : Int32) (x7 : Int32) (x8 : Int32) (m : hM) : Option (Int32 × hM) :=
  if (gI m 1 4) ≤ x8 then (
some (x7, m)) else (
if ¬ x8 = x1 then (
if x6 = 0 then (
if x3 ≤ x8 then (
f_X10_sheet_126 fu ih x1 x2 x3 x4 x5 x6 x7 x8 m) else (
hBd (f_X10_knownByEntry fu x2 (x4 + (x8 * x5)) m) fun y16 m17 =>
hBd (f_X0_putKnown fu x1 x8 y16 m17) fun _ m18 =>
f_X10_sheet_126 fu ih x1 x2 x3 x4 x5 x6 x7 x8 m18)) else (
hBd (f_X0_putKnown fu x1 x8 0 m) fun _ m19 =>
f_X10_sheet_126 fu ih x1 x2 x3 x4 x5 x6 x7 x8 m19)) else (
f_X10_sheet_146 fu ih x1 x2 x3 x4 x5 x6 x7 x8 m))
noncomputable def f_X10_sheet_58 (fu : Nat) (n : Nat) : Int32 → Int32 → Int32 → Int32 → Int32 → Int32 → Int32 → Int32 → hM → Option (Int32 × hM) :=
  Nat.rec (motive := fun _ => Int32 → Int32 → Int32 → Int32 → Int32 → Int32 → Int32 → Int32 → hM → Option (Int32 × hM)) (fun _ _ _ _ _ _ _ _ _ => none) (fun _ ih => s_X10_sheet_58 fu ih) n
theorem f_X10_sheet_58_s (fu : Nat) (n : Nat) (x1 : Int32) (x2 : Int32) (x3 : Int32) (x4 : Int32) (x5 : Int32) (x6 : Int32) (x7 : Int32) (x8 : Int32) (m : hM) : f_X10_sheet_58 fu (n + 1) x1 x2 x3 x4 x5 x6 x7 x8 m = s_X10_sheet_58 fu (f_X10_sheet_58 fu n) x1 x2 x3 x4 x5 x6 x7 x8 m := rfl
set_option maxRecDepth 100000 in
set_option maxHeartbeats 4000000 in
theorem r_X10_sheet_58 {G : hG} {X : hX} (C : Cx G X 2 cX10_sheet 9 RX10 (some .int)) (K : Cr G X) (fu : Nat) (n : Nat) : ∀ (x1 : Int32) (x2 : Int32) (x3 : Int32) (x4 : Int32) (x5 : Int32) (x6 : Int32) (x7 : Int32) (x8 : Int32) (m : hM), Rf vI G X 58 [(0, hA G 0), (1, .int x1), (2, .int x2), (3, .int x3), (4, .int x4), (5, .int x5), (6, .int x6), (7, .int x7), (8, .int x8)] [] m (f_X10_sheet_58 fu n x1 x2 x3 x4 x5 x6 x7 x8 m) := by
  induction n with
  | zero => intros; exact rf_none
  | succ n ih =>
    intro x1 x2 x3 x4 x5 x6 x7 x8 m
    show Rf vI G X 58 [(0, hA G 0), (1, .int x1), (2, .int x2), (3, .int x3), (4, .int x4), (5, .int x5), (6, .int x6), (7, .int x7), (8, .int x8)] [] m (s_X10_sheet_58 fu (f_X10_sheet_58 fu n) x1 x2 x3 x4 x5 x6 x7 x8 m)
    unfold s_X10_sheet_58
    refine rf_iload C (n := 60) (q := 8) dX10_sheet_58 rfl rfl ?_
    refine rf_aload_n C (n := 61) (q := 0) dX10_sheet_60 rfl rfl rfl ?_
    refine rf_getS C (n := 64) fl_RX10_12 ly_0 rfl dX10_sheet_61 rfl ?_
    refine rf_getI C (n := 67) fl_RX10_95 ly_1 rfl dX10_sheet_64 rfl ?_
    refine rf_icmp_ge C (tgt := 152) (n := 70) dX10_sheet_67 (by decide) rfl (fun h9 => ?_) (fun h9 => ?_)
    · refine rf_iload C (n := 154) (q := 7) dX10_sheet_152 rfl rfl ?_
      exact rf_iret C K dX10_sheet_154
    · refine rf_iload C (n := 72) (q := 8) dX10_sheet_70 rfl rfl ?_
      refine rf_iload_n C (n := 73) (q := 1) dX10_sheet_72 rfl rfl rfl ?_
      refine rf_icmp_ne C (tgt := 79) (n := 76) dX10_sheet_73 (by decide) rfl (fun h10 => ?_) (fun h10 => ?_)
      · refine rf_iload C (n := 81) (q := 6) dX10_sheet_79 rfl rfl ?_
        refine rf_if_eq C (tgt := 98) (n := 84) dX10_sheet_81 (by decide) rfl (fun h11 => ?_) (fun h11 => ?_)
        · refine rf_iload C (n := 100) (q := 8) dX10_sheet_98 rfl rfl ?_
          refine rf_iload_n C (n := 101) (q := 3) dX10_sheet_100 rfl rfl rfl ?_
          refine rf_icmp_ge C (tgt := 126) (n := 104) dX10_sheet_101 (by decide) rfl (fun h12 => ?_) (fun h12 => ?_)
          · exact rf_lv _ [0, 1, 2, 3, 4, 5, 6, 7, 8] rfl (r_X10_sheet_126 C K fu _ ih _ _ _ _ _ _ _ _ _)
          · refine rf_aload_n C (n := 105) (q := 0) dX10_sheet_104 rfl rfl rfl ?_
            refine rf_getS C (n := 108) fl_RX10_12 ly_0 rfl dX10_sheet_105 rfl ?_
            refine rf_iload_n C (n := 109) (q := 1) dX10_sheet_108 rfl rfl rfl ?_
            refine rf_iload C (n := 111) (q := 8) dX10_sheet_109 rfl rfl ?_
            refine rf_iload_n C (n := 112) (q := 2) dX10_sheet_111 rfl rfl rfl ?_
            refine rf_iload C (n := 114) (q := 4) dX10_sheet_112 rfl rfl ?_
            refine rf_iload C (n := 116) (q := 8) dX10_sheet_114 rfl rfl ?_
            refine rf_iload C (n := 118) (q := 5) dX10_sheet_116 rfl rfl ?_
            refine rf_imul C (n := 119) dX10_sheet_118 rfl ?_
            refine rf_iadd C (n := 120) dX10_sheet_119 rfl ?_
            refine rf_callSi C (n := 123) (c_X10_knownByEntry G fu _ _ _) sw_RX10_141 ⟨by decide, by decide⟩ rfl (Nat.le_of_ble_eq_true rfl) rfl dX10_sheet_120 rfl (fun y16 m17 => ?_)
            refine rf_callVv C (n := 126) (c_X0_putKnown G fu _ _ _ _) mw_RX10_138 ly_1 rfl ⟨by decide, by decide⟩ rfl (Nat.le_of_ble_eq_true rfl) rfl dX10_sheet_123 rfl (fun _ m18 => ?_)
            exact rf_lv _ [0, 1, 2, 3, 4, 5, 6, 7, 8] rfl (r_X10_sheet_126 C K fu _ ih _ _ _ _ _ _ _ _ _)
        · refine rf_aload_n C (n := 85) (q := 0) dX10_sheet_84 rfl rfl rfl ?_
          refine rf_getS C (n := 88) fl_RX10_12 ly_0 rfl dX10_sheet_85 rfl ?_
          refine rf_iload_n C (n := 89) (q := 1) dX10_sheet_88 rfl rfl rfl ?_
          refine rf_iload C (n := 91) (q := 8) dX10_sheet_89 rfl rfl ?_
          refine rf_iconst C (n := 92) (v := 0) dX10_sheet_91 rfl (by decide) ?_
          refine rf_callVv C (n := 95) (c_X0_putKnown G fu _ _ _ _) mw_RX10_138 ly_1 rfl ⟨by decide, by decide⟩ rfl (Nat.le_of_ble_eq_true rfl) rfl dX10_sheet_92 rfl (fun _ m19 => ?_)
          refine rf_goto C (n := 126) dX10_sheet_95 (by decide) ?_
          exact rf_lv _ [0, 1, 2, 3, 4, 5, 6, 7, 8] rfl (r_X10_sheet_126 C K fu _ ih _ _ _ _ _ _ _ _ _)
      · refine rf_goto C (n := 146) dX10_sheet_76 (by decide) ?_
        exact rf_lv _ [0, 1, 2, 3, 4, 5, 6, 7, 8] rfl (r_X10_sheet_146 C K fu _ ih _ _ _ _ _ _ _ _ _)
noncomputable def f_X10_sheet_52 (fu : Nat) (x1 : Int32) (x2 : Int32) (x3 : Int32) (x4 : Int32) (x5 : Int32) (x6 : Int32) (m : hM) : Option (Int32 × hM) :=
  f_X10_sheet_58 fu fu x1 x2 x3 x4 x5 x6 0 0 m
set_option maxRecDepth 100000 in
set_option maxHeartbeats 4000000 in
theorem r_X10_sheet_52 {G : hG} {X : hX} (C : Cx G X 2 cX10_sheet 9 RX10 (some .int)) (K : Cr G X) (fu : Nat) (x1 : Int32) (x2 : Int32) (x3 : Int32) (x4 : Int32) (x5 : Int32) (x6 : Int32) (m : hM) : Rf vI G X 52 [(0, hA G 0), (1, .int x1), (2, .int x2), (3, .int x3), (4, .int x4), (5, .int x5), (6, .int x6)] [] m (f_X10_sheet_52 fu x1 x2 x3 x4 x5 x6 m) := by
  unfold f_X10_sheet_52
  refine rf_iconst C (n := 53) (v := 0) dX10_sheet_52 rfl (by decide) ?_
  refine rf_istore C (n := 55) [(7, .int 0), (0, hA G 0), (1, .int x1), (2, .int x2), (3, .int x3), (4, .int x4), (5, .int x5), (6, .int x6)] dX10_sheet_53 rfl (by decide) rfl ?_
  refine rf_iconst C (n := 56) (v := 0) dX10_sheet_55 rfl (by decide) ?_
  refine rf_istore C (n := 58) [(8, .int 0), (7, .int 0), (0, hA G 0), (1, .int x1), (2, .int x2), (3, .int x3), (4, .int x4), (5, .int x5), (6, .int x6)] dX10_sheet_56 rfl (by decide) rfl ?_
  exact rf_lv _ [2, 3, 4, 5, 6, 7, 8, 1, 0] rfl (r_X10_sheet_58 C K fu fu _ _ _ _ _ _ _ _ _)
noncomputable def f_X10_sheet_38 (fu : Nat) (x1 : Int32) (x2 : Int32) (x3 : Int32) (x4 : Int32) (x5 : Int32) (s0 : Int32) (m : hM) : Option (Int32 × hM) :=
  if ¬ s0 = 0 then (
f_X10_sheet_52 fu x1 x2 x3 x4 x5 s0 m) else (
if 0 ≤ x3 then (
f_X10_sheet_52 fu x1 x2 x3 x4 x5 s0 m) else (
some ((-2), m)))
set_option maxRecDepth 100000 in
set_option maxHeartbeats 4000000 in
theorem r_X10_sheet_38 {G : hG} {X : hX} (C : Cx G X 2 cX10_sheet 9 RX10 (some .int)) (K : Cr G X) (fu : Nat) (x1 : Int32) (x2 : Int32) (x3 : Int32) (x4 : Int32) (x5 : Int32) (s0 : Int32) (m : hM) : Rf vI G X 38 [(0, hA G 0), (1, .int x1), (2, .int x2), (3, .int x3), (4, .int x4), (5, .int x5)] [.int s0] m (f_X10_sheet_38 fu x1 x2 x3 x4 x5 s0 m) := by
  unfold f_X10_sheet_38
  refine rf_istore C (n := 40) [(6, .int s0), (0, hA G 0), (1, .int x1), (2, .int x2), (3, .int x3), (4, .int x4), (5, .int x5)] dX10_sheet_38 rfl (by decide) rfl ?_
  refine rf_iload C (n := 42) (q := 0) dX10_sheet_40 rfl rfl ?_
  refine rf_if_ne C (tgt := 52) (n := 45) dX10_sheet_42 (by decide) rfl (fun h8 => ?_) (fun h8 => ?_)
  · exact rf_lv _ [1, 2, 3, 4, 5, 6, 0] rfl (r_X10_sheet_52 C K fu _ _ _ _ _ _ _)
  · refine rf_iload_n C (n := 46) (q := 4) dX10_sheet_45 rfl rfl rfl ?_
    refine rf_if_ge C (tgt := 52) (n := 49) dX10_sheet_46 (by decide) rfl (fun h20 => ?_) (fun h20 => ?_)
    · exact rf_lv _ [1, 2, 3, 4, 5, 6, 0] rfl (r_X10_sheet_52 C K fu _ _ _ _ _ _ _)
    · refine rf_bipush C (n := 51) (v := (-2)) dX10_sheet_49 rfl (by decide) ?_
      exact rf_iret C K dX10_sheet_51
noncomputable def f_X10_sheet (fu : Nat) (x1 : Int32) (x2 : Int32) (x3 : Int32) (x4 : Int32) (x5 : Int32) (m : hM) : Option (Int32 × hM) :=
  hBd (f_X0_has fu x1 m) fun y1 m2 =>
if y1 = 0 then (
some ((-1), m2)) else (
if x2 < 0 then (
some ((-1), m2)) else (
if 3 < x2 then (
some ((-1), m2)) else (
if x3 ≤ 6 then (
if ¬ x2 = 3 then (
f_X10_sheet_38 fu x1 x2 x3 x4 x5 0 m2) else (
f_X10_sheet_38 fu x1 x2 x3 x4 x5 1 m2)) else (
some ((-1), m2)))))
set_option maxRecDepth 100000 in
set_option maxHeartbeats 4000000 in
theorem c_X10_sheet (G : hG) (fu : Nat) (x1 : Int32) (x2 : Int32) (x3 : Int32) (x4 : Int32) (x5 : Int32) (m : hM) : Mt vI G 2 yX10_sheet cX10_sheet 9 (some .int) [hA G 0, .int x1, .int x2, .int x3, .int x4, .int x5] m (f_X10_sheet fu x1 x2 x3 x4 x5 m) := by
  refine mt_of (by decide +kernel) (Nat.le_of_ble_eq_true rfl) (fun X C K => ?_)
  have C : Cx G X 2 cX10_sheet 9 RX10 (some .int) := C
  show Rf vI G X 0 [(0, hA G 0), (1, .int x1), (2, .int x2), (3, .int x3), (4, .int x4), (5, .int x5)] [] m _
  unfold f_X10_sheet
  refine rf_aload_n C (n := 1) (q := 0) dX10_sheet_0 rfl rfl rfl ?_
  refine rf_getS C (n := 4) fl_RX10_12 ly_0 rfl dX10_sheet_1 rfl ?_
  refine rf_iload_n C (n := 5) (q := 1) dX10_sheet_4 rfl rfl rfl ?_
  refine rf_callVi C (n := 8) (c_X0_has G fu _ _) mw_RX10_116 ly_1 rfl ⟨by decide, by decide⟩ rfl (Nat.le_of_ble_eq_true rfl) rfl dX10_sheet_5 rfl (fun y1 m2 => ?_)
  refine rf_if_eq C (tgt := 26) (n := 11) dX10_sheet_8 (by decide) rfl (fun h3 => ?_) (fun h3 => ?_)
  · refine rf_iconst C (n := 27) (v := (-1)) dX10_sheet_26 rfl (by decide) ?_
    exact rf_iret C K dX10_sheet_27
  · refine rf_iload_n C (n := 12) (q := 2) dX10_sheet_11 rfl rfl rfl ?_
    refine rf_if_lt C (tgt := 26) (n := 15) dX10_sheet_12 (by decide) rfl (fun h4 => ?_) (fun h4 => ?_)
    · refine rf_iconst C (n := 27) (v := (-1)) dX10_sheet_26 rfl (by decide) ?_
      exact rf_iret C K dX10_sheet_27
    · refine rf_iload_n C (n := 16) (q := 2) dX10_sheet_15 rfl rfl rfl ?_
      refine rf_iconst C (n := 17) (v := 3) dX10_sheet_16 rfl (by decide) ?_
      refine rf_icmp_gt C (tgt := 26) (n := 20) dX10_sheet_17 (by decide) rfl (fun h5 => ?_) (fun h5 => ?_)
      · refine rf_iconst C (n := 27) (v := (-1)) dX10_sheet_26 rfl (by decide) ?_
        exact rf_iret C K dX10_sheet_27
      · refine rf_iload_n C (n := 21) (q := 3) dX10_sheet_20 rfl rfl rfl ?_
        refine rf_bipush C (n := 23) (v := 6) dX10_sheet_21 rfl (by decide) ?_
        refine rf_icmp_le C (tgt := 28) (n := 26) dX10_sheet_23 (by decide) rfl (fun h6 => ?_) (fun h6 => ?_)
        · refine rf_iload_n C (n := 29) (q := 2) dX10_sheet_28 rfl rfl rfl ?_
          refine rf_iconst C (n := 30) (v := 3) dX10_sheet_29 rfl (by decide) ?_
          refine rf_icmp_ne C (tgt := 37) (n := 33) dX10_sheet_30 (by decide) rfl (fun h7 => ?_) (fun h7 => ?_)
          · refine rf_iconst C (n := 38) (v := 0) dX10_sheet_37 rfl (by decide) ?_
            exact rf_lv _ [0, 1, 2, 3, 4, 5] rfl (r_X10_sheet_38 C K fu _ _ _ _ _ _ _)
          · refine rf_iconst C (n := 34) (v := 1) dX10_sheet_33 rfl (by decide) ?_
            refine rf_goto C (n := 38) dX10_sheet_34 (by decide) ?_
            exact rf_lv _ [0, 1, 2, 3, 4, 5] rfl (r_X10_sheet_38 C K fu _ _ _ _ _ _ _)
        · refine rf_iconst C (n := 27) (v := (-1)) dX10_sheet_26 rfl (by decide) ?_
          exact rf_iret C K dX10_sheet_27
noncomputable def f_X10_set_32 (fu : Nat) (x1 : Int32) (x2 : Int32) (m : hM) : Option (Int32 × hM) :=
  if ¬ x1 = 1 then (
some ((-1), m)) else (
if x2 < 0 then (
some ((-1), m)) else (
if 100 < x2 then (
some ((-1), m)) else (
hLet (gI m 1 6) fun y5 =>
hLet (sI m 1 6 x2) fun m6 =>
some (y5, m6))))
set_option maxRecDepth 100000 in
set_option maxHeartbeats 4000000 in
theorem r_X10_set_32 {G : hG} {X : hX} (C : Cx G X 1 cX10_set 4 RX10 (some .int)) (K : Cr G X) (fu : Nat) (x1 : Int32) (x2 : Int32) (m : hM) : Rf vI G X 32 [(0, hA G 0), (1, .int x1), (2, .int x2)] [] m (f_X10_set_32 fu x1 x2 m) := by
  unfold f_X10_set_32
  refine rf_iload_n C (n := 33) (q := 1) dX10_set_32 rfl rfl rfl ?_
  refine rf_iconst C (n := 34) (v := 1) dX10_set_33 rfl (by decide) ?_
  refine rf_icmp_ne C (tgt := 65) (n := 37) dX10_set_34 (by decide) rfl (fun h2 => ?_) (fun h2 => ?_)
  · refine rf_iconst C (n := 66) (v := (-1)) dX10_set_65 rfl (by decide) ?_
    exact rf_iret C K dX10_set_66
  · refine rf_iload_n C (n := 38) (q := 2) dX10_set_37 rfl rfl rfl ?_
    refine rf_if_lt C (tgt := 65) (n := 41) dX10_set_38 (by decide) rfl (fun h3 => ?_) (fun h3 => ?_)
    · refine rf_iconst C (n := 66) (v := (-1)) dX10_set_65 rfl (by decide) ?_
      exact rf_iret C K dX10_set_66
    · refine rf_iload_n C (n := 42) (q := 2) dX10_set_41 rfl rfl rfl ?_
      refine rf_bipush C (n := 44) (v := 100) dX10_set_42 rfl (by decide) ?_
      refine rf_icmp_gt C (tgt := 65) (n := 47) dX10_set_44 (by decide) rfl (fun h4 => ?_) (fun h4 => ?_)
      · refine rf_iconst C (n := 66) (v := (-1)) dX10_set_65 rfl (by decide) ?_
        exact rf_iret C K dX10_set_66
      · refine rf_aload_n C (n := 48) (q := 0) dX10_set_47 rfl rfl rfl ?_
        refine rf_getS C (n := 51) fl_RX10_12 ly_0 rfl dX10_set_48 rfl ?_
        refine rf_getI C (n := 54) fl_RX10_148 ly_1 rfl dX10_set_51 rfl ?_
        refine rf_letI (fun y5 => ?_)
        refine rf_istore_n C (n := 55) [(3, .int y5), (0, hA G 0), (1, .int x1), (2, .int x2)] dX10_set_54 rfl rfl (by decide) rfl ?_
        refine rf_aload_n C (n := 56) (q := 1) dX10_set_55 rfl rfl rfl ?_
        refine rf_getS C (n := 59) fl_RX10_12 ly_0 rfl dX10_set_56 rfl ?_
        refine rf_iload_n C (n := 60) (q := 3) dX10_set_59 rfl rfl rfl ?_
        refine rf_putI C (n := 63) pl_RX10_148 ly_1 rfl ⟨rfl, rfl⟩ dX10_set_60 rfl ?_
        refine rf_letM (fun m6 => ?_)
        refine rf_iload_n C (n := 64) (q := 0) dX10_set_63 rfl rfl rfl ?_
        exact rf_iret C K dX10_set_64
noncomputable def f_X10_set (fu : Nat) (x1 : Int32) (x2 : Int32) (m : hM) : Option (Int32 × hM) :=
  if ¬ x1 = 0 then (
f_X10_set_32 fu x1 x2 m) else (
if x2 < 0 then (
f_X10_set_32 fu x1 x2 m) else (
if 20 < x2 then (
f_X10_set_32 fu x1 x2 m) else (
hLet (gI m 1 5) fun y9 =>
hLet (sI m 1 5 x2) fun m10 =>
some (y9, m10))))
set_option maxRecDepth 100000 in
set_option maxHeartbeats 4000000 in
theorem c_X10_set (G : hG) (fu : Nat) (x1 : Int32) (x2 : Int32) (m : hM) : Mt vI G 1 yX10_set cX10_set 4 (some .int) [hA G 0, .int x1, .int x2] m (f_X10_set fu x1 x2 m) := by
  refine mt_of (by decide +kernel) (Nat.le_of_ble_eq_true rfl) (fun X C K => ?_)
  have C : Cx G X 1 cX10_set 4 RX10 (some .int) := C
  show Rf vI G X 0 [(0, hA G 0), (1, .int x1), (2, .int x2)] [] m _
  unfold f_X10_set
  refine rf_iload_n C (n := 1) (q := 1) dX10_set_0 rfl rfl rfl ?_
  refine rf_if_ne C (tgt := 32) (n := 4) dX10_set_1 (by decide) rfl (fun h1 => ?_) (fun h1 => ?_)
  · exact rf_lv _ [0, 1, 2] rfl (r_X10_set_32 C K fu _ _ _)
  · refine rf_iload_n C (n := 5) (q := 2) dX10_set_4 rfl rfl rfl ?_
    refine rf_if_lt C (tgt := 32) (n := 8) dX10_set_5 (by decide) rfl (fun h7 => ?_) (fun h7 => ?_)
    · exact rf_lv _ [0, 1, 2] rfl (r_X10_set_32 C K fu _ _ _)
    · refine rf_iload_n C (n := 9) (q := 2) dX10_set_8 rfl rfl rfl ?_
      refine rf_bipush C (n := 11) (v := 20) dX10_set_9 rfl (by decide) ?_
      refine rf_icmp_gt C (tgt := 32) (n := 14) dX10_set_11 (by decide) rfl (fun h8 => ?_) (fun h8 => ?_)
      · exact rf_lv _ [0, 1, 2] rfl (r_X10_set_32 C K fu _ _ _)
      · refine rf_aload_n C (n := 15) (q := 0) dX10_set_14 rfl rfl rfl ?_
        refine rf_getS C (n := 18) fl_RX10_12 ly_0 rfl dX10_set_15 rfl ?_
        refine rf_getI C (n := 21) fl_RX10_145 ly_1 rfl dX10_set_18 rfl ?_
        refine rf_letI (fun y9 => ?_)
        refine rf_istore_n C (n := 22) [(3, .int y9), (0, hA G 0), (1, .int x1), (2, .int x2)] dX10_set_21 rfl rfl (by decide) rfl ?_
        refine rf_aload_n C (n := 23) (q := 1) dX10_set_22 rfl rfl rfl ?_
        refine rf_getS C (n := 26) fl_RX10_12 ly_0 rfl dX10_set_23 rfl ?_
        refine rf_iload_n C (n := 27) (q := 3) dX10_set_26 rfl rfl rfl ?_
        refine rf_putI C (n := 30) pl_RX10_145 ly_1 rfl ⟨rfl, rfl⟩ dX10_set_27 rfl ?_
        refine rf_letM (fun m10 => ?_)
        refine rf_iload_n C (n := 31) (q := 0) dX10_set_30 rfl rfl rfl ?_
        exact rf_iret C K dX10_set_31
noncomputable def f_X10_open (fu : Nat) (x1 : Int32) (x2 : Int32) (m : hM) : Option (Int32 × hM) :=
  hBd (f_X0_has fu x1 m) fun y1 m2 =>
if y1 = 0 then (
some ((-1), m2)) else (
hBd (f_X10_isHour fu x2 m2) fun y4 m5 =>
if ¬ y4 = 0 then (
if hIn x2 2560 then (
some (((gI m5 4 (Int32.toNatClampNeg x2)) >>> (x1 &&& 31)) &&& 1, m5)) else none) else (
some ((-1), m5)))
set_option maxRecDepth 100000 in
set_option maxHeartbeats 4000000 in
theorem c_X10_open (G : hG) (fu : Nat) (x1 : Int32) (x2 : Int32) (m : hM) : Mt vI G 2 yX10_open cX10_open 3 (some .int) [hA G 0, .int x1, .int x2] m (f_X10_open fu x1 x2 m) := by
  refine mt_of (by decide +kernel) (Nat.le_of_ble_eq_true rfl) (fun X C K => ?_)
  have C : Cx G X 2 cX10_open 3 RX10 (some .int) := C
  show Rf vI G X 0 [(0, hA G 0), (1, .int x1), (2, .int x2)] [] m _
  unfold f_X10_open
  refine rf_aload_n C (n := 1) (q := 0) dX10_open_0 rfl rfl rfl ?_
  refine rf_getS C (n := 4) fl_RX10_12 ly_0 rfl dX10_open_1 rfl ?_
  refine rf_iload_n C (n := 5) (q := 1) dX10_open_4 rfl rfl rfl ?_
  refine rf_callVi C (n := 8) (c_X0_has G fu _ _) mw_RX10_116 ly_1 rfl ⟨by decide, by decide⟩ rfl (Nat.le_of_ble_eq_true rfl) rfl dX10_open_5 rfl (fun y1 m2 => ?_)
  refine rf_if_eq C (tgt := 18) (n := 11) dX10_open_8 (by decide) rfl (fun h3 => ?_) (fun h3 => ?_)
  · refine rf_iconst C (n := 19) (v := (-1)) dX10_open_18 rfl (by decide) ?_
    exact rf_iret C K dX10_open_19
  · refine rf_iload_n C (n := 12) (q := 2) dX10_open_11 rfl rfl rfl ?_
    refine rf_callSi C (n := 15) (c_X10_isHour G fu _ _) sw_RX10_119 ⟨by decide, by decide⟩ rfl (Nat.le_of_ble_eq_true rfl) rfl dX10_open_12 rfl (fun y4 m5 => ?_)
    refine rf_if_ne C (tgt := 20) (n := 18) dX10_open_15 (by decide) rfl (fun h6 => ?_) (fun h6 => ?_)
    · refine rf_aload_n C (n := 21) (q := 0) dX10_open_20 rfl rfl rfl ?_
      refine rf_getS C (n := 24) fl_RX10_12 ly_0 rfl dX10_open_21 rfl ?_
      refine rf_getS C (n := 27) fl_RX10_151 ly_1 rfl dX10_open_24 rfl ?_
      refine rf_iload_n C (n := 28) (q := 2) dX10_open_27 rfl rfl rfl ?_
      refine rf_guard (fun h7 => ?_)
      refine rf_iald C (n := 29) ly_4 h7 rfl dX10_open_28 rfl ?_
      refine rf_iload_n C (n := 30) (q := 1) dX10_open_29 rfl rfl rfl ?_
      refine rf_ishr C (n := 31) dX10_open_30 rfl ?_
      refine rf_iconst C (n := 32) (v := 1) dX10_open_31 rfl (by decide) ?_
      refine rf_iand C (n := 33) dX10_open_32 rfl ?_
      exact rf_iret C K dX10_open_33
    · refine rf_iconst C (n := 19) (v := (-1)) dX10_open_18 rfl (by decide) ?_
      exact rf_iret C K dX10_open_19
noncomputable def f_X10_overlap (fu : Nat) (x1 : Int32) (x2 : Int32) (x3 : Int32) (m : hM) : Option (Int32 × hM) :=
  hBd (f_X0_has fu x1 m) fun y1 m2 =>
if y1 = 0 then (
some ((-1), m2)) else (
hBd (f_X0_has fu x2 m2) fun y4 m5 =>
if y4 = 0 then (
some ((-1), m5)) else (
hBd (f_X10_isHour fu x3 m5) fun y7 m8 =>
if ¬ y7 = 0 then (
hBd (f_X0_bothFrom fu x1 x2 x3 m8) fun y10 m11 =>
hBd (f_J6_bitCount_0f7a4 fu y10 m11) fun y12 m13 =>
some (y12, m13)) else (
some ((-1), m8))))
set_option maxRecDepth 100000 in
set_option maxHeartbeats 4000000 in
theorem c_X10_overlap (G : hG) (fu : Nat) (x1 : Int32) (x2 : Int32) (x3 : Int32) (m : hM) : Mt vI G 2 yX10_overlap cX10_overlap 4 (some .int) [hA G 0, .int x1, .int x2, .int x3] m (f_X10_overlap fu x1 x2 x3 m) := by
  refine mt_of (by decide +kernel) (Nat.le_of_ble_eq_true rfl) (fun X C K => ?_)
  have C : Cx G X 2 cX10_overlap 4 RX10 (some .int) := C
  show Rf vI G X 0 [(0, hA G 0), (1, .int x1), (2, .int x2), (3, .int x3)] [] m _
  unfold f_X10_overlap
  refine rf_aload_n C (n := 1) (q := 0) dX10_overlap_0 rfl rfl rfl ?_
  refine rf_getS C (n := 4) fl_RX10_12 ly_0 rfl dX10_overlap_1 rfl ?_
  refine rf_iload_n C (n := 5) (q := 1) dX10_overlap_4 rfl rfl rfl ?_
  refine rf_callVi C (n := 8) (c_X0_has G fu _ _) mw_RX10_116 ly_1 rfl ⟨by decide, by decide⟩ rfl (Nat.le_of_ble_eq_true rfl) rfl dX10_overlap_5 rfl (fun y1 m2 => ?_)
  refine rf_if_eq C (tgt := 29) (n := 11) dX10_overlap_8 (by decide) rfl (fun h3 => ?_) (fun h3 => ?_)
  · refine rf_iconst C (n := 30) (v := (-1)) dX10_overlap_29 rfl (by decide) ?_
    exact rf_iret C K dX10_overlap_30
  · refine rf_aload_n C (n := 12) (q := 0) dX10_overlap_11 rfl rfl rfl ?_
    refine rf_getS C (n := 15) fl_RX10_12 ly_0 rfl dX10_overlap_12 rfl ?_
    refine rf_iload_n C (n := 16) (q := 2) dX10_overlap_15 rfl rfl rfl ?_
    refine rf_callVi C (n := 19) (c_X0_has G fu _ _) mw_RX10_116 ly_1 rfl ⟨by decide, by decide⟩ rfl (Nat.le_of_ble_eq_true rfl) rfl dX10_overlap_16 rfl (fun y4 m5 => ?_)
    refine rf_if_eq C (tgt := 29) (n := 22) dX10_overlap_19 (by decide) rfl (fun h6 => ?_) (fun h6 => ?_)
    · refine rf_iconst C (n := 30) (v := (-1)) dX10_overlap_29 rfl (by decide) ?_
      exact rf_iret C K dX10_overlap_30
    · refine rf_iload_n C (n := 23) (q := 3) dX10_overlap_22 rfl rfl rfl ?_
      refine rf_callSi C (n := 26) (c_X10_isHour G fu _ _) sw_RX10_119 ⟨by decide, by decide⟩ rfl (Nat.le_of_ble_eq_true rfl) rfl dX10_overlap_23 rfl (fun y7 m8 => ?_)
      refine rf_if_ne C (tgt := 31) (n := 29) dX10_overlap_26 (by decide) rfl (fun h9 => ?_) (fun h9 => ?_)
      · refine rf_aload_n C (n := 32) (q := 0) dX10_overlap_31 rfl rfl rfl ?_
        refine rf_getS C (n := 35) fl_RX10_12 ly_0 rfl dX10_overlap_32 rfl ?_
        refine rf_iload_n C (n := 36) (q := 1) dX10_overlap_35 rfl rfl rfl ?_
        refine rf_iload_n C (n := 37) (q := 2) dX10_overlap_36 rfl rfl rfl ?_
        refine rf_iload_n C (n := 38) (q := 3) dX10_overlap_37 rfl rfl rfl ?_
        refine rf_callVi C (n := 41) (c_X0_bothFrom G fu _ _ _ _) mw_RX10_154 ly_1 rfl ⟨by decide, by decide⟩ rfl (Nat.le_of_ble_eq_true rfl) rfl dX10_overlap_38 rfl (fun y10 m11 => ?_)
        refine rf_callSi C (n := 44) (c_J6_bitCount_0f7a4 G fu _ _) sw_RX10_158 ⟨by decide, by decide⟩ rfl (Nat.le_of_ble_eq_true rfl) rfl dX10_overlap_41 rfl (fun y12 m13 => ?_)
        exact rf_iret C K dX10_overlap_44
      · refine rf_iconst C (n := 30) (v := (-1)) dX10_overlap_29 rfl (by decide) ?_
        exact rf_iret C K dX10_overlap_30
noncomputable def f_X10_loses (fu : Nat) (x1 : Int32) (x2 : Int32) (x3 : Int32) (m : hM) : Option (Int32 × hM) :=
  hBd (f_X0_has fu x1 m) fun y1 m2 =>
if y1 = 0 then (
some ((-1), m2)) else (
hBd (f_X0_has fu x2 m2) fun y4 m5 =>
if y4 = 0 then (
some ((-1), m5)) else (
hBd (f_X10_isHour fu x3 m5) fun y7 m8 =>
if ¬ y7 = 0 then (
hBd (f_X0_bothFrom fu x1 x2 x3 m8) fun y10 m11 =>
hBd (f_X0_lostBy fu x1 x2 y10 m11) fun y12 m13 =>
some (y12, m13)) else (
some ((-1), m8))))
set_option maxRecDepth 100000 in
set_option maxHeartbeats 4000000 in
theorem c_X10_loses (G : hG) (fu : Nat) (x1 : Int32) (x2 : Int32) (x3 : Int32) (m : hM) : Mt vI G 3 yX10_loses cX10_loses 4 (some .int) [hA G 0, .int x1, .int x2, .int x3] m (f_X10_loses fu x1 x2 x3 m) := by
  refine mt_of (by decide +kernel) (Nat.le_of_ble_eq_true rfl) (fun X C K => ?_)
  have C : Cx G X 3 cX10_loses 4 RX10 (some .int) := C
  show Rf vI G X 0 [(0, hA G 0), (1, .int x1), (2, .int x2), (3, .int x3)] [] m _
  unfold f_X10_loses
  refine rf_aload_n C (n := 1) (q := 0) dX10_loses_0 rfl rfl rfl ?_
  refine rf_getS C (n := 4) fl_RX10_12 ly_0 rfl dX10_loses_1 rfl ?_
  refine rf_iload_n C (n := 5) (q := 1) dX10_loses_4 rfl rfl rfl ?_
  refine rf_callVi C (n := 8) (c_X0_has G fu _ _) mw_RX10_116 ly_1 rfl ⟨by decide, by decide⟩ rfl (Nat.le_of_ble_eq_true rfl) rfl dX10_loses_5 rfl (fun y1 m2 => ?_)
  refine rf_if_eq C (tgt := 29) (n := 11) dX10_loses_8 (by decide) rfl (fun h3 => ?_) (fun h3 => ?_)
  · refine rf_iconst C (n := 30) (v := (-1)) dX10_loses_29 rfl (by decide) ?_
    exact rf_iret C K dX10_loses_30
  · refine rf_aload_n C (n := 12) (q := 0) dX10_loses_11 rfl rfl rfl ?_
    refine rf_getS C (n := 15) fl_RX10_12 ly_0 rfl dX10_loses_12 rfl ?_
    refine rf_iload_n C (n := 16) (q := 2) dX10_loses_15 rfl rfl rfl ?_
    refine rf_callVi C (n := 19) (c_X0_has G fu _ _) mw_RX10_116 ly_1 rfl ⟨by decide, by decide⟩ rfl (Nat.le_of_ble_eq_true rfl) rfl dX10_loses_16 rfl (fun y4 m5 => ?_)
    refine rf_if_eq C (tgt := 29) (n := 22) dX10_loses_19 (by decide) rfl (fun h6 => ?_) (fun h6 => ?_)
    · refine rf_iconst C (n := 30) (v := (-1)) dX10_loses_29 rfl (by decide) ?_
      exact rf_iret C K dX10_loses_30
    · refine rf_iload_n C (n := 23) (q := 3) dX10_loses_22 rfl rfl rfl ?_
      refine rf_callSi C (n := 26) (c_X10_isHour G fu _ _) sw_RX10_119 ⟨by decide, by decide⟩ rfl (Nat.le_of_ble_eq_true rfl) rfl dX10_loses_23 rfl (fun y7 m8 => ?_)
      refine rf_if_ne C (tgt := 31) (n := 29) dX10_loses_26 (by decide) rfl (fun h9 => ?_) (fun h9 => ?_)
      · refine rf_aload_n C (n := 32) (q := 0) dX10_loses_31 rfl rfl rfl ?_
        refine rf_getS C (n := 35) fl_RX10_12 ly_0 rfl dX10_loses_32 rfl ?_
        refine rf_iload_n C (n := 36) (q := 1) dX10_loses_35 rfl rfl rfl ?_
        refine rf_iload_n C (n := 37) (q := 2) dX10_loses_36 rfl rfl rfl ?_
        refine rf_aload_n C (n := 38) (q := 0) dX10_loses_37 rfl rfl rfl ?_
        refine rf_getS C (n := 41) fl_RX10_12 ly_0 rfl dX10_loses_38 rfl ?_
        refine rf_iload_n C (n := 42) (q := 1) dX10_loses_41 rfl rfl rfl ?_
        refine rf_iload_n C (n := 43) (q := 2) dX10_loses_42 rfl rfl rfl ?_
        refine rf_iload_n C (n := 44) (q := 3) dX10_loses_43 rfl rfl rfl ?_
        refine rf_callVi C (n := 47) (c_X0_bothFrom G fu _ _ _ _) mw_RX10_154 ly_1 rfl ⟨by decide, by decide⟩ rfl (Nat.le_of_ble_eq_true rfl) rfl dX10_loses_44 rfl (fun y10 m11 => ?_)
        refine rf_callVi C (n := 50) (c_X0_lostBy G fu _ _ _ _) mw_RX10_164 ly_1 rfl ⟨by decide, by decide⟩ rfl (Nat.le_of_ble_eq_true rfl) rfl dX10_loses_47 rfl (fun y12 m13 => ?_)
        exact rf_iret C K dX10_loses_50
      · refine rf_iconst C (n := 30) (v := (-1)) dX10_loses_29 rfl (by decide) ?_
        exact rf_iret C K dX10_loses_30
noncomputable def f_X10_dark_122 (fu : Nat) (x4 : Int32) (x5 : Int32) (x6 : Int32) (x7 : Int32) (m : hM) : Option (Int32 × hM) :=
  hBd (f_X1_clear fu m) fun _ m10 =>
hBd (f_X1_tell fu (Int32.toInt64 x5) m10) fun _ m11 =>
hBd (f_X1_tell fu (Int32.toInt64 x6) m11) fun _ m12 =>
hBd (f_X1_tell fu (Int32.toInt64 x7) m12) fun _ m13 =>
some (x4, m13)
set_option maxRecDepth 100000 in
set_option maxHeartbeats 4000000 in
theorem r_X10_dark_122 {G : hG} {X : hX} (C : Cx G X 2 cX10_dark 10 RX10 (some .int)) (K : Cr G X) (fu : Nat) (x4 : Int32) (x5 : Int32) (x6 : Int32) (x7 : Int32) (m : hM) : Rf vI G X 122 [(0, hA G 0), (4, .int x4), (5, .int x5), (6, .int x6), (7, .int x7)] [] m (f_X10_dark_122 fu x4 x5 x6 x7 m) := by
  unfold f_X10_dark_122
  refine rf_aload_n C (n := 123) (q := 0) dX10_dark_122 rfl rfl rfl ?_
  refine rf_getS C (n := 126) fl_RX10_83 ly_0 rfl dX10_dark_123 rfl ?_
  refine rf_callVv C (n := 129) (c_X1_clear G fu _) mw_RX10_170 ly_66 rfl ⟨by decide, by decide⟩ rfl (Nat.le_of_ble_eq_true rfl) rfl dX10_dark_126 rfl (fun _ m10 => ?_)
  refine rf_aload_n C (n := 130) (q := 0) dX10_dark_129 rfl rfl rfl ?_
  refine rf_getS C (n := 133) fl_RX10_83 ly_0 rfl dX10_dark_130 rfl ?_
  refine rf_iload C (n := 135) (q := 2) dX10_dark_133 rfl rfl ?_
  refine rf_i2l C (n := 136) dX10_dark_135 rfl ?_
  refine rf_callVv C (n := 139) (c_X1_tell G fu _ _) mw_RX10_173 ly_66 rfl ⟨by decide, by decide⟩ rfl (Nat.le_of_ble_eq_true rfl) rfl dX10_dark_136 rfl (fun _ m11 => ?_)
  refine rf_aload_n C (n := 140) (q := 0) dX10_dark_139 rfl rfl rfl ?_
  refine rf_getS C (n := 143) fl_RX10_83 ly_0 rfl dX10_dark_140 rfl ?_
  refine rf_iload C (n := 145) (q := 3) dX10_dark_143 rfl rfl ?_
  refine rf_i2l C (n := 146) dX10_dark_145 rfl ?_
  refine rf_callVv C (n := 149) (c_X1_tell G fu _ _) mw_RX10_173 ly_66 rfl ⟨by decide, by decide⟩ rfl (Nat.le_of_ble_eq_true rfl) rfl dX10_dark_146 rfl (fun _ m12 => ?_)
  refine rf_aload_n C (n := 150) (q := 0) dX10_dark_149 rfl rfl rfl ?_
  refine rf_getS C (n := 153) fl_RX10_83 ly_0 rfl dX10_dark_150 rfl ?_
  refine rf_iload C (n := 155) (q := 4) dX10_dark_153 rfl rfl ?_
  refine rf_i2l C (n := 156) dX10_dark_155 rfl ?_
  refine rf_callVv C (n := 159) (c_X1_tell G fu _ _) mw_RX10_173 ly_66 rfl ⟨by decide, by decide⟩ rfl (Nat.le_of_ble_eq_true rfl) rfl dX10_dark_156 rfl (fun _ m13 => ?_)
  refine rf_iload C (n := 161) (q := 1) dX10_dark_159 rfl rfl ?_
  exact rf_iret C K dX10_dark_161
noncomputable def f_X10_dark_116 (fu : Nat) (k53 : Int32 → Int32 → Int32 → Int32 → Int32 → Int32 → Int32 → hM → Option (Int32 × hM)) (x2 : Int32) (x3 : Int32) (x4 : Int32) (x5 : Int32) (x6 : Int32) (x7 : Int32) (x8 : Int32) (m : hM) : Option (Int32 × hM) :=
  hLet (x8 + 1) fun y19 =>
k53 x2 x3 x4 x5 x6 x7 y19 m
set_option maxRecDepth 100000 in
set_option maxHeartbeats 4000000 in
theorem r_X10_dark_116 {G : hG} {X : hX} (C : Cx G X 2 cX10_dark 10 RX10 (some .int)) (K : Cr G X) (fu : Nat) (k53 : Int32 → Int32 → Int32 → Int32 → Int32 → Int32 → Int32 → hM → Option (Int32 × hM)) (hk53 : ∀ (x2 : Int32) (x3 : Int32) (x4 : Int32) (x5 : Int32) (x6 : Int32) (x7 : Int32) (x8 : Int32) (m : hM), Rf vI G X 53 [(0, hA G 0), (2, .int x2), (3, .int x3), (4, .int x4), (5, .int x5), (6, .int x6), (7, .int x7), (8, .int x8)] [] m (k53 x2 x3 x4 x5 x6 x7 x8 m)) (x2 : Int32) (x3 : Int32) (x4 : Int32) (x5 : Int32) (x6 : Int32) (x7 : Int32) (x8 : Int32) (m : hM) : Rf vI G X 116 [(0, hA G 0), (2, .int x2), (3, .int x3), (4, .int x4), (5, .int x5), (6, .int x6), (7, .int x7), (8, .int x8)] [] m (f_X10_dark_116 fu k53 x2 x3 x4 x5 x6 x7 x8 m) := by
  unfold f_X10_dark_116
  refine rf_iinc2 C (n := 119) (q := 7) (fun y19 => [(8, .int y19), (0, hA G 0), (2, .int x2), (3, .int x3), (4, .int x4), (5, .int x5), (6, .int x6), (7, .int x7)]) dX10_dark_116 rfl rfl (by decide) (by decide) (fun _ => rfl) (fun y19 => ?_)
  refine rf_goto C (n := 53) dX10_dark_119 (by decide) ?_
  exact rf_lv _ [1, 2, 3, 4, 5, 6, 7, 0] rfl (hk53 _ _ _ _ _ _ _ _)
noncomputable def f_X10_dark_101 (fu : Nat) (k53 : Int32 → Int32 → Int32 → Int32 → Int32 → Int32 → Int32 → hM → Option (Int32 × hM)) (x2 : Int32) (x3 : Int32) (x4 : Int32) (x5 : Int32) (x6 : Int32) (x7 : Int32) (x8 : Int32) (x9 : Int32) (m : hM) : Option (Int32 × hM) :=
  if x9 ≤ x6 then (
f_X10_dark_116 fu k53 x2 x3 x4 x5 x6 x7 x8 m) else (
f_X10_dark_116 fu k53 x2 x3 x4 x5 x9 x8 x8 m)
set_option maxRecDepth 100000 in
set_option maxHeartbeats 4000000 in
theorem r_X10_dark_101 {G : hG} {X : hX} (C : Cx G X 2 cX10_dark 10 RX10 (some .int)) (K : Cr G X) (fu : Nat) (k53 : Int32 → Int32 → Int32 → Int32 → Int32 → Int32 → Int32 → hM → Option (Int32 × hM)) (hk53 : ∀ (x2 : Int32) (x3 : Int32) (x4 : Int32) (x5 : Int32) (x6 : Int32) (x7 : Int32) (x8 : Int32) (m : hM), Rf vI G X 53 [(0, hA G 0), (2, .int x2), (3, .int x3), (4, .int x4), (5, .int x5), (6, .int x6), (7, .int x7), (8, .int x8)] [] m (k53 x2 x3 x4 x5 x6 x7 x8 m)) (x2 : Int32) (x3 : Int32) (x4 : Int32) (x5 : Int32) (x6 : Int32) (x7 : Int32) (x8 : Int32) (x9 : Int32) (m : hM) : Rf vI G X 101 [(0, hA G 0), (2, .int x2), (3, .int x3), (4, .int x4), (5, .int x5), (6, .int x6), (7, .int x7), (8, .int x8), (9, .int x9)] [] m (f_X10_dark_101 fu k53 x2 x3 x4 x5 x6 x7 x8 x9 m) := by
  unfold f_X10_dark_101
  refine rf_iload C (n := 103) (q := 8) dX10_dark_101 rfl rfl ?_
  refine rf_iload C (n := 105) (q := 5) dX10_dark_103 rfl rfl ?_
  refine rf_icmp_le C (tgt := 116) (n := 108) dX10_dark_105 (by decide) rfl (fun h18 => ?_) (fun h18 => ?_)
  · exact rf_lv _ [0, 1, 2, 3, 4, 5, 6, 7] rfl (r_X10_dark_116 C K fu _ hk53 _ _ _ _ _ _ _ _)
  · refine rf_iload C (n := 110) (q := 8) dX10_dark_108 rfl rfl ?_
    refine rf_istore C (n := 112) [(6, .int x9), (0, hA G 0), (2, .int x2), (3, .int x3), (4, .int x4), (5, .int x5), (7, .int x7), (8, .int x8), (9, .int x9)] dX10_dark_110 rfl (by decide) rfl ?_
    refine rf_iload C (n := 114) (q := 7) dX10_dark_112 rfl rfl ?_
    refine rf_istore C (n := 116) [(7, .int x8), (6, .int x9), (0, hA G 0), (2, .int x2), (3, .int x3), (4, .int x4), (5, .int x5), (8, .int x8), (9, .int x9)] dX10_dark_114 rfl (by decide) rfl ?_
    exact rf_lv _ [2, 3, 4, 5, 6, 1, 0, 7] rfl (r_X10_dark_116 C K fu _ hk53 _ _ _ _ _ _ _ _)
noncomputable def f_X10_dark_96 (fu : Nat) (k53 : Int32 → Int32 → Int32 → Int32 → Int32 → Int32 → Int32 → hM → Option (Int32 × hM)) (x2 : Int32) (x3 : Int32) (x4 : Int32) (x6 : Int32) (x7 : Int32) (x8 : Int32) (x9 : Int32) (s0 : Int32) (m : hM) : Option (Int32 × hM) :=
  hLet (x4 + 1) fun y21 =>
f_X10_dark_101 fu k53 x2 x3 y21 s0 x6 x7 x8 x9 m
set_option maxRecDepth 100000 in
set_option maxHeartbeats 4000000 in
theorem r_X10_dark_96 {G : hG} {X : hX} (C : Cx G X 2 cX10_dark 10 RX10 (some .int)) (K : Cr G X) (fu : Nat) (k53 : Int32 → Int32 → Int32 → Int32 → Int32 → Int32 → Int32 → hM → Option (Int32 × hM)) (hk53 : ∀ (x2 : Int32) (x3 : Int32) (x4 : Int32) (x5 : Int32) (x6 : Int32) (x7 : Int32) (x8 : Int32) (m : hM), Rf vI G X 53 [(0, hA G 0), (2, .int x2), (3, .int x3), (4, .int x4), (5, .int x5), (6, .int x6), (7, .int x7), (8, .int x8)] [] m (k53 x2 x3 x4 x5 x6 x7 x8 m)) (x2 : Int32) (x3 : Int32) (x4 : Int32) (x6 : Int32) (x7 : Int32) (x8 : Int32) (x9 : Int32) (s0 : Int32) (m : hM) : Rf vI G X 96 [(0, hA G 0), (2, .int x2), (3, .int x3), (4, .int x4), (6, .int x6), (7, .int x7), (8, .int x8), (9, .int x9)] [.int s0] m (f_X10_dark_96 fu k53 x2 x3 x4 x6 x7 x8 x9 s0 m) := by
  unfold f_X10_dark_96
  refine rf_istore C (n := 98) [(5, .int s0), (0, hA G 0), (2, .int x2), (3, .int x3), (4, .int x4), (6, .int x6), (7, .int x7), (8, .int x8), (9, .int x9)] dX10_dark_96 rfl (by decide) rfl ?_
  refine rf_iinc2 C (n := 101) (q := 4) (fun y21 => [(4, .int y21), (5, .int s0), (0, hA G 0), (2, .int x2), (3, .int x3), (6, .int x6), (7, .int x7), (8, .int x8), (9, .int x9)]) dX10_dark_98 rfl rfl (by decide) (by decide) (fun _ => rfl) (fun y21 => ?_)
  exact rf_lv _ [2, 3, 4, 0, 1, 5, 6, 7, 8] rfl (r_X10_dark_101 C K fu _ hk53 _ _ _ _ _ _ _ _ _)
noncomputable def s_X10_dark_53 (fu : Nat) (ih : Int32 → Int32 → Int32 → Int32 → Int32 → Int32 → Int32 → hM → Option (Int32 × hM)) (x2 : Int32) (x3 : Int32) (x4 : Int32) (x5 : Int32) (x6 : Int32) (x7 : Int32) (x8 : Int32) (m : hM) : Option (Int32 × hM) :=
  if (x2 + 24) ≤ x8 then (
f_X10_dark_122 fu x4 x5 x6 x7 m) else (
if hIn x8 2560 then (
hBd (f_J6_bitCount_0f7a4 fu ((gI m 4 (Int32.toNatClampNeg x8)) &&& x3) m) fun y15 m16 =>
if ¬ y15 = 0 then (
f_X10_dark_101 fu ih x2 x3 x4 x5 x6 x7 x8 y15 m16) else (
if ¬ x4 = 0 then (
f_X10_dark_96 fu ih x2 x3 x4 x6 x7 x8 y15 x5 m16) else (
f_X10_dark_96 fu ih x2 x3 x4 x6 x7 x8 y15 x8 m16))) else none)
noncomputable def f_X10_dark_53 (fu : Nat) (n : Nat) : Int32 → Int32 → Int32 → Int32 → Int32 → Int32 → Int32 → hM → Option (Int32 × hM) :=
  Nat.rec (motive := fun _ => Int32 → Int32 → Int32 → Int32 → Int32 → Int32 → Int32 → hM → Option (Int32 × hM)) (fun _ _ _ _ _ _ _ _ => none) (fun _ ih => s_X10_dark_53 fu ih) n
theorem f_X10_dark_53_s (fu : Nat) (n : Nat) (x2 : Int32) (x3 : Int32) (x4 : Int32) (x5 : Int32) (x6 : Int32) (x7 : Int32) (x8 : Int32) (m : hM) : f_X10_dark_53 fu (n + 1) x2 x3 x4 x5 x6 x7 x8 m = s_X10_dark_53 fu (f_X10_dark_53 fu n) x2 x3 x4 x5 x6 x7 x8 m := rfl
set_option maxRecDepth 100000 in
set_option maxHeartbeats 4000000 in
theorem r_X10_dark_53 {G : hG} {X : hX} (C : Cx G X 2 cX10_dark 10 RX10 (some .int)) (K : Cr G X) (fu : Nat) (n : Nat) : ∀ (x2 : Int32) (x3 : Int32) (x4 : Int32) (x5 : Int32) (x6 : Int32) (x7 : Int32) (x8 : Int32) (m : hM), Rf vI G X 53 [(0, hA G 0), (2, .int x2), (3, .int x3), (4, .int x4), (5, .int x5), (6, .int x6), (7, .int x7), (8, .int x8)] [] m (f_X10_dark_53 fu n x2 x3 x4 x5 x6 x7 x8 m) := by
  induction n with
  | zero => intros; exact rf_none
  | succ n ih =>
    intro x2 x3 x4 x5 x6 x7 x8 m
    show Rf vI G X 53 [(0, hA G 0), (2, .int x2), (3, .int x3), (4, .int x4), (5, .int x5), (6, .int x6), (7, .int x7), (8, .int x8)] [] m (s_X10_dark_53 fu (f_X10_dark_53 fu n) x2 x3 x4 x5 x6 x7 x8 m)
    unfold s_X10_dark_53
    refine rf_iload C (n := 55) (q := 7) dX10_dark_53 rfl rfl ?_
    refine rf_iload_n C (n := 56) (q := 1) dX10_dark_55 rfl rfl rfl ?_
    refine rf_bipush C (n := 58) (v := 24) dX10_dark_56 rfl (by decide) ?_
    refine rf_iadd C (n := 59) dX10_dark_58 rfl ?_
    refine rf_icmp_ge C (tgt := 122) (n := 62) dX10_dark_59 (by decide) rfl (fun h9 => ?_) (fun h9 => ?_)
    · exact rf_lv _ [0, 3, 4, 5, 6] rfl (r_X10_dark_122 C K fu _ _ _ _ _)
    · refine rf_aload_n C (n := 63) (q := 0) dX10_dark_62 rfl rfl rfl ?_
      refine rf_getS C (n := 66) fl_RX10_12 ly_0 rfl dX10_dark_63 rfl ?_
      refine rf_getS C (n := 69) fl_RX10_151 ly_1 rfl dX10_dark_66 rfl ?_
      refine rf_iload C (n := 71) (q := 7) dX10_dark_69 rfl rfl ?_
      refine rf_guard (fun h14 => ?_)
      refine rf_iald C (n := 72) ly_4 h14 rfl dX10_dark_71 rfl ?_
      refine rf_iload_n C (n := 73) (q := 2) dX10_dark_72 rfl rfl rfl ?_
      refine rf_iand C (n := 74) dX10_dark_73 rfl ?_
      refine rf_callSi C (n := 77) (c_J6_bitCount_0f7a4 G fu _ _) sw_RX10_158 ⟨by decide, by decide⟩ rfl (Nat.le_of_ble_eq_true rfl) rfl dX10_dark_74 rfl (fun y15 m16 => ?_)
      refine rf_istore C (n := 79) [(9, .int y15), (0, hA G 0), (2, .int x2), (3, .int x3), (4, .int x4), (5, .int x5), (6, .int x6), (7, .int x7), (8, .int x8)] dX10_dark_77 rfl (by decide) rfl ?_
      refine rf_iload C (n := 81) (q := 0) dX10_dark_79 rfl rfl ?_
      refine rf_if_ne C (tgt := 101) (n := 84) dX10_dark_81 (by decide) rfl (fun h17 => ?_) (fun h17 => ?_)
      · exact rf_lv _ [1, 2, 3, 4, 5, 6, 7, 8, 0] rfl (r_X10_dark_101 C K fu _ ih _ _ _ _ _ _ _ _ _)
      · refine rf_iload C (n := 86) (q := 4) dX10_dark_84 rfl rfl ?_
        refine rf_if_ne C (tgt := 94) (n := 89) dX10_dark_86 (by decide) rfl (fun h20 => ?_) (fun h20 => ?_)
        · refine rf_iload C (n := 96) (q := 5) dX10_dark_94 rfl rfl ?_
          exact rf_lv _ [1, 2, 3, 4, 6, 7, 8, 0] rfl (r_X10_dark_96 C K fu _ ih _ _ _ _ _ _ _ _ _)
        · refine rf_iload C (n := 91) (q := 8) dX10_dark_89 rfl rfl ?_
          refine rf_goto C (n := 96) dX10_dark_91 (by decide) ?_
          exact rf_lv _ [1, 2, 3, 4, 6, 7, 8, 0] rfl (r_X10_dark_96 C K fu _ ih _ _ _ _ _ _ _ _ _)
noncomputable def f_X10_dark (fu : Nat) (x1 : Int32) (x2 : Int32) (m : hM) : Option (Int32 × hM) :=
  if x1 < 0 then (
some ((-1), m)) else (
if 6 ≤ x1 then (
some ((-1), m)) else (
hBd (f_X10_isHour fu x2 m) fun y3 m4 =>
if y3 = 0 then (
some ((-1), m4)) else (
if ¬ (gI m4 1 4) = 0 then (
hBd (f_X0_officesWith fu x1 m4) fun y7 m8 =>
f_X10_dark_53 fu fu x2 y7 0 (-1) 0 x2 x2 m8) else (
some ((-1), m4)))))
set_option maxRecDepth 100000 in
set_option maxHeartbeats 4000000 in
theorem c_X10_dark (G : hG) (fu : Nat) (x1 : Int32) (x2 : Int32) (m : hM) : Mt vI G 2 yX10_dark cX10_dark 10 (some .int) [hA G 0, .int x1, .int x2] m (f_X10_dark fu x1 x2 m) := by
  refine mt_of (by decide +kernel) (Nat.le_of_ble_eq_true rfl) (fun X C K => ?_)
  have C : Cx G X 2 cX10_dark 10 RX10 (some .int) := C
  show Rf vI G X 0 [(0, hA G 0), (1, .int x1), (2, .int x2)] [] m _
  unfold f_X10_dark
  refine rf_iload_n C (n := 1) (q := 1) dX10_dark_0 rfl rfl rfl ?_
  refine rf_if_lt C (tgt := 27) (n := 4) dX10_dark_1 (by decide) rfl (fun h1 => ?_) (fun h1 => ?_)
  · refine rf_iconst C (n := 28) (v := (-1)) dX10_dark_27 rfl (by decide) ?_
    exact rf_iret C K dX10_dark_28
  · refine rf_iload_n C (n := 5) (q := 1) dX10_dark_4 rfl rfl rfl ?_
    refine rf_bipush C (n := 7) (v := 6) dX10_dark_5 rfl (by decide) ?_
    refine rf_icmp_ge C (tgt := 27) (n := 10) dX10_dark_7 (by decide) rfl (fun h2 => ?_) (fun h2 => ?_)
    · refine rf_iconst C (n := 28) (v := (-1)) dX10_dark_27 rfl (by decide) ?_
      exact rf_iret C K dX10_dark_28
    · refine rf_iload_n C (n := 11) (q := 2) dX10_dark_10 rfl rfl rfl ?_
      refine rf_callSi C (n := 14) (c_X10_isHour G fu _ _) sw_RX10_119 ⟨by decide, by decide⟩ rfl (Nat.le_of_ble_eq_true rfl) rfl dX10_dark_11 rfl (fun y3 m4 => ?_)
      refine rf_if_eq C (tgt := 27) (n := 17) dX10_dark_14 (by decide) rfl (fun h5 => ?_) (fun h5 => ?_)
      · refine rf_iconst C (n := 28) (v := (-1)) dX10_dark_27 rfl (by decide) ?_
        exact rf_iret C K dX10_dark_28
      · refine rf_aload_n C (n := 18) (q := 0) dX10_dark_17 rfl rfl rfl ?_
        refine rf_getS C (n := 21) fl_RX10_12 ly_0 rfl dX10_dark_18 rfl ?_
        refine rf_getI C (n := 24) fl_RX10_95 ly_1 rfl dX10_dark_21 rfl ?_
        refine rf_if_ne C (tgt := 29) (n := 27) dX10_dark_24 (by decide) rfl (fun h6 => ?_) (fun h6 => ?_)
        · refine rf_aload_n C (n := 30) (q := 0) dX10_dark_29 rfl rfl rfl ?_
          refine rf_getS C (n := 33) fl_RX10_12 ly_0 rfl dX10_dark_30 rfl ?_
          refine rf_iload_n C (n := 34) (q := 1) dX10_dark_33 rfl rfl rfl ?_
          refine rf_callVi C (n := 37) (c_X0_officesWith G fu _ _) mw_RX10_167 ly_1 rfl ⟨by decide, by decide⟩ rfl (Nat.le_of_ble_eq_true rfl) rfl dX10_dark_34 rfl (fun y7 m8 => ?_)
          refine rf_istore_n C (n := 38) [(3, .int y7), (0, hA G 0), (1, .int x1), (2, .int x2)] dX10_dark_37 rfl rfl (by decide) rfl ?_
          refine rf_iconst C (n := 39) (v := 0) dX10_dark_38 rfl (by decide) ?_
          refine rf_istore C (n := 41) [(4, .int 0), (3, .int y7), (0, hA G 0), (1, .int x1), (2, .int x2)] dX10_dark_39 rfl (by decide) rfl ?_
          refine rf_iconst C (n := 42) (v := (-1)) dX10_dark_41 rfl (by decide) ?_
          refine rf_istore C (n := 44) [(5, .int (-1)), (4, .int 0), (3, .int y7), (0, hA G 0), (1, .int x1), (2, .int x2)] dX10_dark_42 rfl (by decide) rfl ?_
          refine rf_iconst C (n := 45) (v := 0) dX10_dark_44 rfl (by decide) ?_
          refine rf_istore C (n := 47) [(6, .int 0), (5, .int (-1)), (4, .int 0), (3, .int y7), (0, hA G 0), (1, .int x1), (2, .int x2)] dX10_dark_45 rfl (by decide) rfl ?_
          refine rf_iload_n C (n := 48) (q := 6) dX10_dark_47 rfl rfl rfl ?_
          refine rf_istore C (n := 50) [(7, .int x2), (6, .int 0), (5, .int (-1)), (4, .int 0), (3, .int y7), (0, hA G 0), (1, .int x1), (2, .int x2)] dX10_dark_48 rfl (by decide) rfl ?_
          refine rf_iload_n C (n := 51) (q := 7) dX10_dark_50 rfl rfl rfl ?_
          refine rf_istore C (n := 53) [(8, .int x2), (7, .int x2), (6, .int 0), (5, .int (-1)), (4, .int 0), (3, .int y7), (0, hA G 0), (1, .int x1), (2, .int x2)] dX10_dark_51 rfl (by decide) rfl ?_
          exact rf_lv _ [6, 8, 5, 4, 3, 2, 1, 0] rfl (r_X10_dark_53 C K fu fu _ _ _ _ _ _ _ _)
        · refine rf_iconst C (n := 28) (v := (-1)) dX10_dark_27 rfl (by decide) ?_
          exact rf_iret C K dX10_dark_28
