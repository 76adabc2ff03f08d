theorem dX11_overlap_0 : decode cX11_overlap 0 = .ok (.aload_n 0, 1) := by decide +kernel
theorem dX11_overlap_1 : decode cX11_overlap 1 = .ok (.iconst 0, 1) := by decide +kernel
theorem dX11_overlap_2 : decode cX11_overlap 2 = .ok (.putfield 3, 3) := by decide +kernel
theorem dX11_overlap_5 : decode cX11_overlap 5 = .ok (.aload_n 0, 1) := by decide +kernel
theorem dX11_overlap_6 : decode cX11_overlap 6 = .ok (.iload_n 1, 1) := by decide +kernel
theorem dX11_overlap_7 : decode cX11_overlap 7 = .ok (.invokevirtual 77, 3) := by decide +kernel
theorem dX11_overlap_10 : decode cX11_overlap 10 = .ok (.ifCond .eq 28, 3) := by decide +kernel
theorem dX11_overlap_13 : decode cX11_overlap 13 = .ok (.aload_n 0, 1) := by decide +kernel
theorem dX11_overlap_14 : decode cX11_overlap 14 = .ok (.iload_n 2, 1) := by decide +kernel
theorem dX11_overlap_15 : decode cX11_overlap 15 = .ok (.invokevirtual 77, 3) := by decide +kernel
theorem dX11_overlap_18 : decode cX11_overlap 18 = .ok (.ifCond .eq 20, 3) := by decide +kernel
theorem dX11_overlap_21 : decode cX11_overlap 21 = .ok (.iload_n 3, 1) := by decide +kernel
theorem dX11_overlap_22 : decode cX11_overlap 22 = .ok (.invokestatic 81, 3) := by decide +kernel
theorem dX11_overlap_25 : decode cX11_overlap 25 = .ok (.ifCond .eq 13, 3) := by decide +kernel
theorem dX11_overlap_28 : decode cX11_overlap 28 = .ok (.aload_n 0, 1) := by decide +kernel
theorem dX11_overlap_29 : decode cX11_overlap 29 = .ok (.iload_n 1, 1) := by decide +kernel
theorem dX11_overlap_30 : decode cX11_overlap 30 = .ok (.iload_n 2, 1) := by decide +kernel
theorem dX11_overlap_31 : decode cX11_overlap 31 = .ok (.iload_n 3, 1) := by decide +kernel
theorem dX11_overlap_32 : decode cX11_overlap 32 = .ok (.invokevirtual 128, 3) := by decide +kernel
theorem dX11_overlap_35 : decode cX11_overlap 35 = .ok (.goto 4, 3) := by decide +kernel
theorem dX11_overlap_38 : decode cX11_overlap 38 = .ok (.iconst (-1), 1) := by decide +kernel
theorem dX11_overlap_39 : decode cX11_overlap 39 = .ok (.ireturn, 1) := by decide +kernel
theorem dX11_loses_0 : decode cX11_loses 0 = .ok (.aload_n 0, 1) := by decide +kernel
theorem dX11_loses_1 : decode cX11_loses 1 = .ok (.iconst 0, 1) := by decide +kernel
theorem dX11_loses_2 : decode cX11_loses 2 = .ok (.putfield 3, 3) := by decide +kernel
theorem dX11_loses_5 : decode cX11_loses 5 = .ok (.aload_n 0, 1) := by decide +kernel
theorem dX11_loses_6 : decode cX11_loses 6 = .ok (.iload_n 1, 1) := by decide +kernel
theorem dX11_loses_7 : decode cX11_loses 7 = .ok (.invokevirtual 77, 3) := by decide +kernel
theorem dX11_loses_10 : decode cX11_loses 10 = .ok (.ifCond .eq 28, 3) := by decide +kernel
theorem dX11_loses_13 : decode cX11_loses 13 = .ok (.aload_n 0, 1) := by decide +kernel
theorem dX11_loses_14 : decode cX11_loses 14 = .ok (.iload_n 2, 1) := by decide +kernel
theorem dX11_loses_15 : decode cX11_loses 15 = .ok (.invokevirtual 77, 3) := by decide +kernel
theorem dX11_loses_18 : decode cX11_loses 18 = .ok (.ifCond .eq 20, 3) := by decide +kernel
theorem dX11_loses_21 : decode cX11_loses 21 = .ok (.iload_n 3, 1) := by decide +kernel
theorem dX11_loses_22 : decode cX11_loses 22 = .ok (.invokestatic 81, 3) := by decide +kernel
theorem dX11_loses_25 : decode cX11_loses 25 = .ok (.ifCond .eq 13, 3) := by decide +kernel
theorem dX11_loses_28 : decode cX11_loses 28 = .ok (.aload_n 0, 1) := by decide +kernel
theorem dX11_loses_29 : decode cX11_loses 29 = .ok (.iload_n 1, 1) := by decide +kernel
theorem dX11_loses_30 : decode cX11_loses 30 = .ok (.iload_n 2, 1) := by decide +kernel
theorem dX11_loses_31 : decode cX11_loses 31 = .ok (.iload_n 3, 1) := by decide +kernel
theorem dX11_loses_32 : decode cX11_loses 32 = .ok (.invokevirtual 132, 3) := by decide +kernel
theorem dX11_loses_35 : decode cX11_loses 35 = .ok (.goto 4, 3) := by decide +kernel
theorem dX11_loses_38 : decode cX11_loses 38 = .ok (.iconst (-1), 1) := by decide +kernel
theorem dX11_loses_39 : decode cX11_loses 39 = .ok (.ireturn, 1) := by decide +kernel
theorem dX11_dark_0 : decode cX11_dark 0 = .ok (.aload_n 0, 1) := by decide +kernel
theorem dX11_dark_1 : decode cX11_dark 1 = .ok (.iconst 0, 1) := by decide +kernel
theorem dX11_dark_2 : decode cX11_dark 2 = .ok (.putfield 3, 3) := by decide +kernel
theorem dX11_dark_5 : decode cX11_dark 5 = .ok (.iload_n 1, 1) := by decide +kernel
theorem dX11_dark_6 : decode cX11_dark 6 = .ok (.i2l, 1) := by decide +kernel
theorem dX11_dark_7 : decode cX11_dark 7 = .ok (.lconst 0, 1) := by decide +kernel
theorem dX11_dark_8 : decode cX11_dark 8 = .ok (.ldc2_w 135, 3) := by decide +kernel
theorem dX11_dark_11 : decode cX11_dark 11 = .ok (.invokestatic 25, 3) := by decide +kernel
theorem dX11_dark_14 : decode cX11_dark 14 = .ok (.ifCond .eq 17, 3) := by decide +kernel
theorem dX11_dark_17 : decode cX11_dark 17 = .ok (.iload_n 2, 1) := by decide +kernel
theorem dX11_dark_18 : decode cX11_dark 18 = .ok (.invokestatic 81, 3) := by decide +kernel
theorem dX11_dark_21 : decode cX11_dark 21 = .ok (.ifCond .eq 10, 3) := by decide +kernel
theorem dX11_dark_24 : decode cX11_dark 24 = .ok (.aload_n 0, 1) := by decide +kernel
theorem dX11_dark_25 : decode cX11_dark 25 = .ok (.getfield 22, 3) := by decide +kernel
theorem dX11_dark_28 : decode cX11_dark 28 = .ok (.ifCond .ne 5, 3) := by decide +kernel
theorem dX11_dark_31 : decode cX11_dark 31 = .ok (.iconst (-1), 1) := by decide +kernel
theorem dX11_dark_32 : decode cX11_dark 32 = .ok (.ireturn, 1) := by decide +kernel
theorem dX11_dark_33 : decode cX11_dark 33 = .ok (.iconst 0, 1) := by decide +kernel
theorem dX11_dark_34 : decode cX11_dark 34 = .ok (.istore_n 3, 1) := by decide +kernel
theorem dX11_dark_35 : decode cX11_dark 35 = .ok (.iconst (-1), 1) := by decide +kernel
theorem dX11_dark_36 : decode cX11_dark 36 = .ok (.istore 4, 2) := by decide +kernel
theorem dX11_dark_38 : decode cX11_dark 38 = .ok (.iconst (-1), 1) := by decide +kernel
theorem dX11_dark_39 : decode cX11_dark 39 = .ok (.istore 5, 2) := by decide +kernel
theorem dX11_dark_41 : decode cX11_dark 41 = .ok (.iconst 0, 1) := by decide +kernel
theorem dX11_dark_42 : decode cX11_dark 42 = .ok (.istore 6, 2) := by decide +kernel
theorem dX11_dark_44 : decode cX11_dark 44 = .ok (.iload_n 2, 1) := by decide +kernel
theorem dX11_dark_45 : decode cX11_dark 45 = .ok (.istore 7, 2) := by decide +kernel
theorem dX11_dark_47 : decode cX11_dark 47 = .ok (.iload 7, 2) := by decide +kernel
theorem dX11_dark_49 : decode cX11_dark 49 = .ok (.iload_n 2, 1) := by decide +kernel
theorem dX11_dark_50 : decode cX11_dark 50 = .ok (.bipush 24, 2) := by decide +kernel
theorem dX11_dark_52 : decode cX11_dark 52 = .ok (.iadd, 1) := by decide +kernel
theorem dX11_dark_53 : decode cX11_dark 53 = .ok (.if_icmp .ge 128, 3) := by decide +kernel
theorem dX11_dark_56 : decode cX11_dark 56 = .ok (.iconst 0, 1) := by decide +kernel
theorem dX11_dark_57 : decode cX11_dark 57 = .ok (.istore 8, 2) := by decide +kernel
theorem dX11_dark_59 : decode cX11_dark 59 = .ok (.iconst 0, 1) := by decide +kernel
theorem dX11_dark_60 : decode cX11_dark 60 = .ok (.istore 9, 2) := by decide +kernel
theorem dX11_dark_62 : decode cX11_dark 62 = .ok (.iload 9, 2) := by decide +kernel
theorem dX11_dark_64 : decode cX11_dark 64 = .ok (.aload_n 0, 1) := by decide +kernel
theorem dX11_dark_65 : decode cX11_dark 65 = .ok (.getfield 22, 3) := by decide +kernel
theorem dX11_dark_68 : decode cX11_dark 68 = .ok (.if_icmp .ge 47, 3) := by decide +kernel
theorem dX11_dark_71 : decode cX11_dark 71 = .ok (.iload 8, 2) := by decide +kernel
theorem dX11_dark_73 : decode cX11_dark 73 = .ok (.aload_n 0, 1) := by decide +kernel
theorem dX11_dark_74 : decode cX11_dark 74 = .ok (.getfield 47, 3) := by decide +kernel
theorem dX11_dark_77 : decode cX11_dark 77 = .ok (.iload 9, 2) := by decide +kernel
theorem dX11_dark_79 : decode cX11_dark 79 = .ok (.iaload, 1) := by decide +kernel
theorem dX11_dark_80 : decode cX11_dark 80 = .ok (.iload_n 1, 1) := by decide +kernel
theorem dX11_dark_81 : decode cX11_dark 81 = .ok (.invokestatic 137, 3) := by decide +kernel
theorem dX11_dark_84 : decode cX11_dark 84 = .ok (.ifCond .eq 18, 3) := by decide +kernel
theorem dX11_dark_87 : decode cX11_dark 87 = .ok (.aload_n 0, 1) := by decide +kernel
theorem dX11_dark_88 : decode cX11_dark 88 = .ok (.iload 9, 2) := by decide +kernel
theorem dX11_dark_90 : decode cX11_dark 90 = .ok (.iload 7, 2) := by decide +kernel
theorem dX11_dark_92 : decode cX11_dark 92 = .ok (.invokevirtual 120, 3) := by decide +kernel
theorem dX11_dark_95 : decode cX11_dark 95 = .ok (.ifCond .eq 7, 3) := by decide +kernel
theorem dX11_dark_98 : decode cX11_dark 98 = .ok (.iconst 1, 1) := by decide +kernel
theorem dX11_dark_99 : decode cX11_dark 99 = .ok (.goto 4, 3) := by decide +kernel
theorem dX11_dark_102 : decode cX11_dark 102 = .ok (.iconst 0, 1) := by decide +kernel
theorem dX11_dark_103 : decode cX11_dark 103 = .ok (.invokestatic 124, 3) := by decide +kernel
theorem dX11_dark_106 : decode cX11_dark 106 = .ok (.iadd, 1) := by decide +kernel
theorem dX11_dark_107 : decode cX11_dark 107 = .ok (.istore 8, 2) := by decide +kernel
theorem dX11_dark_109 : decode cX11_dark 109 = .ok (.iinc 9 1, 3) := by decide +kernel
theorem dX11_dark_112 : decode cX11_dark 112 = .ok (.goto (-50), 3) := by decide +kernel
theorem dX11_dark_115 : decode cX11_dark 115 = .ok (.iload_n 3, 1) := by decide +kernel
theorem dX11_dark_116 : decode cX11_dark 116 = .ok (.iload 8, 2) := by decide +kernel
theorem dX11_dark_118 : decode cX11_dark 118 = .ok (.ifCond .ne 7, 3) := by decide +kernel
theorem dX11_dark_121 : decode cX11_dark 121 = .ok (.iconst 1, 1) := by decide +kernel
theorem dX11_dark_122 : decode cX11_dark 122 = .ok (.goto 4, 3) := by decide +kernel
theorem dX11_dark_125 : decode cX11_dark 125 = .ok (.iconst 0, 1) := by decide +kernel
theorem dX11_dark_126 : decode cX11_dark 126 = .ok (.invokestatic 124, 3) := by decide +kernel
theorem dX11_dark_129 : decode cX11_dark 129 = .ok (.iadd, 1) := by decide +kernel
theorem dX11_dark_130 : decode cX11_dark 130 = .ok (.istore_n 3, 1) := by decide +kernel
theorem dX11_dark_131 : decode cX11_dark 131 = .ok (.iload 8, 2) := by decide +kernel
theorem dX11_dark_133 : decode cX11_dark 133 = .ok (.ifCond .ne 13, 3) := by decide +kernel
theorem dX11_dark_136 : decode cX11_dark 136 = .ok (.iload 4, 2) := by decide +kernel
theorem dX11_dark_138 : decode cX11_dark 138 = .ok (.ifCond .ge 8, 3) := by decide +kernel
theorem dX11_dark_141 : decode cX11_dark 141 = .ok (.iload 7, 2) := by decide +kernel
theorem dX11_dark_143 : decode cX11_dark 143 = .ok (.goto 5, 3) := by decide +kernel
theorem dX11_dark_146 : decode cX11_dark 146 = .ok (.iload 4, 2) := by decide +kernel
theorem dX11_dark_148 : decode cX11_dark 148 = .ok (.istore 4, 2) := by decide +kernel
theorem dX11_dark_150 : decode cX11_dark 150 = .ok (.iload 8, 2) := by decide +kernel
theorem dX11_dark_152 : decode cX11_dark 152 = .ok (.iload 5, 2) := by decide +kernel
theorem dX11_dark_154 : decode cX11_dark 154 = .ok (.if_icmp .le 8, 3) := by decide +kernel
theorem dX11_dark_157 : decode cX11_dark 157 = .ok (.iload 7, 2) := by decide +kernel
theorem dX11_dark_159 : decode cX11_dark 159 = .ok (.goto 5, 3) := by decide +kernel
theorem dX11_dark_162 : decode cX11_dark 162 = .ok (.iload 6, 2) := by decide +kernel
theorem dX11_dark_164 : decode cX11_dark 164 = .ok (.istore 6, 2) := by decide +kernel
theorem dX11_dark_166 : decode cX11_dark 166 = .ok (.iload 5, 2) := by decide +kernel
theorem dX11_dark_168 : decode cX11_dark 168 = .ok (.iload 8, 2) := by decide +kernel
theorem dX11_dark_170 : decode cX11_dark 170 = .ok (.invokestatic 101, 3) := by decide +kernel
theorem dX11_dark_173 : decode cX11_dark 173 = .ok (.istore 5, 2) := by decide +kernel
theorem dX11_dark_175 : decode cX11_dark 175 = .ok (.iinc 7 1, 3) := by decide +kernel
theorem dX11_dark_178 : decode cX11_dark 178 = .ok (.goto (-131), 3) := by decide +kernel
theorem dX11_dark_181 : decode cX11_dark 181 = .ok (.aload_n 0, 1) := by decide +kernel
theorem dX11_dark_182 : decode cX11_dark 182 = .ok (.iconst 0, 1) := by decide +kernel
theorem dX11_dark_183 : decode cX11_dark 183 = .ok (.putfield 11, 3) := by decide +kernel
theorem dX11_dark_186 : decode cX11_dark 186 = .ok (.aload_n 0, 1) := by decide +kernel
theorem dX11_dark_187 : decode cX11_dark 187 = .ok (.iload 4, 2) := by decide +kernel
theorem dX11_dark_189 : decode cX11_dark 189 = .ok (.i2l, 1) := by decide +kernel
theorem dX11_dark_190 : decode cX11_dark 190 = .ok (.invokevirtual 18, 3) := by decide +kernel
theorem dX11_dark_193 : decode cX11_dark 193 = .ok (.aload_n 0, 1) := by decide +kernel
theorem dX11_dark_194 : decode cX11_dark 194 = .ok (.iload 5, 2) := by decide +kernel
theorem dX11_dark_196 : decode cX11_dark 196 = .ok (.i2l, 1) := by decide +kernel
theorem dX11_dark_197 : decode cX11_dark 197 = .ok (.invokevirtual 18, 3) := by decide +kernel
theorem dX11_dark_200 : decode cX11_dark 200 = .ok (.aload_n 0, 1) := by decide +kernel
theorem dX11_dark_201 : decode cX11_dark 201 = .ok (.iload 6, 2) := by decide +kernel
theorem dX11_dark_203 : decode cX11_dark 203 = .ok (.i2l, 1) := by decide +kernel
theorem dX11_dark_204 : decode cX11_dark 204 = .ok (.invokevirtual 18, 3) := by decide +kernel
theorem dX11_dark_207 : decode cX11_dark 207 = .ok (.iload_n 3, 1) := by decide +kernel
theorem dX11_dark_208 : decode cX11_dark 208 = .ok (.ireturn, 1) := by decide +kernel
theorem dX11_putsBy_0 : decode cX11_putsBy 0 = .ok (.iconst 0, 1) := by decide +kernel
theorem dX11_putsBy_1 : decode cX11_putsBy 1 = .ok (.istore_n 2, 1) := by decide +kernel
theorem dX11_putsBy_2 : decode cX11_putsBy 2 = .ok (.iload_n 2, 1) := by decide +kernel
theorem dX11_putsBy_3 : decode cX11_putsBy 3 = .ok (.bipush 127, 2) := by decide +kernel
theorem dX11_putsBy_5 : decode cX11_putsBy 5 = .ok (.if_icmp .ge 18, 3) := by decide +kernel
theorem dX11_putsBy_8 : decode cX11_putsBy 8 = .ok (.aload_n 1, 1) := by decide +kernel
theorem dX11_putsBy_9 : decode cX11_putsBy 9 = .ok (.iload_n 2, 1) := by decide +kernel
theorem dX11_putsBy_10 : decode cX11_putsBy 10 = .ok (.aload_n 0, 1) := by decide +kernel
theorem dX11_putsBy_11 : decode cX11_putsBy 11 = .ok (.getfield 140, 3) := by decide +kernel
theorem dX11_putsBy_14 : decode cX11_putsBy 14 = .ok (.iload_n 2, 1) := by decide +kernel
theorem dX11_putsBy_15 : decode cX11_putsBy 15 = .ok (.iaload, 1) := by decide +kernel
theorem dX11_putsBy_16 : decode cX11_putsBy 16 = .ok (.iastore, 1) := by decide +kernel
theorem dX11_putsBy_17 : decode cX11_putsBy 17 = .ok (.iinc 2 1, 3) := by decide +kernel
theorem dX11_putsBy_20 : decode cX11_putsBy 20 = .ok (.goto (-18), 3) := by decide +kernel
theorem dX11_putsBy_23 : decode cX11_putsBy 23 = .ok (.return_, 1) := by decide +kernel
theorem dX11_takesBack_0 : decode cX11_takesBack 0 = .ok (.iconst 0, 1) := by decide +kernel
theorem dX11_takesBack_1 : decode cX11_takesBack 1 = .ok (.istore_n 2, 1) := by decide +kernel
theorem dX11_takesBack_2 : decode cX11_takesBack 2 = .ok (.iload_n 2, 1) := by decide +kernel
theorem dX11_takesBack_3 : decode cX11_takesBack 3 = .ok (.bipush 127, 2) := by decide +kernel
theorem dX11_takesBack_5 : decode cX11_takesBack 5 = .ok (.if_icmp .ge 18, 3) := by decide +kernel
theorem dX11_takesBack_8 : decode cX11_takesBack 8 = .ok (.aload_n 0, 1) := by decide +kernel
theorem dX11_takesBack_9 : decode cX11_takesBack 9 = .ok (.getfield 140, 3) := by decide +kernel
theorem dX11_takesBack_12 : decode cX11_takesBack 12 = .ok (.iload_n 2, 1) := by decide +kernel
theorem dX11_takesBack_13 : decode cX11_takesBack 13 = .ok (.aload_n 1, 1) := by decide +kernel
theorem dX11_takesBack_14 : decode cX11_takesBack 14 = .ok (.iload_n 2, 1) := by decide +kernel
theorem dX11_takesBack_15 : decode cX11_takesBack 15 = .ok (.iaload, 1) := by decide +kernel
theorem dX11_takesBack_16 : decode cX11_takesBack 16 = .ok (.iastore, 1) := by decide +kernel
theorem dX11_takesBack_17 : decode cX11_takesBack 17 = .ok (.iinc 2 1, 3) := by decide +kernel
theorem dX11_takesBack_20 : decode cX11_takesBack 20 = .ok (.goto (-18), 3) := by decide +kernel
theorem dX11_takesBack_23 : decode cX11_takesBack 23 = .ok (.return_, 1) := by decide +kernel
theorem dX11_lays_0 : decode cX11_lays 0 = .ok (.aload_n 0, 1) := by decide +kernel
theorem dX11_lays_1 : decode cX11_lays 1 = .ok (.getfield 140, 3) := by decide +kernel
theorem dX11_lays_4 : decode cX11_lays 4 = .ok (.iconst 3, 1) := by decide +kernel
theorem dX11_lays_5 : decode cX11_lays 5 = .ok (.iload_n 1, 1) := by decide +kernel
theorem dX11_lays_6 : decode cX11_lays 6 = .ok (.iadd, 1) := by decide +kernel
theorem dX11_lays_7 : decode cX11_lays 7 = .ok (.aload_n 0, 1) := by decide +kernel
theorem dX11_lays_8 : decode cX11_lays 8 = .ok (.getfield 143, 3) := by decide +kernel
theorem dX11_lays_11 : decode cX11_lays 11 = .ok (.iload_n 1, 1) := by decide +kernel
theorem dX11_lays_12 : decode cX11_lays 12 = .ok (.iaload, 1) := by decide +kernel
theorem dX11_lays_13 : decode cX11_lays 13 = .ok (.iastore, 1) := by decide +kernel
theorem dX11_lays_14 : decode cX11_lays 14 = .ok (.aload_n 0, 1) := by decide +kernel
theorem dX11_lays_15 : decode cX11_lays 15 = .ok (.getfield 140, 3) := by decide +kernel
theorem dX11_lays_18 : decode cX11_lays 18 = .ok (.bipush 11, 2) := by decide +kernel
theorem dX11_lays_20 : decode cX11_lays 20 = .ok (.iload_n 1, 1) := by decide +kernel
theorem dX11_lays_21 : decode cX11_lays 21 = .ok (.iadd, 1) := by decide +kernel
theorem dX11_lays_22 : decode cX11_lays 22 = .ok (.aload_n 0, 1) := by decide +kernel
theorem dX11_lays_23 : decode cX11_lays 23 = .ok (.getfield 146, 3) := by decide +kernel
theorem dX11_lays_26 : decode cX11_lays 26 = .ok (.iload_n 1, 1) := by decide +kernel
theorem dX11_lays_27 : decode cX11_lays 27 = .ok (.iaload, 1) := by decide +kernel
theorem dX11_lays_28 : decode cX11_lays 28 = .ok (.iastore, 1) := by decide +kernel
theorem dX11_lays_29 : decode cX11_lays 29 = .ok (.aload_n 0, 1) := by decide +kernel
theorem dX11_lays_30 : decode cX11_lays 30 = .ok (.getfield 140, 3) := by decide +kernel
theorem dX11_lays_33 : decode cX11_lays 33 = .ok (.bipush 19, 2) := by decide +kernel
theorem dX11_lays_35 : decode cX11_lays 35 = .ok (.iload_n 1, 1) := by decide +kernel
theorem dX11_lays_36 : decode cX11_lays 36 = .ok (.iadd, 1) := by decide +kernel
theorem dX11_lays_37 : decode cX11_lays 37 = .ok (.iconst 0, 1) := by decide +kernel
theorem dX11_lays_38 : decode cX11_lays 38 = .ok (.iastore, 1) := by decide +kernel
theorem dX11_lays_39 : decode cX11_lays 39 = .ok (.aload_n 0, 1) := by decide +kernel
theorem dX11_lays_40 : decode cX11_lays 40 = .ok (.getfield 140, 3) := by decide +kernel
theorem dX11_lays_43 : decode cX11_lays 43 = .ok (.bipush 27, 2) := by decide +kernel
theorem dX11_lays_45 : decode cX11_lays 45 = .ok (.iload_n 1, 1) := by decide +kernel
theorem dX11_lays_46 : decode cX11_lays 46 = .ok (.iadd, 1) := by decide +kernel
theorem dX11_lays_47 : decode cX11_lays 47 = .ok (.iconst 0, 1) := by decide +kernel
theorem dX11_lays_48 : decode cX11_lays 48 = .ok (.iastore, 1) := by decide +kernel
theorem dX11_lays_49 : decode cX11_lays 49 = .ok (.aload_n 0, 1) := by decide +kernel
theorem dX11_lays_50 : decode cX11_lays 50 = .ok (.getfield 140, 3) := by decide +kernel
theorem dX11_lays_53 : decode cX11_lays 53 = .ok (.bipush 35, 2) := by decide +kernel
theorem dX11_lays_55 : decode cX11_lays 55 = .ok (.iload_n 1, 1) := by decide +kernel
theorem dX11_lays_56 : decode cX11_lays 56 = .ok (.iadd, 1) := by decide +kernel
theorem dX11_lays_57 : decode cX11_lays 57 = .ok (.iconst (-1), 1) := by decide +kernel
theorem dX11_lays_58 : decode cX11_lays 58 = .ok (.iastore, 1) := by decide +kernel
theorem dX11_lays_59 : decode cX11_lays 59 = .ok (.aload_n 0, 1) := by decide +kernel
theorem dX11_lays_60 : decode cX11_lays 60 = .ok (.getfield 140, 3) := by decide +kernel
theorem dX11_lays_63 : decode cX11_lays 63 = .ok (.bipush 43, 2) := by decide +kernel
theorem dX11_lays_65 : decode cX11_lays 65 = .ok (.iload_n 1, 1) := by decide +kernel
theorem dX11_lays_66 : decode cX11_lays 66 = .ok (.iadd, 1) := by decide +kernel
theorem dX11_lays_67 : decode cX11_lays 67 = .ok (.iconst 0, 1) := by decide +kernel
theorem dX11_lays_68 : decode cX11_lays 68 = .ok (.iastore, 1) := by decide +kernel
theorem dX11_lays_69 : decode cX11_lays 69 = .ok (.aload_n 0, 1) := by decide +kernel
theorem dX11_lays_70 : decode cX11_lays 70 = .ok (.getfield 140, 3) := by decide +kernel
theorem dX11_lays_73 : decode cX11_lays 73 = .ok (.bipush 51, 2) := by decide +kernel
theorem dX11_lays_75 : decode cX11_lays 75 = .ok (.iload_n 1, 1) := by decide +kernel
theorem dX11_lays_76 : decode cX11_lays 76 = .ok (.iadd, 1) := by decide +kernel
theorem dX11_lays_77 : decode cX11_lays 77 = .ok (.iconst 0, 1) := by decide +kernel
theorem dX11_lays_78 : decode cX11_lays 78 = .ok (.iastore, 1) := by decide +kernel
theorem dX11_lays_79 : decode cX11_lays 79 = .ok (.aload_n 0, 1) := by decide +kernel
theorem dX11_lays_80 : decode cX11_lays 80 = .ok (.getfield 140, 3) := by decide +kernel
theorem dX11_lays_83 : decode cX11_lays 83 = .ok (.bipush 59, 2) := by decide +kernel
theorem dX11_lays_85 : decode cX11_lays 85 = .ok (.iload_n 1, 1) := by decide +kernel
theorem dX11_lays_86 : decode cX11_lays 86 = .ok (.iadd, 1) := by decide +kernel
theorem dX11_lays_87 : decode cX11_lays 87 = .ok (.iconst 0, 1) := by decide +kernel
theorem dX11_lays_88 : decode cX11_lays 88 = .ok (.iastore, 1) := by decide +kernel
theorem dX11_lays_89 : decode cX11_lays 89 = .ok (.return_, 1) := by decide +kernel
theorem dX11_piece_0 : decode cX11_piece 0 = .ok (.aload_n 0, 1) := by decide +kernel
theorem dX11_piece_1 : decode cX11_piece 1 = .ok (.iconst 0, 1) := by decide +kernel
theorem dX11_piece_2 : decode cX11_piece 2 = .ok (.putfield 3, 3) := by decide +kernel
theorem dX11_piece_5 : decode cX11_piece 5 = .ok (.iload_n 1, 1) := by decide +kernel
theorem dX11_piece_6 : decode cX11_piece 6 = .ok (.ifCond .lt 61, 3) := by decide +kernel
theorem dX11_piece_9 : decode cX11_piece 9 = .ok (.iload_n 1, 1) := by decide +kernel
theorem dX11_piece_10 : decode cX11_piece 10 = .ok (.bipush 6, 2) := by decide +kernel
theorem dX11_piece_12 : decode cX11_piece 12 = .ok (.idiv, 1) := by decide +kernel
theorem dX11_piece_13 : decode cX11_piece 13 = .ok (.i2l, 1) := by decide +kernel
theorem dX11_piece_14 : decode cX11_piece 14 = .ok (.lconst 1, 1) := by decide +kernel
theorem dX11_piece_15 : decode cX11_piece 15 = .ok (.ldc2_w 149, 3) := by decide +kernel
theorem dX11_piece_18 : decode cX11_piece 18 = .ok (.invokestatic 25, 3) := by decide +kernel
theorem dX11_piece_21 : decode cX11_piece 21 = .ok (.ifCond .eq 46, 3) := by decide +kernel
theorem dX11_piece_24 : decode cX11_piece 24 = .ok (.iload_n 2, 1) := by decide +kernel
theorem dX11_piece_25 : decode cX11_piece 25 = .ok (.i2l, 1) := by decide +kernel
theorem dX11_piece_26 : decode cX11_piece 26 = .ok (.lconst 1, 1) := by decide +kernel
theorem dX11_piece_27 : decode cX11_piece 27 = .ok (.ldc2_w 149, 3) := by decide +kernel
theorem dX11_piece_30 : decode cX11_piece 30 = .ok (.invokestatic 25, 3) := by decide +kernel
theorem dX11_piece_33 : decode cX11_piece 33 = .ok (.ifCond .eq 34, 3) := by decide +kernel
theorem dX11_piece_36 : decode cX11_piece 36 = .ok (.iload_n 3, 1) := by decide +kernel
theorem dX11_piece_37 : decode cX11_piece 37 = .ok (.i2l, 1) := by decide +kernel
theorem dX11_piece_38 : decode cX11_piece 38 = .ok (.lconst 0, 1) := by decide +kernel
theorem dX11_piece_39 : decode cX11_piece 39 = .ok (.iconst 1, 1) := by decide +kernel
theorem dX11_piece_40 : decode cX11_piece 40 = .ok (.aload_n 0, 1) := by decide +kernel
theorem dX11_piece_41 : decode cX11_piece 41 = .ok (.getfield 151, 3) := by decide +kernel
theorem dX11_piece_44 : decode cX11_piece 44 = .ok (.ishl, 1) := by decide +kernel
theorem dX11_piece_45 : decode cX11_piece 45 = .ok (.iconst 1, 1) := by decide +kernel
theorem dX11_piece_46 : decode cX11_piece 46 = .ok (.isub, 1) := by decide +kernel
theorem dX11_piece_47 : decode cX11_piece 47 = .ok (.i2l, 1) := by decide +kernel
theorem dX11_piece_48 : decode cX11_piece 48 = .ok (.invokestatic 25, 3) := by decide +kernel
theorem dX11_piece_51 : decode cX11_piece 51 = .ok (.ifCond .eq 16, 3) := by decide +kernel
theorem dX11_piece_54 : decode cX11_piece 54 = .ok (.aload_n 0, 1) := by decide +kernel
theorem dX11_piece_55 : decode cX11_piece 55 = .ok (.iload 4, 2) := by decide +kernel
theorem dX11_piece_57 : decode cX11_piece 57 = .ok (.invokevirtual 77, 3) := by decide +kernel
theorem dX11_piece_60 : decode cX11_piece 60 = .ok (.ifCond .eq 7, 3) := by decide +kernel
theorem dX11_piece_63 : decode cX11_piece 63 = .ok (.iconst 1, 1) := by decide +kernel
theorem dX11_piece_64 : decode cX11_piece 64 = .ok (.goto 4, 3) := by decide +kernel
theorem dX11_piece_67 : decode cX11_piece 67 = .ok (.iconst 0, 1) := by decide +kernel
theorem dX11_piece_68 : decode cX11_piece 68 = .ok (.istore 6, 2) := by decide +kernel
theorem dX11_piece_70 : decode cX11_piece 70 = .ok (.iload 6, 2) := by decide +kernel
theorem dX11_piece_72 : decode cX11_piece 72 = .ok (.ifCond .eq 27, 3) := by decide +kernel
theorem dX11_piece_75 : decode cX11_piece 75 = .ok (.iload 5, 2) := by decide +kernel
theorem dX11_piece_77 : decode cX11_piece 77 = .ok (.iconst (-1), 1) := by decide +kernel
theorem dX11_piece_78 : decode cX11_piece 78 = .ok (.if_icmp .eq 12, 3) := by decide +kernel
theorem dX11_piece_81 : decode cX11_piece 81 = .ok (.aload_n 0, 1) := by decide +kernel
theorem dX11_piece_82 : decode cX11_piece 82 = .ok (.iload 5, 2) := by decide +kernel
theorem dX11_piece_84 : decode cX11_piece 84 = .ok (.invokevirtual 77, 3) := by decide +kernel
theorem dX11_piece_87 : decode cX11_piece 87 = .ok (.ifCond .eq 12, 3) := by decide +kernel
theorem dX11_piece_90 : decode cX11_piece 90 = .ok (.aload_n 0, 1) := by decide +kernel
theorem dX11_piece_91 : decode cX11_piece 91 = .ok (.getfield 151, 3) := by decide +kernel
theorem dX11_piece_94 : decode cX11_piece 94 = .ok (.bipush 8, 2) := by decide +kernel
theorem dX11_piece_96 : decode cX11_piece 96 = .ok (.if_icmp .ne 5, 3) := by decide +kernel
theorem dX11_piece_99 : decode cX11_piece 99 = .ok (.iconst (-1), 1) := by decide +kernel
theorem dX11_piece_100 : decode cX11_piece 100 = .ok (.ireturn, 1) := by decide +kernel
theorem dX11_piece_101 : decode cX11_piece 101 = .ok (.aload_n 0, 1) := by decide +kernel
theorem dX11_piece_102 : decode cX11_piece 102 = .ok (.getfield 154, 3) := by decide +kernel
theorem dX11_piece_105 : decode cX11_piece 105 = .ok (.aload_n 0, 1) := by decide +kernel
theorem dX11_piece_106 : decode cX11_piece 106 = .ok (.getfield 151, 3) := by decide +kernel
theorem dX11_piece_109 : decode cX11_piece 109 = .ok (.iload_n 1, 1) := by decide +kernel
theorem dX11_piece_110 : decode cX11_piece 110 = .ok (.bipush 6, 2) := by decide +kernel
theorem dX11_piece_112 : decode cX11_piece 112 = .ok (.irem, 1) := by decide +kernel
theorem dX11_piece_113 : decode cX11_piece 113 = .ok (.iastore, 1) := by decide +kernel
theorem dX11_piece_114 : decode cX11_piece 114 = .ok (.aload_n 0, 1) := by decide +kernel
theorem dX11_piece_115 : decode cX11_piece 115 = .ok (.getfield 157, 3) := by decide +kernel
theorem dX11_piece_118 : decode cX11_piece 118 = .ok (.aload_n 0, 1) := by decide +kernel
theorem dX11_piece_119 : decode cX11_piece 119 = .ok (.getfield 151, 3) := by decide +kernel
theorem dX11_piece_122 : decode cX11_piece 122 = .ok (.iload_n 1, 1) := by decide +kernel
theorem dX11_piece_123 : decode cX11_piece 123 = .ok (.bipush 6, 2) := by decide +kernel
theorem dX11_piece_125 : decode cX11_piece 125 = .ok (.idiv, 1) := by decide +kernel
theorem dX11_piece_126 : decode cX11_piece 126 = .ok (.iastore, 1) := by decide +kernel
theorem dX11_piece_127 : decode cX11_piece 127 = .ok (.aload_n 0, 1) := by decide +kernel
theorem dX11_piece_128 : decode cX11_piece 128 = .ok (.getfield 146, 3) := by decide +kernel
theorem dX11_piece_131 : decode cX11_piece 131 = .ok (.aload_n 0, 1) := by decide +kernel
theorem dX11_piece_132 : decode cX11_piece 132 = .ok (.getfield 151, 3) := by decide +kernel
theorem dX11_piece_135 : decode cX11_piece 135 = .ok (.iload_n 2, 1) := by decide +kernel
theorem dX11_piece_136 : decode cX11_piece 136 = .ok (.iastore, 1) := by decide +kernel
theorem dX11_piece_137 : decode cX11_piece 137 = .ok (.aload_n 0, 1) := by decide +kernel
theorem dX11_piece_138 : decode cX11_piece 138 = .ok (.getfield 160, 3) := by decide +kernel
theorem dX11_piece_141 : decode cX11_piece 141 = .ok (.aload_n 0, 1) := by decide +kernel
theorem dX11_piece_142 : decode cX11_piece 142 = .ok (.getfield 151, 3) := by decide +kernel
theorem dX11_piece_145 : decode cX11_piece 145 = .ok (.iload_n 3, 1) := by decide +kernel
theorem dX11_piece_146 : decode cX11_piece 146 = .ok (.iastore, 1) := by decide +kernel
theorem dX11_piece_147 : decode cX11_piece 147 = .ok (.aload_n 0, 1) := by decide +kernel
theorem dX11_piece_148 : decode cX11_piece 148 = .ok (.getfield 143, 3) := by decide +kernel
theorem dX11_piece_151 : decode cX11_piece 151 = .ok (.aload_n 0, 1) := by decide +kernel
theorem dX11_piece_152 : decode cX11_piece 152 = .ok (.getfield 151, 3) := by decide +kernel
theorem dX11_piece_155 : decode cX11_piece 155 = .ok (.iload 4, 2) := by decide +kernel
theorem dX11_piece_157 : decode cX11_piece 157 = .ok (.iastore, 1) := by decide +kernel
theorem dX11_piece_158 : decode cX11_piece 158 = .ok (.aload_n 0, 1) := by decide +kernel
theorem dX11_piece_159 : decode cX11_piece 159 = .ok (.getfield 163, 3) := by decide +kernel
theorem dX11_piece_162 : decode cX11_piece 162 = .ok (.aload_n 0, 1) := by decide +kernel
theorem dX11_piece_163 : decode cX11_piece 163 = .ok (.getfield 151, 3) := by decide +kernel
theorem dX11_piece_166 : decode cX11_piece 166 = .ok (.iload 5, 2) := by decide +kernel
theorem dX11_piece_168 : decode cX11_piece 168 = .ok (.iastore, 1) := by decide +kernel
theorem dX11_piece_169 : decode cX11_piece 169 = .ok (.aload_n 0, 1) := by decide +kernel
theorem dX11_piece_170 : decode cX11_piece 170 = .ok (.aload_n 0, 1) := by decide +kernel
theorem dX11_piece_171 : decode cX11_piece 171 = .ok (.getfield 151, 3) := by decide +kernel
theorem dX11_piece_174 : decode cX11_piece 174 = .ok (.invokevirtual 166, 3) := by decide +kernel
theorem dX11_piece_177 : decode cX11_piece 177 = .ok (.aload_n 0, 1) := by decide +kernel
theorem dX11_piece_178 : decode cX11_piece 178 = .ok (.dup, 1) := by decide +kernel
theorem dX11_piece_179 : decode cX11_piece 179 = .ok (.getfield 151, 3) := by decide +kernel
theorem dX11_piece_182 : decode cX11_piece 182 = .ok (.iconst 1, 1) := by decide +kernel
theorem dX11_piece_183 : decode cX11_piece 183 = .ok (.iadd, 1) := by decide +kernel
theorem dX11_piece_184 : decode cX11_piece 184 = .ok (.putfield 151, 3) := by decide +kernel
theorem dX11_piece_187 : decode cX11_piece 187 = .ok (.aload_n 0, 1) := by decide +kernel
theorem dX11_piece_188 : decode cX11_piece 188 = .ok (.getfield 151, 3) := by decide +kernel
theorem dX11_piece_191 : decode cX11_piece 191 = .ok (.iconst 1, 1) := by decide +kernel
theorem dX11_piece_192 : decode cX11_piece 192 = .ok (.isub, 1) := by decide +kernel
theorem dX11_piece_193 : decode cX11_piece 193 = .ok (.ireturn, 1) := by decide +kernel
theorem dX11_sign_0 : decode cX11_sign 0 = .ok (.aload_n 0, 1) := by decide +kernel
theorem dX11_sign_1 : decode cX11_sign 1 = .ok (.iconst 0, 1) := by decide +kernel
theorem dX11_sign_2 : decode cX11_sign 2 = .ok (.putfield 3, 3) := by decide +kernel
theorem dX11_sign_5 : decode cX11_sign 5 = .ok (.aload_n 0, 1) := by decide +kernel
theorem dX11_sign_6 : decode cX11_sign 6 = .ok (.getfield 170, 3) := by decide +kernel
theorem dX11_sign_9 : decode cX11_sign 9 = .ok (.bipush 56, 2) := by decide +kernel
theorem dX11_sign_11 : decode cX11_sign 11 = .ok (.if_icmp .le 5, 3) := by decide +kernel
theorem dX11_sign_14 : decode cX11_sign 14 = .ok (.iconst (-1), 1) := by decide +kernel
theorem dX11_sign_15 : decode cX11_sign 15 = .ok (.ireturn, 1) := by decide +kernel
theorem dX11_sign_16 : decode cX11_sign 16 = .ok (.iconst 0, 1) := by decide +kernel
theorem dX11_sign_17 : decode cX11_sign 17 = .ok (.istore_n 2, 1) := by decide +kernel
theorem dX11_sign_18 : decode cX11_sign 18 = .ok (.iload_n 2, 1) := by decide +kernel
theorem dX11_sign_19 : decode cX11_sign 19 = .ok (.iconst 4, 1) := by decide +kernel
theorem dX11_sign_20 : decode cX11_sign 20 = .ok (.if_icmp .ge 33, 3) := by decide +kernel
theorem dX11_sign_23 : decode cX11_sign 23 = .ok (.aload_n 0, 1) := by decide +kernel
theorem dX11_sign_24 : decode cX11_sign 24 = .ok (.getfield 173, 3) := by decide +kernel
theorem dX11_sign_27 : decode cX11_sign 27 = .ok (.aload_n 0, 1) := by decide +kernel
theorem dX11_sign_28 : decode cX11_sign 28 = .ok (.getfield 170, 3) := by decide +kernel
theorem dX11_sign_31 : decode cX11_sign 31 = .ok (.iload_n 2, 1) := by decide +kernel
theorem dX11_sign_32 : decode cX11_sign 32 = .ok (.iadd, 1) := by decide +kernel
theorem dX11_sign_33 : decode cX11_sign 33 = .ok (.iload_n 1, 1) := by decide +kernel
theorem dX11_sign_34 : decode cX11_sign 34 = .ok (.bipush 24, 2) := by decide +kernel
theorem dX11_sign_36 : decode cX11_sign 36 = .ok (.bipush 8, 2) := by decide +kernel
theorem dX11_sign_38 : decode cX11_sign 38 = .ok (.iload_n 2, 1) := by decide +kernel
theorem dX11_sign_39 : decode cX11_sign 39 = .ok (.imul, 1) := by decide +kernel
theorem dX11_sign_40 : decode cX11_sign 40 = .ok (.isub, 1) := by decide +kernel
theorem dX11_sign_41 : decode cX11_sign 41 = .ok (.ishr, 1) := by decide +kernel
theorem dX11_sign_42 : decode cX11_sign 42 = .ok (.sipush 255, 3) := by decide +kernel
theorem dX11_sign_45 : decode cX11_sign 45 = .ok (.iand, 1) := by decide +kernel
theorem dX11_sign_46 : decode cX11_sign 46 = .ok (.iastore, 1) := by decide +kernel
theorem dX11_sign_47 : decode cX11_sign 47 = .ok (.iinc 2 1, 3) := by decide +kernel
theorem dX11_sign_50 : decode cX11_sign 50 = .ok (.goto (-32), 3) := by decide +kernel
theorem dX11_sign_53 : decode cX11_sign 53 = .ok (.aload_n 0, 1) := by decide +kernel
theorem dX11_sign_54 : decode cX11_sign 54 = .ok (.dup, 1) := by decide +kernel
theorem dX11_sign_55 : decode cX11_sign 55 = .ok (.getfield 170, 3) := by decide +kernel
theorem dX11_sign_58 : decode cX11_sign 58 = .ok (.iconst 4, 1) := by decide +kernel
theorem dX11_sign_59 : decode cX11_sign 59 = .ok (.iadd, 1) := by decide +kernel
theorem dX11_sign_60 : decode cX11_sign 60 = .ok (.putfield 170, 3) := by decide +kernel
theorem dX11_sign_63 : decode cX11_sign 63 = .ok (.aload_n 0, 1) := by decide +kernel
theorem dX11_sign_64 : decode cX11_sign 64 = .ok (.getfield 170, 3) := by decide +kernel
theorem dX11_sign_67 : decode cX11_sign 67 = .ok (.ireturn, 1) := by decide +kernel
theorem dX11_end_0 : decode cX11_end 0 = .ok (.aload_n 0, 1) := by decide +kernel
theorem dX11_end_1 : decode cX11_end 1 = .ok (.iconst 0, 1) := by decide +kernel
theorem dX11_end_2 : decode cX11_end 2 = .ok (.putfield 3, 3) := by decide +kernel
theorem dX11_end_5 : decode cX11_end 5 = .ok (.iload_n 1, 1) := by decide +kernel
theorem dX11_end_6 : decode cX11_end 6 = .ok (.i2l, 1) := by decide +kernel
theorem dX11_end_7 : decode cX11_end 7 = .ok (.lconst 0, 1) := by decide +kernel
theorem dX11_end_8 : decode cX11_end 8 = .ok (.aload_n 0, 1) := by decide +kernel
theorem dX11_end_9 : decode cX11_end 9 = .ok (.getfield 170, 3) := by decide +kernel
theorem dX11_end_12 : decode cX11_end 12 = .ok (.i2l, 1) := by decide +kernel
theorem dX11_end_13 : decode cX11_end 13 = .ok (.invokestatic 25, 3) := by decide +kernel
theorem dX11_end_16 : decode cX11_end 16 = .ok (.ifCond .ne 5, 3) := by decide +kernel
theorem dX11_end_19 : decode cX11_end 19 = .ok (.iconst 0, 1) := by decide +kernel
theorem dX11_end_20 : decode cX11_end 20 = .ok (.ireturn, 1) := by decide +kernel
theorem dX11_end_21 : decode cX11_end 21 = .ok (.aload_n 0, 1) := by decide +kernel
theorem dX11_end_22 : decode cX11_end 22 = .ok (.iload_n 1, 1) := by decide +kernel
theorem dX11_end_23 : decode cX11_end 23 = .ok (.putfield 170, 3) := by decide +kernel
theorem dX11_end_26 : decode cX11_end 26 = .ok (.iconst 1, 1) := by decide +kernel
theorem dX11_end_27 : decode cX11_end 27 = .ok (.ireturn, 1) := by decide +kernel
theorem dX11_isDigit_0 : decode cX11_isDigit 0 = .ok (.aload_n 0, 1) := by decide +kernel
theorem dX11_isDigit_1 : decode cX11_isDigit 1 = .ok (.getfield 176, 3) := by decide +kernel
theorem dX11_isDigit_4 : decode cX11_isDigit 4 = .ok (.aload_n 0, 1) := by decide +kernel
theorem dX11_isDigit_5 : decode cX11_isDigit 5 = .ok (.getfield 179, 3) := by decide +kernel
theorem dX11_isDigit_8 : decode cX11_isDigit 8 = .ok (.if_icmp .ge 29, 3) := by decide +kernel
theorem dX11_isDigit_11 : decode cX11_isDigit 11 = .ok (.aload_n 0, 1) := by decide +kernel
theorem dX11_isDigit_12 : decode cX11_isDigit 12 = .ok (.getfield 173, 3) := by decide +kernel
theorem dX11_isDigit_15 : decode cX11_isDigit 15 = .ok (.aload_n 0, 1) := by decide +kernel
theorem dX11_isDigit_16 : decode cX11_isDigit 16 = .ok (.getfield 176, 3) := by decide +kernel
theorem dX11_isDigit_19 : decode cX11_isDigit 19 = .ok (.iaload, 1) := by decide +kernel
theorem dX11_isDigit_20 : decode cX11_isDigit 20 = .ok (.i2l, 1) := by decide +kernel
theorem dX11_isDigit_21 : decode cX11_isDigit 21 = .ok (.ldc2_w 182, 3) := by decide +kernel
theorem dX11_isDigit_24 : decode cX11_isDigit 24 = .ok (.ldc2_w 184, 3) := by decide +kernel
theorem dX11_isDigit_27 : decode cX11_isDigit 27 = .ok (.invokestatic 25, 3) := by decide +kernel
theorem dX11_isDigit_30 : decode cX11_isDigit 30 = .ok (.ifCond .eq 7, 3) := by decide +kernel
theorem dX11_isDigit_33 : decode cX11_isDigit 33 = .ok (.iconst 1, 1) := by decide +kernel
theorem dX11_isDigit_34 : decode cX11_isDigit 34 = .ok (.goto 4, 3) := by decide +kernel
theorem dX11_isDigit_37 : decode cX11_isDigit 37 = .ok (.iconst 0, 1) := by decide +kernel
theorem dX11_isDigit_38 : decode cX11_isDigit 38 = .ok (.ireturn, 1) := by decide +kernel
theorem dX11_marks_0 : decode cX11_marks 0 = .ok (.aload_n 0, 1) := by decide +kernel
theorem dX11_marks_1 : decode cX11_marks 1 = .ok (.getfield 196, 3) := by decide +kernel
theorem dX11_marks_4 : decode cX11_marks 4 = .ok (.bipush 48, 2) := by decide +kernel
theorem dX11_marks_6 : decode cX11_marks 6 = .ok (.aload_n 0, 1) := by decide +kernel
theorem dX11_marks_7 : decode cX11_marks 7 = .ok (.getfield 199, 3) := by decide +kernel
theorem dX11_marks_10 : decode cX11_marks 10 = .ok (.iconst 1, 1) := by decide +kernel
theorem dX11_marks_11 : decode cX11_marks 11 = .ok (.iaload, 1) := by decide +kernel
theorem dX11_marks_12 : decode cX11_marks 12 = .ok (.iadd, 1) := by decide +kernel
theorem dX11_marks_13 : decode cX11_marks 13 = .ok (.iload_n 1, 1) := by decide +kernel
theorem dX11_marks_14 : decode cX11_marks 14 = .ok (.iastore, 1) := by decide +kernel
theorem dX11_marks_15 : decode cX11_marks 15 = .ok (.aload_n 0, 1) := by decide +kernel
theorem dX11_marks_16 : decode cX11_marks 16 = .ok (.getfield 199, 3) := by decide +kernel
theorem dX11_marks_19 : decode cX11_marks 19 = .ok (.iconst 1, 1) := by decide +kernel
theorem dX11_marks_20 : decode cX11_marks 20 = .ok (.dup2, 1) := by decide +kernel
theorem dX11_marks_21 : decode cX11_marks 21 = .ok (.iaload, 1) := by decide +kernel
theorem dX11_marks_22 : decode cX11_marks 22 = .ok (.iconst 1, 1) := by decide +kernel
theorem dX11_marks_23 : decode cX11_marks 23 = .ok (.iadd, 1) := by decide +kernel
theorem dX11_marks_24 : decode cX11_marks 24 = .ok (.iastore, 1) := by decide +kernel
theorem dX11_marks_25 : decode cX11_marks 25 = .ok (.return_, 1) := by decide +kernel
theorem dX11_opensIn_0 : decode cX11_opensIn 0 = .ok (.iconst 0, 1) := by decide +kernel
theorem dX11_opensIn_1 : decode cX11_opensIn 1 = .ok (.istore_n 3, 1) := by decide +kernel
theorem dX11_opensIn_2 : decode cX11_opensIn 2 = .ok (.iload_n 3, 1) := by decide +kernel
theorem dX11_opensIn_3 : decode cX11_opensIn 3 = .ok (.bipush 99, 2) := by decide +kernel
theorem dX11_opensIn_5 : decode cX11_opensIn 5 = .ok (.if_icmp .ge 20, 3) := by decide +kernel
theorem dX11_opensIn_8 : decode cX11_opensIn 8 = .ok (.aload_n 0, 1) := by decide +kernel
theorem dX11_opensIn_9 : decode cX11_opensIn 9 = .ok (.iload_n 1, 1) := by decide +kernel
theorem dX11_opensIn_10 : decode cX11_opensIn 10 = .ok (.iload_n 2, 1) := by decide +kernel
theorem dX11_opensIn_11 : decode cX11_opensIn 11 = .ok (.iload_n 3, 1) := by decide +kernel
theorem dX11_opensIn_12 : decode cX11_opensIn 12 = .ok (.iadd, 1) := by decide +kernel
theorem dX11_opensIn_13 : decode cX11_opensIn 13 = .ok (.invokevirtual 120, 3) := by decide +kernel
theorem dX11_opensIn_16 : decode cX11_opensIn 16 = .ok (.ifCond .ne 9, 3) := by decide +kernel
theorem dX11_opensIn_19 : decode cX11_opensIn 19 = .ok (.iinc 3 1, 3) := by decide +kernel
theorem dX11_opensIn_22 : decode cX11_opensIn 22 = .ok (.goto (-20), 3) := by decide +kernel
theorem dX11_opensIn_25 : decode cX11_opensIn 25 = .ok (.iload_n 3, 1) := by decide +kernel
theorem dX11_opensIn_26 : decode cX11_opensIn 26 = .ok (.ireturn, 1) := by decide +kernel
theorem dX11_valueOf_0 : decode cX11_valueOf 0 = .ok (.aload_n 0, 1) := by decide +kernel
theorem dX11_valueOf_1 : decode cX11_valueOf 1 = .ok (.getfield 140, 3) := by decide +kernel
theorem dX11_valueOf_4 : decode cX11_valueOf 4 = .ok (.iconst 3, 1) := by decide +kernel
theorem dX11_valueOf_5 : decode cX11_valueOf 5 = .ok (.iload_n 2, 1) := by decide +kernel
theorem dX11_valueOf_6 : decode cX11_valueOf 6 = .ok (.iadd, 1) := by decide +kernel
theorem dX11_valueOf_7 : decode cX11_valueOf 7 = .ok (.iaload, 1) := by decide +kernel
theorem dX11_valueOf_8 : decode cX11_valueOf 8 = .ok (.istore 5, 2) := by decide +kernel
theorem dX11_valueOf_10 : decode cX11_valueOf 10 = .ok (.iload_n 1, 1) := by decide +kernel
theorem dX11_valueOf_11 : decode cX11_valueOf 11 = .ok (.tableswitch 198 0 10 #[57, 70, 80, 90, 101, 109, 128, 143, 162, 181, 188], 57) := by decide +kernel
theorem dX11_valueOf_68 : decode cX11_valueOf 68 = .ok (.aload_n 0, 1) := by decide +kernel
theorem dX11_valueOf_69 : decode cX11_valueOf 69 = .ok (.getfield 60, 3) := by decide +kernel
theorem dX11_valueOf_72 : decode cX11_valueOf 72 = .ok (.bipush 6, 2) := by decide +kernel
theorem dX11_valueOf_74 : decode cX11_valueOf 74 = .ok (.iload 5, 2) := by decide +kernel
theorem dX11_valueOf_76 : decode cX11_valueOf 76 = .ok (.imul, 1) := by decide +kernel
theorem dX11_valueOf_77 : decode cX11_valueOf 77 = .ok (.iload_n 3, 1) := by decide +kernel
theorem dX11_valueOf_78 : decode cX11_valueOf 78 = .ok (.iadd, 1) := by decide +kernel
theorem dX11_valueOf_79 : decode cX11_valueOf 79 = .ok (.iaload, 1) := by decide +kernel
theorem dX11_valueOf_80 : decode cX11_valueOf 80 = .ok (.ireturn, 1) := by decide +kernel
theorem dX11_valueOf_81 : decode cX11_valueOf 81 = .ok (.aload_n 0, 1) := by decide +kernel
theorem dX11_valueOf_82 : decode cX11_valueOf 82 = .ok (.iload 5, 2) := by decide +kernel
theorem dX11_valueOf_84 : decode cX11_valueOf 84 = .ok (.iload_n 3, 1) := by decide +kernel
theorem dX11_valueOf_85 : decode cX11_valueOf 85 = .ok (.iload 4, 2) := by decide +kernel
theorem dX11_valueOf_87 : decode cX11_valueOf 87 = .ok (.invokevirtual 132, 3) := by decide +kernel
theorem dX11_valueOf_90 : decode cX11_valueOf 90 = .ok (.ireturn, 1) := by decide +kernel
theorem dX11_valueOf_91 : decode cX11_valueOf 91 = .ok (.aload_n 0, 1) := by decide +kernel
theorem dX11_valueOf_92 : decode cX11_valueOf 92 = .ok (.iload 5, 2) := by decide +kernel
theorem dX11_valueOf_94 : decode cX11_valueOf 94 = .ok (.iload_n 3, 1) := by decide +kernel
theorem dX11_valueOf_95 : decode cX11_valueOf 95 = .ok (.iload 4, 2) := by decide +kernel
theorem dX11_valueOf_97 : decode cX11_valueOf 97 = .ok (.invokevirtual 128, 3) := by decide +kernel
theorem dX11_valueOf_100 : decode cX11_valueOf 100 = .ok (.ireturn, 1) := by decide +kernel
theorem dX11_valueOf_101 : decode cX11_valueOf 101 = .ok (.aload_n 0, 1) := by decide +kernel
theorem dX11_valueOf_102 : decode cX11_valueOf 102 = .ok (.iload_n 3, 1) := by decide +kernel
theorem dX11_valueOf_103 : decode cX11_valueOf 103 = .ok (.iload 4, 2) := by decide +kernel
theorem dX11_valueOf_105 : decode cX11_valueOf 105 = .ok (.invokevirtual 120, 3) := by decide +kernel
theorem dX11_valueOf_108 : decode cX11_valueOf 108 = .ok (.invokestatic 124, 3) := by decide +kernel
theorem dX11_valueOf_111 : decode cX11_valueOf 111 = .ok (.ireturn, 1) := by decide +kernel
theorem dX11_valueOf_112 : decode cX11_valueOf 112 = .ok (.aload_n 0, 1) := by decide +kernel
theorem dX11_valueOf_113 : decode cX11_valueOf 113 = .ok (.iload_n 3, 1) := by decide +kernel
theorem dX11_valueOf_114 : decode cX11_valueOf 114 = .ok (.iload 4, 2) := by decide +kernel
theorem dX11_valueOf_116 : decode cX11_valueOf 116 = .ok (.invokevirtual 243, 3) := by decide +kernel
theorem dX11_valueOf_119 : decode cX11_valueOf 119 = .ok (.ireturn, 1) := by decide +kernel
theorem dX11_valueOf_120 : decode cX11_valueOf 120 = .ok (.aload_n 0, 1) := by decide +kernel
theorem dX11_valueOf_121 : decode cX11_valueOf 121 = .ok (.getfield 47, 3) := by decide +kernel
theorem dX11_valueOf_124 : decode cX11_valueOf 124 = .ok (.iload_n 3, 1) := by decide +kernel
theorem dX11_valueOf_125 : decode cX11_valueOf 125 = .ok (.iaload, 1) := by decide +kernel
theorem dX11_valueOf_126 : decode cX11_valueOf 126 = .ok (.aload_n 0, 1) := by decide +kernel
theorem dX11_valueOf_127 : decode cX11_valueOf 127 = .ok (.getfield 154, 3) := by decide +kernel
theorem dX11_valueOf_130 : decode cX11_valueOf 130 = .ok (.iload_n 2, 1) := by decide +kernel
theorem dX11_valueOf_131 : decode cX11_valueOf 131 = .ok (.iaload, 1) := by decide +kernel
theorem dX11_valueOf_132 : decode cX11_valueOf 132 = .ok (.invokestatic 137, 3) := by decide +kernel
theorem dX11_valueOf_135 : decode cX11_valueOf 135 = .ok (.invokestatic 124, 3) := by decide +kernel
theorem dX11_valueOf_138 : decode cX11_valueOf 138 = .ok (.ireturn, 1) := by decide +kernel
theorem dX11_valueOf_139 : decode cX11_valueOf 139 = .ok (.iload 5, 2) := by decide +kernel
theorem dX11_valueOf_141 : decode cX11_valueOf 141 = .ok (.iload_n 3, 1) := by decide +kernel
theorem dX11_valueOf_142 : decode cX11_valueOf 142 = .ok (.if_icmp .ne 7, 3) := by decide +kernel
theorem dX11_valueOf_145 : decode cX11_valueOf 145 = .ok (.iconst 1, 1) := by decide +kernel
theorem dX11_valueOf_146 : decode cX11_valueOf 146 = .ok (.goto 4, 3) := by decide +kernel
theorem dX11_valueOf_149 : decode cX11_valueOf 149 = .ok (.iconst 0, 1) := by decide +kernel
theorem dX11_valueOf_150 : decode cX11_valueOf 150 = .ok (.invokestatic 124, 3) := by decide +kernel
theorem dX11_valueOf_153 : decode cX11_valueOf 153 = .ok (.ireturn, 1) := by decide +kernel
theorem dX11_valueOf_154 : decode cX11_valueOf 154 = .ok (.aload_n 0, 1) := by decide +kernel
theorem dX11_valueOf_155 : decode cX11_valueOf 155 = .ok (.getfield 143, 3) := by decide +kernel
theorem dX11_valueOf_158 : decode cX11_valueOf 158 = .ok (.iload_n 2, 1) := by decide +kernel
theorem dX11_valueOf_159 : decode cX11_valueOf 159 = .ok (.iaload, 1) := by decide +kernel
theorem dX11_valueOf_160 : decode cX11_valueOf 160 = .ok (.iload_n 3, 1) := by decide +kernel
theorem dX11_valueOf_161 : decode cX11_valueOf 161 = .ok (.if_icmp .ne 7, 3) := by decide +kernel
theorem dX11_valueOf_164 : decode cX11_valueOf 164 = .ok (.iconst 1, 1) := by decide +kernel
theorem dX11_valueOf_165 : decode cX11_valueOf 165 = .ok (.goto 4, 3) := by decide +kernel
theorem dX11_valueOf_168 : decode cX11_valueOf 168 = .ok (.iconst 0, 1) := by decide +kernel
theorem dX11_valueOf_169 : decode cX11_valueOf 169 = .ok (.invokestatic 124, 3) := by decide +kernel
theorem dX11_valueOf_172 : decode cX11_valueOf 172 = .ok (.ireturn, 1) := by decide +kernel
theorem dX11_valueOf_173 : decode cX11_valueOf 173 = .ok (.aload_n 0, 1) := by decide +kernel
theorem dX11_valueOf_174 : decode cX11_valueOf 174 = .ok (.getfield 163, 3) := by decide +kernel
theorem dX11_valueOf_177 : decode cX11_valueOf 177 = .ok (.iload_n 2, 1) := by decide +kernel
theorem dX11_valueOf_178 : decode cX11_valueOf 178 = .ok (.iaload, 1) := by decide +kernel
theorem dX11_valueOf_179 : decode cX11_valueOf 179 = .ok (.iload_n 3, 1) := by decide +kernel
theorem dX11_valueOf_180 : decode cX11_valueOf 180 = .ok (.if_icmp .ne 7, 3) := by decide +kernel
theorem dX11_valueOf_183 : decode cX11_valueOf 183 = .ok (.iconst 1, 1) := by decide +kernel
theorem dX11_valueOf_184 : decode cX11_valueOf 184 = .ok (.goto 4, 3) := by decide +kernel
theorem dX11_valueOf_187 : decode cX11_valueOf 187 = .ok (.iconst 0, 1) := by decide +kernel
theorem dX11_valueOf_188 : decode cX11_valueOf 188 = .ok (.invokestatic 124, 3) := by decide +kernel
theorem dX11_valueOf_191 : decode cX11_valueOf 191 = .ok (.ireturn, 1) := by decide +kernel
theorem dX11_valueOf_192 : decode cX11_valueOf 192 = .ok (.aload_n 0, 1) := by decide +kernel
theorem dX11_valueOf_193 : decode cX11_valueOf 193 = .ok (.getfield 41, 3) := by decide +kernel
theorem dX11_valueOf_196 : decode cX11_valueOf 196 = .ok (.iload_n 3, 1) := by decide +kernel
theorem dX11_valueOf_197 : decode cX11_valueOf 197 = .ok (.iaload, 1) := by decide +kernel
theorem dX11_valueOf_198 : decode cX11_valueOf 198 = .ok (.ireturn, 1) := by decide +kernel
theorem dX11_valueOf_199 : decode cX11_valueOf 199 = .ok (.aload_n 0, 1) := by decide +kernel
theorem dX11_valueOf_200 : decode cX11_valueOf 200 = .ok (.getfield 140, 3) := by decide +kernel
theorem dX11_valueOf_203 : decode cX11_valueOf 203 = .ok (.bipush 11, 2) := by decide +kernel
theorem dX11_valueOf_205 : decode cX11_valueOf 205 = .ok (.iload_n 2, 1) := by decide +kernel
theorem dX11_valueOf_206 : decode cX11_valueOf 206 = .ok (.iadd, 1) := by decide +kernel
theorem dX11_valueOf_207 : decode cX11_valueOf 207 = .ok (.iaload, 1) := by decide +kernel
theorem dX11_valueOf_208 : decode cX11_valueOf 208 = .ok (.ireturn, 1) := by decide +kernel
theorem dX11_valueOf_209 : decode cX11_valueOf 209 = .ok (.iload_n 3, 1) := by decide +kernel
theorem dX11_valueOf_210 : decode cX11_valueOf 210 = .ok (.ireturn, 1) := by decide +kernel
theorem dX11_acted_0 : decode cX11_acted 0 = .ok (.iload_n 0, 1) := by decide +kernel
theorem dX11_acted_1 : decode cX11_acted 1 = .ok (.tableswitch 186 38 62 #[169, 186, 186, 186, 123, 115, 186, 119, 186, 186, 186, 186, 186, 186, 186, 186, 186, 186, 186, 186, 186, 186, 127, 155, 141], 115) := by decide +kernel
theorem dX11_acted_116 : decode cX11_acted 116 = .ok (.iload_n 1, 1) := by decide +kernel
theorem dX11_acted_117 : decode cX11_acted 117 = .ok (.iload_n 2, 1) := by decide +kernel
theorem dX11_acted_118 : decode cX11_acted 118 = .ok (.iadd, 1) := by decide +kernel
theorem dX11_acted_119 : decode cX11_acted 119 = .ok (.ireturn, 1) := by decide +kernel
theorem dX11_acted_120 : decode cX11_acted 120 = .ok (.iload_n 1, 1) := by decide +kernel
theorem dX11_acted_121 : decode cX11_acted 121 = .ok (.iload_n 2, 1) := by decide +kernel
theorem dX11_acted_122 : decode cX11_acted 122 = .ok (.isub, 1) := by decide +kernel
theorem dX11_acted_123 : decode cX11_acted 123 = .ok (.ireturn, 1) := by decide +kernel
theorem dX11_acted_124 : decode cX11_acted 124 = .ok (.iload_n 1, 1) := by decide +kernel
theorem dX11_acted_125 : decode cX11_acted 125 = .ok (.iload_n 2, 1) := by decide +kernel
theorem dX11_acted_126 : decode cX11_acted 126 = .ok (.imul, 1) := by decide +kernel
theorem dX11_acted_127 : decode cX11_acted 127 = .ok (.ireturn, 1) := by decide +kernel
theorem dX11_acted_128 : decode cX11_acted 128 = .ok (.iload_n 1, 1) := by decide +kernel
theorem dX11_acted_129 : decode cX11_acted 129 = .ok (.iload_n 2, 1) := by decide +kernel
theorem dX11_acted_130 : decode cX11_acted 130 = .ok (.if_icmp .ge 7, 3) := by decide +kernel
theorem dX11_acted_133 : decode cX11_acted 133 = .ok (.iconst 1, 1) := by decide +kernel
theorem dX11_acted_134 : decode cX11_acted 134 = .ok (.goto 4, 3) := by decide +kernel
theorem dX11_acted_137 : decode cX11_acted 137 = .ok (.iconst 0, 1) := by decide +kernel
theorem dX11_acted_138 : decode cX11_acted 138 = .ok (.invokestatic 124, 3) := by decide +kernel
theorem dX11_acted_141 : decode cX11_acted 141 = .ok (.ireturn, 1) := by decide +kernel
theorem dX11_acted_142 : decode cX11_acted 142 = .ok (.iload_n 1, 1) := by decide +kernel
theorem dX11_acted_143 : decode cX11_acted 143 = .ok (.iload_n 2, 1) := by decide +kernel
theorem dX11_acted_144 : decode cX11_acted 144 = .ok (.if_icmp .le 7, 3) := by decide +kernel
theorem dX11_acted_147 : decode cX11_acted 147 = .ok (.iconst 1, 1) := by decide +kernel
theorem dX11_acted_148 : decode cX11_acted 148 = .ok (.goto 4, 3) := by decide +kernel
theorem dX11_acted_151 : decode cX11_acted 151 = .ok (.iconst 0, 1) := by decide +kernel
theorem dX11_acted_152 : decode cX11_acted 152 = .ok (.invokestatic 124, 3) := by decide +kernel
theorem dX11_acted_155 : decode cX11_acted 155 = .ok (.ireturn, 1) := by decide +kernel
theorem dX11_acted_156 : decode cX11_acted 156 = .ok (.iload_n 1, 1) := by decide +kernel
theorem dX11_acted_157 : decode cX11_acted 157 = .ok (.iload_n 2, 1) := by decide +kernel
theorem dX11_acted_158 : decode cX11_acted 158 = .ok (.if_icmp .ne 7, 3) := by decide +kernel
theorem dX11_acted_161 : decode cX11_acted 161 = .ok (.iconst 1, 1) := by decide +kernel
theorem dX11_acted_162 : decode cX11_acted 162 = .ok (.goto 4, 3) := by decide +kernel
theorem dX11_acted_165 : decode cX11_acted 165 = .ok (.iconst 0, 1) := by decide +kernel
theorem dX11_acted_166 : decode cX11_acted 166 = .ok (.invokestatic 124, 3) := by decide +kernel
theorem dX11_acted_169 : decode cX11_acted 169 = .ok (.ireturn, 1) := by decide +kernel
theorem dX11_acted_170 : decode cX11_acted 170 = .ok (.iload_n 1, 1) := by decide +kernel
theorem dX11_acted_171 : decode cX11_acted 171 = .ok (.ifCond .eq 11, 3) := by decide +kernel
theorem dX11_acted_174 : decode cX11_acted 174 = .ok (.iload_n 2, 1) := by decide +kernel
theorem dX11_acted_175 : decode cX11_acted 175 = .ok (.ifCond .eq 7, 3) := by decide +kernel
theorem dX11_acted_178 : decode cX11_acted 178 = .ok (.iconst 1, 1) := by decide +kernel
theorem dX11_acted_179 : decode cX11_acted 179 = .ok (.goto 4, 3) := by decide +kernel
theorem dX11_acted_182 : decode cX11_acted 182 = .ok (.iconst 0, 1) := by decide +kernel
theorem dX11_acted_183 : decode cX11_acted 183 = .ok (.invokestatic 124, 3) := by decide +kernel
theorem dX11_acted_186 : decode cX11_acted 186 = .ok (.ireturn, 1) := by decide +kernel
theorem dX11_acted_187 : decode cX11_acted 187 = .ok (.iload_n 1, 1) := by decide +kernel
theorem dX11_acted_188 : decode cX11_acted 188 = .ok (.ifCond .ne 7, 3) := by decide +kernel
theorem dX11_acted_191 : decode cX11_acted 191 = .ok (.iload_n 2, 1) := by decide +kernel
theorem dX11_acted_192 : decode cX11_acted 192 = .ok (.ifCond .eq 7, 3) := by decide +kernel
theorem dX11_acted_195 : decode cX11_acted 195 = .ok (.iconst 1, 1) := by decide +kernel
theorem dX11_acted_196 : decode cX11_acted 196 = .ok (.goto 4, 3) := by decide +kernel
theorem dX11_acted_199 : decode cX11_acted 199 = .ok (.iconst 0, 1) := by decide +kernel
theorem dX11_acted_200 : decode cX11_acted 200 = .ok (.invokestatic 124, 3) := by decide +kernel
theorem dX11_acted_203 : decode cX11_acted 203 = .ok (.ireturn, 1) := by decide +kernel
noncomputable def f_X11_overlap (fu : Nat) (x1 : Int32) (x2 : Int32) (x3 : Int32) (m : hM) : Option (Int32 × hM) :=
  hLet (sI m 96 0 0) fun m1 =>
hBd (f_X11_isOffice fu x1 m1) fun y2 m3 =>
if y2 = 0 then (
some ((-1), m3)) else (
hBd (f_X11_isOffice fu x2 m3) fun y5 m6 =>
if y5 = 0 then (
some ((-1), m6)) else (
hBd (f_X11_isHour fu x3 m6) fun y8 m9 =>
if y8 = 0 then (
some ((-1), m9)) else (
hBd (f_X11_overlapOf fu x1 x2 x3 m9) fun y11 m12 =>
some (y11, m12))))
set_option maxRecDepth 100000 in
set_option maxHeartbeats 4000000 in
theorem c_X11_overlap (G : hG) (fu : Nat) (x1 : Int32) (x2 : Int32) (x3 : Int32) (m : hM) : Mt vI G 5 yX11_overlap cX11_overlap 4 (some .int) [hA G 96, .int x1, .int x2, .int x3] m (f_X11_overlap fu x1 x2 x3 m) := by
  refine mt_of (by decide +kernel) (Nat.le_of_ble_eq_true rfl) (fun X C K => ?_)
  have C : Cx G X 5 cX11_overlap 4 RX11 (some .int) := C
  show Rf vI G X 0 [(0, hA G 96), (1, .int x1), (2, .int x2), (3, .int x3)] [] m _
  unfold f_X11_overlap
  refine rf_aload_n C (n := 1) (q := 0) dX11_overlap_0 rfl rfl rfl ?_
  refine rf_iconst C (n := 2) (v := 0) dX11_overlap_1 rfl (by decide) ?_
  refine rf_putI C (n := 5) pl_RX11_3 ly_96 rfl ⟨rfl, rfl⟩ dX11_overlap_2 rfl ?_
  refine rf_letM (fun m1 => ?_)
  refine rf_aload_n C (n := 6) (q := 0) dX11_overlap_5 rfl rfl rfl ?_
  refine rf_iload_n C (n := 7) (q := 1) dX11_overlap_6 rfl rfl rfl ?_
  refine rf_callVi C (n := 10) (c_X11_isOffice G fu _ _) mw_RX11_77 ly_96 rfl ⟨by decide, by decide⟩ rfl (Nat.le_of_ble_eq_true rfl) rfl dX11_overlap_7 rfl (fun y2 m3 => ?_)
  refine rf_if_eq C (tgt := 38) (n := 13) dX11_overlap_10 (by decide) rfl (fun h4 => ?_) (fun h4 => ?_)
  · refine rf_iconst C (n := 39) (v := (-1)) dX11_overlap_38 rfl (by decide) ?_
    exact rf_iret C K dX11_overlap_39
  · refine rf_aload_n C (n := 14) (q := 0) dX11_overlap_13 rfl rfl rfl ?_
    refine rf_iload_n C (n := 15) (q := 2) dX11_overlap_14 rfl rfl rfl ?_
    refine rf_callVi C (n := 18) (c_X11_isOffice G fu _ _) mw_RX11_77 ly_96 rfl ⟨by decide, by decide⟩ rfl (Nat.le_of_ble_eq_true rfl) rfl dX11_overlap_15 rfl (fun y5 m6 => ?_)
    refine rf_if_eq C (tgt := 38) (n := 21) dX11_overlap_18 (by decide) rfl (fun h7 => ?_) (fun h7 => ?_)
    · refine rf_iconst C (n := 39) (v := (-1)) dX11_overlap_38 rfl (by decide) ?_
      exact rf_iret C K dX11_overlap_39
    · refine rf_iload_n C (n := 22) (q := 3) dX11_overlap_21 rfl rfl rfl ?_
      refine rf_callSi C (n := 25) (c_X11_isHour G fu _ _) sw_RX11_81 ⟨by decide, by decide⟩ rfl (Nat.le_of_ble_eq_true rfl) rfl dX11_overlap_22 rfl (fun y8 m9 => ?_)
      refine rf_if_eq C (tgt := 38) (n := 28) dX11_overlap_25 (by decide) rfl (fun h10 => ?_) (fun h10 => ?_)
      · refine rf_iconst C (n := 39) (v := (-1)) dX11_overlap_38 rfl (by decide) ?_
        exact rf_iret C K dX11_overlap_39
      · refine rf_aload_n C (n := 29) (q := 0) dX11_overlap_28 rfl rfl rfl ?_
        refine rf_iload_n C (n := 30) (q := 1) dX11_overlap_29 rfl rfl rfl ?_
        refine rf_iload_n C (n := 31) (q := 2) dX11_overlap_30 rfl rfl rfl ?_
        refine rf_iload_n C (n := 32) (q := 3) dX11_overlap_31 rfl rfl rfl ?_
        refine rf_callVi C (n := 35) (c_X11_overlapOf G fu _ _ _ _) mw_RX11_128 ly_96 rfl ⟨by decide, by decide⟩ rfl (Nat.le_of_ble_eq_true rfl) rfl dX11_overlap_32 rfl (fun y11 m12 => ?_)
        refine rf_goto C (n := 39) dX11_overlap_35 (by decide) ?_
        exact rf_iret C K dX11_overlap_39
noncomputable def f_X11_loses (fu : Nat) (x1 : Int32) (x2 : Int32) (x3 : Int32) (m : hM) : Option (Int32 × hM) :=
  hLet (sI m 96 0 0) fun m1 =>
hBd (f_X11_isOffice fu x1 m1) fun y2 m3 =>
if y2 = 0 then (
some ((-1), m3)) else (
hBd (f_X11_isOffice fu x2 m3) fun y5 m6 =>
if y5 = 0 then (
some ((-1), m6)) else (
hBd (f_X11_isHour fu x3 m6) fun y8 m9 =>
if y8 = 0 then (
some ((-1), m9)) else (
hBd (f_X11_lostOf fu x1 x2 x3 m9) fun y11 m12 =>
some (y11, m12))))
set_option maxRecDepth 100000 in
set_option maxHeartbeats 4000000 in
theorem c_X11_loses (G : hG) (fu : Nat) (x1 : Int32) (x2 : Int32) (x3 : Int32) (m : hM) : Mt vI G 6 yX11_loses cX11_loses 4 (some .int) [hA G 96, .int x1, .int x2, .int x3] m (f_X11_loses fu x1 x2 x3 m) := by
  refine mt_of (by decide +kernel) (Nat.le_of_ble_eq_true rfl) (fun X C K => ?_)
  have C : Cx G X 6 cX11_loses 4 RX11 (some .int) := C
  show Rf vI G X 0 [(0, hA G 96), (1, .int x1), (2, .int x2), (3, .int x3)] [] m _
  unfold f_X11_loses
  refine rf_aload_n C (n := 1) (q := 0) dX11_loses_0 rfl rfl rfl ?_
  refine rf_iconst C (n := 2) (v := 0) dX11_loses_1 rfl (by decide) ?_
  refine rf_putI C (n := 5) pl_RX11_3 ly_96 rfl ⟨rfl, rfl⟩ dX11_loses_2 rfl ?_
  refine rf_letM (fun m1 => ?_)
  refine rf_aload_n C (n := 6) (q := 0) dX11_loses_5 rfl rfl rfl ?_
  refine rf_iload_n C (n := 7) (q := 1) dX11_loses_6 rfl rfl rfl ?_
  refine rf_callVi C (n := 10) (c_X11_isOffice G fu _ _) mw_RX11_77 ly_96 rfl ⟨by decide, by decide⟩ rfl (Nat.le_of_ble_eq_true rfl) rfl dX11_loses_7 rfl (fun y2 m3 => ?_)
  refine rf_if_eq C (tgt := 38) (n := 13) dX11_loses_10 (by decide) rfl (fun h4 => ?_) (fun h4 => ?_)
  · refine rf_iconst C (n := 39) (v := (-1)) dX11_loses_38 rfl (by decide) ?_
    exact rf_iret C K dX11_loses_39
  · refine rf_aload_n C (n := 14) (q := 0) dX11_loses_13 rfl rfl rfl ?_
    refine rf_iload_n C (n := 15) (q := 2) dX11_loses_14 rfl rfl rfl ?_
    refine rf_callVi C (n := 18) (c_X11_isOffice G fu _ _) mw_RX11_77 ly_96 rfl ⟨by decide, by decide⟩ rfl (Nat.le_of_ble_eq_true rfl) rfl dX11_loses_15 rfl (fun y5 m6 => ?_)
    refine rf_if_eq C (tgt := 38) (n := 21) dX11_loses_18 (by decide) rfl (fun h7 => ?_) (fun h7 => ?_)
    · refine rf_iconst C (n := 39) (v := (-1)) dX11_loses_38 rfl (by decide) ?_
      exact rf_iret C K dX11_loses_39
    · refine rf_iload_n C (n := 22) (q := 3) dX11_loses_21 rfl rfl rfl ?_
      refine rf_callSi C (n := 25) (c_X11_isHour G fu _ _) sw_RX11_81 ⟨by decide, by decide⟩ rfl (Nat.le_of_ble_eq_true rfl) rfl dX11_loses_22 rfl (fun y8 m9 => ?_)
      refine rf_if_eq C (tgt := 38) (n := 28) dX11_loses_25 (by decide) rfl (fun h10 => ?_) (fun h10 => ?_)
      · refine rf_iconst C (n := 39) (v := (-1)) dX11_loses_38 rfl (by decide) ?_
        exact rf_iret C K dX11_loses_39
      · refine rf_aload_n C (n := 29) (q := 0) dX11_loses_28 rfl rfl rfl ?_
        refine rf_iload_n C (n := 30) (q := 1) dX11_loses_29 rfl rfl rfl ?_
        refine rf_iload_n C (n := 31) (q := 2) dX11_loses_30 rfl rfl rfl ?_
        refine rf_iload_n C (n := 32) (q := 3) dX11_loses_31 rfl rfl rfl ?_
        refine rf_callVi C (n := 35) (c_X11_lostOf G fu _ _ _ _) mw_RX11_132 ly_96 rfl ⟨by decide, by decide⟩ rfl (Nat.le_of_ble_eq_true rfl) rfl dX11_loses_32 rfl (fun y11 m12 => ?_)
        refine rf_goto C (n := 39) dX11_loses_35 (by decide) ?_
        exact rf_iret C K dX11_loses_39
noncomputable def f_X11_dark_181 (fu : Nat) (x3 : Int32) (x4 : Int32) (x5 : Int32) (x6 : Int32) (m : hM) : Option (Int32 × hM) :=
  hLet (sI m 96 1 0) fun m10 =>
hBd (f_X11_enters fu (Int32.toInt64 x4) m10) fun _ m11 =>
hBd (f_X11_enters fu (Int32.toInt64 x5) m11) fun _ m12 =>
hBd (f_X11_enters fu (Int32.toInt64 x6) m12) fun _ m13 =>
some (x3, m13)
set_option maxRecDepth 100000 in
set_option maxHeartbeats 4000000 in
theorem r_X11_dark_181 {G : hG} {X : hX} (C : Cx G X 4 cX11_dark 10 RX11 (some .int)) (K : Cr G X) (fu : Nat) (x3 : Int32) (x4 : Int32) (x5 : Int32) (x6 : Int32) (m : hM) : Rf vI G X 181 [(0, hA G 96), (3, .int x3), (4, .int x4), (5, .int x5), (6, .int x6)] [] m (f_X11_dark_181 fu x3 x4 x5 x6 m) := by
  unfold f_X11_dark_181
  refine rf_aload_n C (n := 182) (q := 0) dX11_dark_181 rfl rfl rfl ?_
  refine rf_iconst C (n := 183) (v := 0) dX11_dark_182 rfl (by decide) ?_
  refine rf_putI C (n := 186) pl_RX11_11 ly_96 rfl ⟨rfl, rfl⟩ dX11_dark_183 rfl ?_
  refine rf_letM (fun m10 => ?_)
  refine rf_aload_n C (n := 187) (q := 0) dX11_dark_186 rfl rfl rfl ?_
  refine rf_iload C (n := 189) (q := 2) dX11_dark_187 rfl rfl ?_
  refine rf_i2l C (n := 190) dX11_dark_189 rfl ?_
  refine rf_callVv C (n := 193) (c_X11_enters G fu _ _) mw_RX11_18 ly_96 rfl ⟨by decide, by decide⟩ rfl (Nat.le_of_ble_eq_true rfl) rfl dX11_dark_190 rfl (fun _ m11 => ?_)
  refine rf_aload_n C (n := 194) (q := 0) dX11_dark_193 rfl rfl rfl ?_
  refine rf_iload C (n := 196) (q := 3) dX11_dark_194 rfl rfl ?_
  refine rf_i2l C (n := 197) dX11_dark_196 rfl ?_
  refine rf_callVv C (n := 200) (c_X11_enters G fu _ _) mw_RX11_18 ly_96 rfl ⟨by decide, by decide⟩ rfl (Nat.le_of_ble_eq_true rfl) rfl dX11_dark_197 rfl (fun _ m12 => ?_)
  refine rf_aload_n C (n := 201) (q := 0) dX11_dark_200 rfl rfl rfl ?_
  refine rf_iload C (n := 203) (q := 4) dX11_dark_201 rfl rfl ?_
  refine rf_i2l C (n := 204) dX11_dark_203 rfl ?_
  refine rf_callVv C (n := 207) (c_X11_enters G fu _ _) mw_RX11_18 ly_96 rfl ⟨by decide, by decide⟩ rfl (Nat.le_of_ble_eq_true rfl) rfl dX11_dark_204 rfl (fun _ m13 => ?_)
  refine rf_iload_n C (n := 208) (q := 1) dX11_dark_207 rfl rfl rfl ?_
  exact rf_iret C K dX11_dark_208
noncomputable def f_X11_dark_164 (fu : Nat) (k47 : Int32 → Int32 → Int32 → Int32 → Int32 → Int32 → Int32 → hM → Option (Int32 × hM)) (x1 : Int32) (x2 : Int32) (x3 : Int32) (x4 : Int32) (x5 : Int32) (x7 : Int32) (x8 : Int32) (s0 : Int32) (m : hM) : Option (Int32 × hM) :=
  hBd (f_J9_max_7cf53 fu x5 x8 m) fun y21 m22 =>
hLet (x7 + 1) fun y23 =>
k47 x1 x2 x3 x4 y21 s0 y23 m22
set_option maxRecDepth 100000 in
set_option maxHeartbeats 4000000 in
theorem r_X11_dark_164 {G : hG} {X : hX} (C : Cx G X 4 cX11_dark 10 RX11 (some .int)) (K : Cr G X) (fu : Nat) (k47 : Int32 → Int32 → Int32 → Int32 → Int32 → Int32 → Int32 → hM → Option (Int32 × hM)) (hk47 : ∀ (x1 : Int32) (x2 : Int32) (x3 : Int32) (x4 : Int32) (x5 : Int32) (x6 : Int32) (x7 : Int32) (m : hM), Rf vI G X 47 [(0, hA G 96), (1, .int x1), (2, .int x2), (3, .int x3), (4, .int x4), (5, .int x5), (6, .int x6), (7, .int x7)] [] m (k47 x1 x2 x3 x4 x5 x6 x7 m)) (x1 : Int32) (x2 : Int32) (x3 : Int32) (x4 : Int32) (x5 : Int32) (x7 : Int32) (x8 : Int32) (s0 : Int32) (m : hM) : Rf vI G X 164 [(0, hA G 96), (1, .int x1), (2, .int x2), (3, .int x3), (4, .int x4), (5, .int x5), (7, .int x7), (8, .int x8)] [.int s0] m (f_X11_dark_164 fu k47 x1 x2 x3 x4 x5 x7 x8 s0 m) := by
  unfold f_X11_dark_164
  refine rf_istore C (n := 166) [(6, .int s0), (0, hA G 96), (1, .int x1), (2, .int x2), (3, .int x3), (4, .int x4), (5, .int x5), (7, .int x7), (8, .int x8)] dX11_dark_164 rfl (by decide) rfl ?_
  refine rf_iload C (n := 168) (q := 6) dX11_dark_166 rfl rfl ?_
  refine rf_iload C (n := 170) (q := 8) dX11_dark_168 rfl rfl ?_
  refine rf_callSi C (n := 173) (c_J9_max_7cf53 G fu _ _ _) sw_RX11_101 ⟨by decide, by decide⟩ rfl (Nat.le_of_ble_eq_true rfl) rfl dX11_dark_170 rfl (fun y21 m22 => ?_)
  refine rf_istore C (n := 175) [(5, .int y21), (6, .int s0), (0, hA G 96), (1, .int x1), (2, .int x2), (3, .int x3), (4, .int x4), (7, .int x7), (8, .int x8)] dX11_dark_173 rfl (by decide) rfl ?_
  refine rf_iinc2 C (n := 178) (q := 7) (fun y23 => [(7, .int y23), (5, .int y21), (6, .int s0), (0, hA G 96), (1, .int x1), (2, .int x2), (3, .int x3), (4, .int x4), (8, .int x8)]) dX11_dark_175 rfl rfl (by decide) (by decide) (fun _ => rfl) (fun y23 => ?_)
  refine rf_goto C (n := 47) dX11_dark_178 (by decide) ?_
  exact rf_lv _ [3, 4, 5, 6, 7, 1, 2, 0] rfl (hk47 _ _ _ _ _ _ _ _)
noncomputable def f_X11_dark_148 (fu : Nat) (k47 : Int32 → Int32 → Int32 → Int32 → Int32 → Int32 → Int32 → hM → Option (Int32 × hM)) (x1 : Int32) (x2 : Int32) (x3 : Int32) (x5 : Int32) (x6 : Int32) (x7 : Int32) (x8 : Int32) (s0 : Int32) (m : hM) : Option (Int32 × hM) :=
  if x8 ≤ x5 then (
f_X11_dark_164 fu k47 x1 x2 x3 s0 x5 x7 x8 x6 m) else (
f_X11_dark_164 fu k47 x1 x2 x3 s0 x5 x7 x8 x7 m)
set_option maxRecDepth 100000 in
set_option maxHeartbeats 4000000 in
theorem r_X11_dark_148 {G : hG} {X : hX} (C : Cx G X 4 cX11_dark 10 RX11 (some .int)) (K : Cr G X) (fu : Nat) (k47 : Int32 → Int32 → Int32 → Int32 → Int32 → Int32 → Int32 → hM → Option (Int32 × hM)) (hk47 : ∀ (x1 : Int32) (x2 : Int32) (x3 : Int32) (x4 : Int32) (x5 : Int32) (x6 : Int32) (x7 : Int32) (m : hM), Rf vI G X 47 [(0, hA G 96), (1, .int x1), (2, .int x2), (3, .int x3), (4, .int x4), (5, .int x5), (6, .int x6), (7, .int x7)] [] m (k47 x1 x2 x3 x4 x5 x6 x7 m)) (x1 : Int32) (x2 : Int32) (x3 : Int32) (x5 : Int32) (x6 : Int32) (x7 : Int32) (x8 : Int32) (s0 : Int32) (m : hM) : Rf vI G X 148 [(0, hA G 96), (1, .int x1), (2, .int x2), (3, .int x3), (5, .int x5), (6, .int x6), (7, .int x7), (8, .int x8)] [.int s0] m (f_X11_dark_148 fu k47 x1 x2 x3 x5 x6 x7 x8 s0 m) := by
  unfold f_X11_dark_148
  refine rf_istore C (n := 150) [(4, .int s0), (0, hA G 96), (1, .int x1), (2, .int x2), (3, .int x3), (5, .int x5), (6, .int x6), (7, .int x7), (8, .int x8)] dX11_dark_148 rfl (by decide) rfl ?_
  refine rf_iload C (n := 152) (q := 8) dX11_dark_150 rfl rfl ?_
  refine rf_iload C (n := 154) (q := 5) dX11_dark_152 rfl rfl ?_
  refine rf_icmp_le C (tgt := 162) (n := 157) dX11_dark_154 (by decide) rfl (fun h20 => ?_) (fun h20 => ?_)
  · refine rf_iload C (n := 164) (q := 6) dX11_dark_162 rfl rfl ?_
    exact rf_lv _ [1, 2, 3, 4, 0, 5, 7, 8] rfl (r_X11_dark_164 C K fu _ hk47 _ _ _ _ _ _ _ _ _)
  · refine rf_iload C (n := 159) (q := 7) dX11_dark_157 rfl rfl ?_
    refine rf_goto C (n := 164) dX11_dark_159 (by decide) ?_
    exact rf_lv _ [1, 2, 3, 4, 0, 5, 7, 8] rfl (r_X11_dark_164 C K fu _ hk47 _ _ _ _ _ _ _ _ _)
noncomputable def f_X11_dark_146 (fu : Nat) (k47 : Int32 → Int32 → Int32 → Int32 → Int32 → Int32 → Int32 → hM → Option (Int32 × hM)) (x1 : Int32) (x2 : Int32) (x3 : Int32) (x4 : Int32) (x5 : Int32) (x6 : Int32) (x7 : Int32) (x8 : Int32) (m : hM) : Option (Int32 × hM) :=
  f_X11_dark_148 fu k47 x1 x2 x3 x5 x6 x7 x8 x4 m
set_option maxRecDepth 100000 in
set_option maxHeartbeats 4000000 in
theorem r_X11_dark_146 {G : hG} {X : hX} (C : Cx G X 4 cX11_dark 10 RX11 (some .int)) (K : Cr G X) (fu : Nat) (k47 : Int32 → Int32 → Int32 → Int32 → Int32 → Int32 → Int32 → hM → Option (Int32 × hM)) (hk47 : ∀ (x1 : Int32) (x2 : Int32) (x3 : Int32) (x4 : Int32) (x5 : Int32) (x6 : Int32) (x7 : Int32) (m : hM), Rf vI G X 47 [(0, hA G 96), (1, .int x1), (2, .int x2), (3, .int x3), (4, .int x4), (5, .int x5), (6, .int x6), (7, .int x7)] [] m (k47 x1 x2 x3 x4 x5 x6 x7 m)) (x1 : Int32) (x2 : Int32) (x3 : Int32) (x4 : Int32) (x5 : Int32) (x6 : Int32) (x7 : Int32) (x8 : Int32) (m : hM) : Rf vI G X 146 [(0, hA G 96), (1, .int x1), (2, .int x2), (3, .int x3), (4, .int x4), (5, .int x5), (6, .int x6), (7, .int x7), (8, .int x8)] [] m (f_X11_dark_146 fu k47 x1 x2 x3 x4 x5 x6 x7 x8 m) := by
  unfold f_X11_dark_146
  refine rf_iload C (n := 148) (q := 4) dX11_dark_146 rfl rfl ?_
  exact rf_lv _ [0, 1, 2, 3, 5, 6, 7, 8] rfl (r_X11_dark_148 C K fu _ hk47 _ _ _ _ _ _ _ _ _)
noncomputable def f_X11_dark_126 (fu : Nat) (k47 : Int32 → Int32 → Int32 → Int32 → Int32 → Int32 → Int32 → hM → Option (Int32 × hM)) (x1 : Int32) (x2 : Int32) (x4 : Int32) (x5 : Int32) (x6 : Int32) (x7 : Int32) (x8 : Int32) (s0 : Int32) (s1 : Int32) (m : hM) : Option (Int32 × hM) :=
  hBd (f_X11_flag fu s1 m) fun y16 m17 =>
hLet (s0 + y16) fun y18 =>
if ¬ x8 = 0 then (
f_X11_dark_146 fu k47 x1 x2 y18 x4 x5 x6 x7 x8 m17) else (
if 0 ≤ x4 then (
f_X11_dark_146 fu k47 x1 x2 y18 x4 x5 x6 x7 x8 m17) else (
f_X11_dark_148 fu k47 x1 x2 y18 x5 x6 x7 x8 x7 m17))
set_option maxRecDepth 100000 in
set_option maxHeartbeats 4000000 in
theorem r_X11_dark_126 {G : hG} {X : hX} (C : Cx G X 4 cX11_dark 10 RX11 (some .int)) (K : Cr G X) (fu : Nat) (k47 : Int32 → Int32 → Int32 → Int32 → Int32 → Int32 → Int32 → hM → Option (Int32 × hM)) (hk47 : ∀ (x1 : Int32) (x2 : Int32) (x3 : Int32) (x4 : Int32) (x5 : Int32) (x6 : Int32) (x7 : Int32) (m : hM), Rf vI G X 47 [(0, hA G 96), (1, .int x1), (2, .int x2), (3, .int x3), (4, .int x4), (5, .int x5), (6, .int x6), (7, .int x7)] [] m (k47 x1 x2 x3 x4 x5 x6 x7 m)) (x1 : Int32) (x2 : Int32) (x4 : Int32) (x5 : Int32) (x6 : Int32) (x7 : Int32) (x8 : Int32) (s0 : Int32) (s1 : Int32) (m : hM) : Rf vI G X 126 [(0, hA G 96), (1, .int x1), (2, .int x2), (4, .int x4), (5, .int x5), (6, .int x6), (7, .int x7), (8, .int x8)] [.int s1, .int s0] m (f_X11_dark_126 fu k47 x1 x2 x4 x5 x6 x7 x8 s0 s1 m) := by
  unfold f_X11_dark_126
  refine rf_callSi C (n := 129) (c_X11_flag G fu _ _) sw_RX11_124 ⟨by decide, by decide⟩ rfl (Nat.le_of_ble_eq_true rfl) rfl dX11_dark_126 rfl (fun y16 m17 => ?_)
  refine rf_iadd C (n := 130) dX11_dark_129 rfl ?_
  refine rf_letI (fun y18 => ?_)
  refine rf_istore_n C (n := 131) [(3, .int y18), (0, hA G 96), (1, .int x1), (2, .int x2), (4, .int x4), (5, .int x5), (6, .int x6), (7, .int x7), (8, .int x8)] dX11_dark_130 rfl rfl (by decide) rfl ?_
  refine rf_iload C (n := 133) (q := 8) dX11_dark_131 rfl rfl ?_
  refine rf_if_ne C (tgt := 146) (n := 136) dX11_dark_133 (by decide) rfl (fun h19 => ?_) (fun h19 => ?_)
  · exact rf_lv _ [1, 2, 3, 0, 4, 5, 6, 7, 8] rfl (r_X11_dark_146 C K fu _ hk47 _ _ _ _ _ _ _ _ _)
  · refine rf_iload C (n := 138) (q := 4) dX11_dark_136 rfl rfl ?_
    refine rf_if_ge C (tgt := 146) (n := 141) dX11_dark_138 (by decide) rfl (fun h24 => ?_) (fun h24 => ?_)
    · exact rf_lv _ [1, 2, 3, 0, 4, 5, 6, 7, 8] rfl (r_X11_dark_146 C K fu _ hk47 _ _ _ _ _ _ _ _ _)
    · refine rf_iload C (n := 143) (q := 7) dX11_dark_141 rfl rfl ?_
      refine rf_goto C (n := 148) dX11_dark_143 (by decide) ?_
      exact rf_lv _ [1, 2, 3, 0, 5, 6, 7, 8] rfl (r_X11_dark_148 C K fu _ hk47 _ _ _ _ _ _ _ _ _)
noncomputable def f_X11_dark_115 (fu : Nat) (k47 : Int32 → Int32 → Int32 → Int32 → Int32 → Int32 → Int32 → hM → Option (Int32 × hM)) (x1 : Int32) (x2 : Int32) (x3 : Int32) (x4 : Int32) (x5 : Int32) (x6 : Int32) (x7 : Int32) (x8 : Int32) (m : hM) : Option (Int32 × hM) :=
  if ¬ x8 = 0 then (
f_X11_dark_126 fu k47 x1 x2 x4 x5 x6 x7 x8 x3 0 m) else (
f_X11_dark_126 fu k47 x1 x2 x4 x5 x6 x7 x8 x3 1 m)
set_option maxRecDepth 100000 in
set_option maxHeartbeats 4000000 in
theorem r_X11_dark_115 {G : hG} {X : hX} (C : Cx G X 4 cX11_dark 10 RX11 (some .int)) (K : Cr G X) (fu : Nat) (k47 : Int32 → Int32 → Int32 → Int32 → Int32 → Int32 → Int32 → hM → Option (Int32 × hM)) (hk47 : ∀ (x1 : Int32) (x2 : Int32) (x3 : Int32) (x4 : Int32) (x5 : Int32) (x6 : Int32) (x7 : Int32) (m : hM), Rf vI G X 47 [(0, hA G 96), (1, .int x1), (2, .int x2), (3, .int x3), (4, .int x4), (5, .int x5), (6, .int x6), (7, .int x7)] [] m (k47 x1 x2 x3 x4 x5 x6 x7 m)) (x1 : Int32) (x2 : Int32) (x3 : Int32) (x4 : Int32) (x5 : Int32) (x6 : Int32) (x7 : Int32) (x8 : Int32) (m : hM) : Rf vI G X 115 [(0, hA G 96), (1, .int x1), (2, .int x2), (3, .int x3), (4, .int x4), (5, .int x5), (6, .int x6), (7, .int x7), (8, .int x8)] [] m (f_X11_dark_115 fu k47 x1 x2 x3 x4 x5 x6 x7 x8 m) := by
  unfold f_X11_dark_115
  refine rf_iload_n C (n := 116) (q := 3) dX11_dark_115 rfl rfl rfl ?_
  refine rf_iload C (n := 118) (q := 8) dX11_dark_116 rfl rfl ?_
  refine rf_if_ne C (tgt := 125) (n := 121) dX11_dark_118 (by decide) rfl (fun h15 => ?_) (fun h15 => ?_)
  · refine rf_iconst C (n := 126) (v := 0) dX11_dark_125 rfl (by decide) ?_
    exact rf_lv _ [0, 1, 2, 4, 5, 6, 7, 8] rfl (r_X11_dark_126 C K fu _ hk47 _ _ _ _ _ _ _ _ _ _)
  · refine rf_iconst C (n := 122) (v := 1) dX11_dark_121 rfl (by decide) ?_
    refine rf_goto C (n := 126) dX11_dark_122 (by decide) ?_
    exact rf_lv _ [0, 1, 2, 4, 5, 6, 7, 8] rfl (r_X11_dark_126 C K fu _ hk47 _ _ _ _ _ _ _ _ _ _)
noncomputable def f_X11_dark_103 (fu : Nat) (k47 : Int32 → Int32 → Int32 → Int32 → Int32 → Int32 → Int32 → hM → Option (Int32 × hM)) (k62 : Int32 → Int32 → Int32 → Int32 → Int32 → Int32 → Int32 → Int32 → Int32 → hM → Option (Int32 × hM)) (x1 : Int32) (x2 : Int32) (x3 : Int32) (x4 : Int32) (x5 : Int32) (x6 : Int32) (x7 : Int32) (x9 : Int32) (s0 : Int32) (s1 : Int32) (m : hM) : Option (Int32 × hM) :=
  hBd (f_X11_flag fu s1 m) fun y29 m30 =>
hLet (s0 + y29) fun y31 =>
hLet (x9 + 1) fun y32 =>
k62 x1 x2 x3 x4 x5 x6 x7 y31 y32 m30
set_option maxRecDepth 100000 in
set_option maxHeartbeats 4000000 in
theorem r_X11_dark_103 {G : hG} {X : hX} (C : Cx G X 4 cX11_dark 10 RX11 (some .int)) (K : Cr G X) (fu : Nat) (k47 : Int32 → Int32 → Int32 → Int32 → Int32 → Int32 → Int32 → hM → Option (Int32 × hM)) (hk47 : ∀ (x1 : Int32) (x2 : Int32) (x3 : Int32) (x4 : Int32) (x5 : Int32) (x6 : Int32) (x7 : Int32) (m : hM), Rf vI G X 47 [(0, hA G 96), (1, .int x1), (2, .int x2), (3, .int x3), (4, .int x4), (5, .int x5), (6, .int x6), (7, .int x7)] [] m (k47 x1 x2 x3 x4 x5 x6 x7 m)) (k62 : Int32 → Int32 → Int32 → Int32 → Int32 → Int32 → Int32 → Int32 → Int32 → hM → Option (Int32 × hM)) (hk62 : ∀ (x1 : Int32) (x2 : Int32) (x3 : Int32) (x4 : Int32) (x5 : Int32) (x6 : Int32) (x7 : Int32) (x8 : Int32) (x9 : Int32) (m : hM), Rf vI G X 62 [(0, hA G 96), (1, .int x1), (2, .int x2), (3, .int x3), (4, .int x4), (5, .int x5), (6, .int x6), (7, .int x7), (8, .int x8), (9, .int x9)] [] m (k62 x1 x2 x3 x4 x5 x6 x7 x8 x9 m)) (x1 : Int32) (x2 : Int32) (x3 : Int32) (x4 : Int32) (x5 : Int32) (x6 : Int32) (x7 : Int32) (x9 : Int32) (s0 : Int32) (s1 : Int32) (m : hM) : Rf vI G X 103 [(0, hA G 96), (1, .int x1), (2, .int x2), (3, .int x3), (4, .int x4), (5, .int x5), (6, .int x6), (7, .int x7), (9, .int x9)] [.int s1, .int s0] m (f_X11_dark_103 fu k47 k62 x1 x2 x3 x4 x5 x6 x7 x9 s0 s1 m) := by
  unfold f_X11_dark_103
  refine rf_callSi C (n := 106) (c_X11_flag G fu _ _) sw_RX11_124 ⟨by decide, by decide⟩ rfl (Nat.le_of_ble_eq_true rfl) rfl dX11_dark_103 rfl (fun y29 m30 => ?_)
  refine rf_iadd C (n := 107) dX11_dark_106 rfl ?_
  refine rf_letI (fun y31 => ?_)
  refine rf_istore C (n := 109) [(8, .int y31), (0, hA G 96), (1, .int x1), (2, .int x2), (3, .int x3), (4, .int x4), (5, .int x5), (6, .int x6), (7, .int x7), (9, .int x9)] dX11_dark_107 rfl (by decide) rfl ?_
  refine rf_iinc2 C (n := 112) (q := 9) (fun y32 => [(9, .int y32), (8, .int y31), (0, hA G 96), (1, .int x1), (2, .int x2), (3, .int x3), (4, .int x4), (5, .int x5), (6, .int x6), (7, .int x7)]) dX11_dark_109 rfl rfl (by decide) (by decide) (fun _ => rfl) (fun y32 => ?_)
  refine rf_goto C (n := 62) dX11_dark_112 (by decide) ?_
  exact rf_lv _ [2, 3, 4, 5, 6, 7, 8, 9, 1, 0] rfl (hk62 _ _ _ _ _ _ _ _ _ _)
noncomputable def f_X11_dark_102 (fu : Nat) (k47 : Int32 → Int32 → Int32 → Int32 → Int32 → Int32 → Int32 → hM → Option (Int32 × hM)) (k62 : Int32 → Int32 → Int32 → Int32 → Int32 → Int32 → Int32 → Int32 → Int32 → hM → Option (Int32 × hM)) (x1 : Int32) (x2 : Int32) (x3 : Int32) (x4 : Int32) (x5 : Int32) (x6 : Int32) (x7 : Int32) (x9 : Int32) (s0 : Int32) (m : hM) : Option (Int32 × hM) :=
  f_X11_dark_103 fu k47 k62 x1 x2 x3 x4 x5 x6 x7 x9 s0 0 m
set_option maxRecDepth 100000 in
set_option maxHeartbeats 4000000 in
theorem r_X11_dark_102 {G : hG} {X : hX} (C : Cx G X 4 cX11_dark 10 RX11 (some .int)) (K : Cr G X) (fu : Nat) (k47 : Int32 → Int32 → Int32 → Int32 → Int32 → Int32 → Int32 → hM → Option (Int32 × hM)) (hk47 : ∀ (x1 : Int32) (x2 : Int32) (x3 : Int32) (x4 : Int32) (x5 : Int32) (x6 : Int32) (x7 : Int32) (m : hM), Rf vI G X 47 [(0, hA G 96), (1, .int x1), (2, .int x2), (3, .int x3), (4, .int x4), (5, .int x5), (6, .int x6), (7, .int x7)] [] m (k47 x1 x2 x3 x4 x5 x6 x7 m)) (k62 : Int32 → Int32 → Int32 → Int32 → Int32 → Int32 → Int32 → Int32 → Int32 → hM → Option (Int32 × hM)) (hk62 : ∀ (x1 : Int32) (x2 : Int32) (x3 : Int32) (x4 : Int32) (x5 : Int32) (x6 : Int32) (x7 : Int32) (x8 : Int32) (x9 : Int32) (m : hM), Rf vI G X 62 [(0, hA G 96), (1, .int x1), (2, .int x2), (3, .int x3), (4, .int x4), (5, .int x5), (6, .int x6), (7, .int x7), (8, .int x8), (9, .int x9)] [] m (k62 x1 x2 x3 x4 x5 x6 x7 x8 x9 m)) (x1 : Int32) (x2 : Int32) (x3 : Int32) (x4 : Int32) (x5 : Int32) (x6 : Int32) (x7 : Int32) (x9 : Int32) (s0 : Int32) (m : hM) : Rf vI G X 102 [(0, hA G 96), (1, .int x1), (2, .int x2), (3, .int x3), (4, .int x4), (5, .int x5), (6, .int x6), (7, .int x7), (9, .int x9)] [.int s0] m (f_X11_dark_102 fu k47 k62 x1 x2 x3 x4 x5 x6 x7 x9 s0 m) := by
  unfold f_X11_dark_102
  refine rf_iconst C (n := 103) (v := 0) dX11_dark_102 rfl (by decide) ?_
  exact rf_lv _ [0, 1, 2, 3, 4, 5, 6, 7, 8] rfl (r_X11_dark_103 C K fu _ hk47 _ hk62 _ _ _ _ _ _ _ _ _ _ _)
noncomputable def s_X11_dark_62 (fu : Nat) (k47 : Int32 → Int32 → Int32 → Int32 → Int32 → Int32 → Int32 → hM → Option (Int32 × hM)) (ih : Int32 → Int32 → Int32 → Int32 → Int32 → Int32 → Int32 → Int32 → Int32 → hM → Option (Int32 × hM)) (x1 : Int32) (x2 : Int32) (x3 : Int32) (x4 : Int32) (x5 : Int32) (x6 : Int32) (x7 : Int32) (x8 : Int32) (x9 : Int32) (m : hM) : Option (Int32 × hM) :=
  if (gI m 96 3) ≤ x9 then (
f_X11_dark_115 fu k47 x1 x2 x3 x4 x5 x6 x7 x8 m) else (
if hIn x9 6 then (
hBd (f_X11_has fu (gI m 103 (Int32.toNatClampNeg x9)) x1 m) fun y26 m27 =>
if y26 = 0 then (
f_X11_dark_102 fu k47 ih x1 x2 x3 x4 x5 x6 x7 x9 x8 m27) else (
hBd (f_X11_isOpen fu x9 x7 m27) fun y33 m34 =>
if y33 = 0 then (
f_X11_dark_102 fu k47 ih x1 x2 x3 x4 x5 x6 x7 x9 x8 m34) else (
f_X11_dark_103 fu k47 ih x1 x2 x3 x4 x5 x6 x7 x9 x8 1 m34))) else none)
noncomputable def f_X11_dark_62 (fu : Nat) (k47 : Int32 → Int32 → Int32 → Int32 → Int32 → Int32 → Int32 → hM → Option (Int32 × hM)) (n : Nat) : Int32 → Int32 → Int32 → Int32 → Int32 → Int32 → Int32 → Int32 → Int32 → hM → Option (Int32 × hM) :=
  Nat.rec (motive := fun _ => Int32 → Int32 → Int32 → Int32 → Int32 → Int32 → Int32 → Int32 → Int32 → hM → Option (Int32 × hM)) (fun _ _ _ _ _ _ _ _ _ _ => none) (fun _ ih => s_X11_dark_62 fu k47 ih) n
theorem f_X11_dark_62_s (fu : Nat) (k47 : Int32 → Int32 → Int32 → Int32 → Int32 → Int32 → Int32 → hM → Option (Int32 × hM)) (n : Nat) (x1 : Int32) (x2 : Int32) (x3 : Int32) (x4 : Int32) (x5 : Int32) (x6 : Int32) (x7 : Int32) (x8 : Int32) (x9 : Int32) (m : hM) : f_X11_dark_62 fu k47 (n + 1) x1 x2 x3 x4 x5 x6 x7 x8 x9 m = s_X11_dark_62 fu k47 (f_X11_dark_62 fu k47 n) x1 x2 x3 x4 x5 x6 x7 x8 x9 m := rfl
set_option maxRecDepth 100000 in
set_option maxHeartbeats 4000000 in
theorem r_X11_dark_62 {G : hG} {X : hX} (C : Cx G X 4 cX11_dark 10 RX11 (some .int)) (K : Cr G X) (fu : Nat) (k47 : Int32 → Int32 → Int32 → Int32 → Int32 → Int32 → Int32 → hM → Option (Int32 × hM)) (hk47 : ∀ (x1 : Int32) (x2 : Int32) (x3 : Int32) (x4 : Int32) (x5 : Int32) (x6 : Int32) (x7 : Int32) (m : hM), Rf vI G X 47 [(0, hA G 96), (1, .int x1), (2, .int x2), (3, .int x3), (4, .int x4), (5, .int x5), (6, .int x6), (7, .int x7)] [] m (k47 x1 x2 x3 x4 x5 x6 x7 m)) (n : Nat) : ∀ (x1 : Int32) (x2 : Int32) (x3 : Int32) (x4 : Int32) (x5 : Int32) (x6 : Int32) (x7 : Int32) (x8 : Int32) (x9 : Int32) (m : hM), Rf vI G X 62 [(0, hA G 96), (1, .int x1), (2, .int x2), (3, .int x3), (4, .int x4), (5, .int x5), (6, .int x6), (7, .int x7), (8, .int x8), (9, .int x9)] [] m (f_X11_dark_62 fu k47 n x1 x2 x3 x4 x5 x6 x7 x8 x9 m) := by
  induction n with
  | zero => intros; exact rf_none
  | succ n ih =>
    intro x1 x2 x3 x4 x5 x6 x7 x8 x9 m
    show Rf vI G X 62 [(0, hA G 96), (1, .int x1), (2, .int x2), (3, .int x3), (4, .int x4), (5, .int x5), (6, .int x6), (7, .int x7), (8, .int x8), (9, .int x9)] [] m (s_X11_dark_62 fu k47 (f_X11_dark_62 fu k47 n) x1 x2 x3 x4 x5 x6 x7 x8 x9 m)
    unfold s_X11_dark_62
    refine rf_iload C (n := 64) (q := 9) dX11_dark_62 rfl rfl ?_
    refine rf_aload_n C (n := 65) (q := 0) dX11_dark_64 rfl rfl rfl ?_
    refine rf_getI C (n := 68) fl_RX11_22 ly_96 rfl dX11_dark_65 rfl ?_
    refine rf_icmp_ge C (tgt := 115) (n := 71) dX11_dark_68 (by decide) rfl (fun h14 => ?_) (fun h14 => ?_)
    · exact rf_lv _ [0, 1, 2, 3, 4, 5, 6, 7, 8] rfl (r_X11_dark_115 C K fu _ hk47 _ _ _ _ _ _ _ _ _)
    · refine rf_iload C (n := 73) (q := 8) dX11_dark_71 rfl rfl ?_
      refine rf_aload_n C (n := 74) (q := 0) dX11_dark_73 rfl rfl rfl ?_
      refine rf_getS C (n := 77) fl_RX11_47 ly_96 rfl dX11_dark_74 rfl ?_
      refine rf_iload C (n := 79) (q := 9) dX11_dark_77 rfl rfl ?_
      refine rf_guard (fun h25 => ?_)
      refine rf_iald C (n := 80) ly_103 h25 rfl dX11_dark_79 rfl ?_
      refine rf_iload_n C (n := 81) (q := 1) dX11_dark_80 rfl rfl rfl ?_
      refine rf_callSi C (n := 84) (c_X11_has G fu _ _ _) sw_RX11_137 ⟨by decide, by decide⟩ rfl (Nat.le_of_ble_eq_true rfl) rfl dX11_dark_81 rfl (fun y26 m27 => ?_)
      refine rf_if_eq C (tgt := 102) (n := 87) dX11_dark_84 (by decide) rfl (fun h28 => ?_) (fun h28 => ?_)
      · exact rf_lv _ [0, 1, 2, 3, 4, 5, 6, 7, 9] rfl (r_X11_dark_102 C K fu _ hk47 _ ih _ _ _ _ _ _ _ _ _ _)
      · refine rf_aload_n C (n := 88) (q := 0) dX11_dark_87 rfl rfl rfl ?_
        refine rf_iload C (n := 90) (q := 9) dX11_dark_88 rfl rfl ?_
        refine rf_iload C (n := 92) (q := 7) dX11_dark_90 rfl rfl ?_
        refine rf_callVi C (n := 95) (c_X11_isOpen G fu _ _ _) mw_RX11_120 ly_96 rfl ⟨by decide, by decide⟩ rfl (Nat.le_of_ble_eq_true rfl) rfl dX11_dark_92 rfl (fun y33 m34 => ?_)
        refine rf_if_eq C (tgt := 102) (n := 98) dX11_dark_95 (by decide) rfl (fun h35 => ?_) (fun h35 => ?_)
        · exact rf_lv _ [0, 1, 2, 3, 4, 5, 6, 7, 9] rfl (r_X11_dark_102 C K fu _ hk47 _ ih _ _ _ _ _ _ _ _ _ _)
        · refine rf_iconst C (n := 99) (v := 1) dX11_dark_98 rfl (by decide) ?_
          refine rf_goto C (n := 103) dX11_dark_99 (by decide) ?_
          exact rf_lv _ [0, 1, 2, 3, 4, 5, 6, 7, 9] rfl (r_X11_dark_103 C K fu _ hk47 _ ih _ _ _ _ _ _ _ _ _ _ _)
noncomputable def s_X11_dark_47 (fu : Nat) (ih : Int32 → Int32 → Int32 → Int32 → Int32 → Int32 → Int32 → hM → Option (Int32 × hM)) (x1 : Int32) (x2 : Int32) (x3 : Int32) (x4 : Int32) (x5 : Int32) (x6 : Int32) (x7 : Int32) (m : hM) : Option (Int32 × hM) :=
  if (x2 + 24) ≤ x7 then (
f_X11_dark_181 fu x3 x4 x5 x6 m) else (
f_X11_dark_62 fu ih fu x1 x2 x3 x4 x5 x6 x7 0 0 m)
noncomputable def f_X11_dark_47 (fu : Nat) (n : Nat) : Int32 → Int32 → Int32 → Int32 → Int32 → Int32 → Int32 → hM → Option (Int32 × hM) :=
  Nat.rec (motive := fun _ => Int32 → Int32 → Int32 → Int32 → Int32 → Int32 → Int32 → hM → Option (Int32 × hM)) (fun _ _ _ _ _ _ _ _ => none) (fun _ ih => s_X11_dark_47 fu ih) n
theorem f_X11_dark_47_s (fu : Nat) (n : Nat) (x1 : Int32) (x2 : Int32) (x3 : Int32) (x4 : Int32) (x5 : Int32) (x6 : Int32) (x7 : Int32) (m : hM) : f_X11_dark_47 fu (n + 1) x1 x2 x3 x4 x5 x6 x7 m = s_X11_dark_47 fu (f_X11_dark_47 fu n) x1 x2 x3 x4 x5 x6 x7 m := rfl
set_option maxRecDepth 100000 in
set_option maxHeartbeats 4000000 in
theorem r_X11_dark_47 {G : hG} {X : hX} (C : Cx G X 4 cX11_dark 10 RX11 (some .int)) (K : Cr G X) (fu : Nat) (n : Nat) : ∀ (x1 : Int32) (x2 : Int32) (x3 : Int32) (x4 : Int32) (x5 : Int32) (x6 : Int32) (x7 : Int32) (m : hM), Rf vI G X 47 [(0, hA G 96), (1, .int x1), (2, .int x2), (3, .int x3), (4, .int x4), (5, .int x5), (6, .int x6), (7, .int x7)] [] m (f_X11_dark_47 fu n x1 x2 x3 x4 x5 x6 x7 m) := by
  induction n with
  | zero => intros; exact rf_none
  | succ n ih =>
    intro x1 x2 x3 x4 x5 x6 x7 m
    show Rf vI G X 47 [(0, hA G 96), (1, .int x1), (2, .int x2), (3, .int x3), (4, .int x4), (5, .int x5), (6, .int x6), (7, .int x7)] [] m (s_X11_dark_47 fu (f_X11_dark_47 fu n) x1 x2 x3 x4 x5 x6 x7 m)
    unfold s_X11_dark_47
    refine rf_iload C (n := 49) (q := 7) dX11_dark_47 rfl rfl ?_
    refine rf_iload_n C (n := 50) (q := 2) dX11_dark_49 rfl rfl rfl ?_
    refine rf_bipush C (n := 52) (v := 24) dX11_dark_50 rfl (by decide) ?_
    refine rf_iadd C (n := 53) dX11_dark_52 rfl ?_
    refine rf_icmp_ge C (tgt := 181) (n := 56) dX11_dark_53 (by decide) rfl (fun h9 => ?_) (fun h9 => ?_)
    · exact rf_lv _ [0, 3, 4, 5, 6] rfl (r_X11_dark_181 C K fu _ _ _ _ _)
    · refine rf_iconst C (n := 57) (v := 0) dX11_dark_56 rfl (by decide) ?_
      refine rf_istore C (n := 59) [(8, .int 0), (0, hA G 96), (1, .int x1), (2, .int x2), (3, .int x3), (4, .int x4), (5, .int x5), (6, .int x6), (7, .int x7)] dX11_dark_57 rfl (by decide) rfl ?_
      refine rf_iconst C (n := 60) (v := 0) dX11_dark_59 rfl (by decide) ?_
      refine rf_istore C (n := 62) [(9, .int 0), (8, .int 0), (0, hA G 96), (1, .int x1), (2, .int x2), (3, .int x3), (4, .int x4), (5, .int x5), (6, .int x6), (7, .int x7)] dX11_dark_60 rfl (by decide) rfl ?_
      exact rf_lv _ [2, 3, 4, 5, 6, 7, 8, 9, 1, 0] rfl (r_X11_dark_62 C K fu _ ih fu _ _ _ _ _ _ _ _ _ _)
noncomputable def f_X11_dark (fu : Nat) (x1 : Int32) (x2 : Int32) (m : hM) : Option (Int32 × hM) :=
  hLet (sI m 96 0 0) fun m1 =>
hBd (f_X11_in fu (Int32.toInt64 x1) 0 5 m1) fun y2 m3 =>
if y2 = 0 then (
some ((-1), m3)) else (
hBd (f_X11_isHour fu x2 m3) fun y5 m6 =>
if y5 = 0 then (
some ((-1), m6)) else (
if ¬ (gI m6 96 3) = 0 then (
f_X11_dark_47 fu fu x1 x2 0 (-1) (-1) 0 x2 m6) else (
some ((-1), m6))))
set_option maxRecDepth 100000 in
set_option maxHeartbeats 4000000 in
theorem c_X11_dark (G : hG) (fu : Nat) (x1 : Int32) (x2 : Int32) (m : hM) : Mt vI G 4 yX11_dark cX11_dark 10 (some .int) [hA G 96, .int x1, .int x2] m (f_X11_dark fu x1 x2 m) := by
  refine mt_of (by decide +kernel) (Nat.le_of_ble_eq_true rfl) (fun X C K => ?_)
  have C : Cx G X 4 cX11_dark 10 RX11 (some .int) := C
  show Rf vI G X 0 [(0, hA G 96), (1, .int x1), (2, .int x2)] [] m _
  unfold f_X11_dark
  refine rf_aload_n C (n := 1) (q := 0) dX11_dark_0 rfl rfl rfl ?_
  refine rf_iconst C (n := 2) (v := 0) dX11_dark_1 rfl (by decide) ?_
  refine rf_putI C (n := 5) pl_RX11_3 ly_96 rfl ⟨rfl, rfl⟩ dX11_dark_2 rfl ?_
  refine rf_letM (fun m1 => ?_)
  refine rf_iload_n C (n := 6) (q := 1) dX11_dark_5 rfl rfl rfl ?_
  refine rf_i2l C (n := 7) dX11_dark_6 rfl ?_
  refine rf_lconst C (n := 8) (v := 0) dX11_dark_7 rfl (by decide) ?_
  refine rf_ldc2 C (n := 11) dX11_dark_8 rfl kl_RX11_135 ?_
  refine rf_callSi C (n := 14) (c_X11_in G fu _ _ _ _) sw_RX11_25 ⟨by decide, by decide⟩ rfl (Nat.le_of_ble_eq_true rfl) rfl dX11_dark_11 rfl (fun y2 m3 => ?_)
  refine rf_if_eq C (tgt := 31) (n := 17) dX11_dark_14 (by decide) rfl (fun h4 => ?_) (fun h4 => ?_)
  · refine rf_iconst C (n := 32) (v := (-1)) dX11_dark_31 rfl (by decide) ?_
    exact rf_iret C K dX11_dark_32
  · refine rf_iload_n C (n := 18) (q := 2) dX11_dark_17 rfl rfl rfl ?_
    refine rf_callSi C (n := 21) (c_X11_isHour G fu _ _) sw_RX11_81 ⟨by decide, by decide⟩ rfl (Nat.le_of_ble_eq_true rfl) rfl dX11_dark_18 rfl (fun y5 m6 => ?_)
    refine rf_if_eq C (tgt := 31) (n := 24) dX11_dark_21 (by decide) rfl (fun h7 => ?_) (fun h7 => ?_)
    · refine rf_iconst C (n := 32) (v := (-1)) dX11_dark_31 rfl (by decide) ?_
      exact rf_iret C K dX11_dark_32
    · refine rf_aload_n C (n := 25) (q := 0) dX11_dark_24 rfl rfl rfl ?_
      refine rf_getI C (n := 28) fl_RX11_22 ly_96 rfl dX11_dark_25 rfl ?_
      refine rf_if_ne C (tgt := 33) (n := 31) dX11_dark_28 (by decide) rfl (fun h8 => ?_) (fun h8 => ?_)
      · refine rf_iconst C (n := 34) (v := 0) dX11_dark_33 rfl (by decide) ?_
        refine rf_istore_n C (n := 35) [(3, .int 0), (0, hA G 96), (1, .int x1), (2, .int x2)] dX11_dark_34 rfl rfl (by decide) rfl ?_
        refine rf_iconst C (n := 36) (v := (-1)) dX11_dark_35 rfl (by decide) ?_
        refine rf_istore C (n := 38) [(4, .int (-1)), (3, .int 0), (0, hA G 96), (1, .int x1), (2, .int x2)] dX11_dark_36 rfl (by decide) rfl ?_
        refine rf_iconst C (n := 39) (v := (-1)) dX11_dark_38 rfl (by decide) ?_
        refine rf_istore C (n := 41) [(5, .int (-1)), (4, .int (-1)), (3, .int 0), (0, hA G 96), (1, .int x1), (2, .int x2)] dX11_dark_39 rfl (by decide) rfl ?_
        refine rf_iconst C (n := 42) (v := 0) dX11_dark_41 rfl (by decide) ?_
        refine rf_istore C (n := 44) [(6, .int 0), (5, .int (-1)), (4, .int (-1)), (3, .int 0), (0, hA G 96), (1, .int x1), (2, .int x2)] dX11_dark_42 rfl (by decide) rfl ?_
        refine rf_iload_n C (n := 45) (q := 6) dX11_dark_44 rfl rfl rfl ?_
        refine rf_istore C (n := 47) [(7, .int x2), (6, .int 0), (5, .int (-1)), (4, .int (-1)), (3, .int 0), (0, hA G 96), (1, .int x1), (2, .int x2)] dX11_dark_45 rfl (by decide) rfl ?_
        exact rf_lv _ [5, 6, 7, 4, 3, 2, 1, 0] rfl (r_X11_dark_47 C K fu fu _ _ _ _ _ _ _ _)
      · refine rf_iconst C (n := 32) (v := (-1)) dX11_dark_31 rfl (by decide) ?_
        exact rf_iret C K dX11_dark_32
noncomputable def s_X11_putsBy_2 (fu : Nat) (ih : Int32 → hM → Option (Unit × hM)) (x2 : Int32) (m : hM) : Option (Unit × hM) :=
  if 127 ≤ x2 then (
some ((), m)) else (
if hIn x2 127 then (
if hIn x2 127 then (
hLet (sI m 115 (Int32.toNatClampNeg x2) (gI m 114 (Int32.toNatClampNeg x2))) fun m4 =>
hLet (x2 + 1) fun y5 =>
ih y5 m4) else none) else none)
noncomputable def f_X11_putsBy_2 (fu : Nat) (n : Nat) : Int32 → hM → Option (Unit × hM) :=
  Nat.rec (motive := fun _ => Int32 → hM → Option (Unit × hM)) (fun _ _ => none) (fun _ ih => s_X11_putsBy_2 fu ih) n
theorem f_X11_putsBy_2_s (fu : Nat) (n : Nat) (x2 : Int32) (m : hM) : f_X11_putsBy_2 fu (n + 1) x2 m = s_X11_putsBy_2 fu (f_X11_putsBy_2 fu n) x2 m := rfl
set_option maxRecDepth 100000 in
set_option maxHeartbeats 4000000 in
theorem r_X11_putsBy_2 {G : hG} {X : hX} (C : Cx G X 1 cX11_putsBy 3 RX11 none) (K : Cr G X) (fu : Nat) (n : Nat) : ∀ (x2 : Int32) (m : hM), Rf vU G X 2 [(0, hA G 96), (1, hA G 115), (2, .int x2)] [] m (f_X11_putsBy_2 fu n x2 m) := by
  induction n with
  | zero => intros; exact rf_none
  | succ n ih =>
    intro x2 m
    show Rf vU G X 2 [(0, hA G 96), (1, hA G 115), (2, .int x2)] [] m (s_X11_putsBy_2 fu (f_X11_putsBy_2 fu n) x2 m)
    unfold s_X11_putsBy_2
    refine rf_iload_n C (n := 3) (q := 2) dX11_putsBy_2 rfl rfl rfl ?_
    refine rf_bipush C (n := 5) (v := 127) dX11_putsBy_3 rfl (by decide) ?_
    refine rf_icmp_ge C (tgt := 23) (n := 8) dX11_putsBy_5 (by decide) rfl (fun h1 => ?_) (fun h1 => ?_)
    · exact rf_vret C K dX11_putsBy_23
    · refine rf_aload_n C (n := 9) (q := 1) dX11_putsBy_8 rfl rfl rfl ?_
      refine rf_iload_n C (n := 10) (q := 2) dX11_putsBy_9 rfl rfl rfl ?_
      refine rf_aload_n C (n := 11) (q := 0) dX11_putsBy_10 rfl rfl rfl ?_
      refine rf_getS C (n := 14) fl_RX11_140 ly_96 rfl dX11_putsBy_11 rfl ?_
      refine rf_iload_n C (n := 15) (q := 2) dX11_putsBy_14 rfl rfl rfl ?_
      refine rf_guard (fun h2 => ?_)
      refine rf_iald C (n := 16) ly_114 h2 rfl dX11_putsBy_15 rfl ?_
      refine rf_guard (fun h3 => ?_)
      refine rf_iast C (n := 17) ly_115 h3 rfl dX11_putsBy_16 rfl ?_
      refine rf_letM (fun m4 => ?_)
      refine rf_iinc2 C (n := 20) (q := 2) (fun y5 => [(2, .int y5), (0, hA G 96), (1, hA G 115)]) dX11_putsBy_17 rfl rfl (by decide) (by decide) (fun _ => rfl) (fun y5 => ?_)
      refine rf_goto C (n := 2) dX11_putsBy_20 (by decide) ?_
      exact rf_lv _ [1, 2, 0] rfl (ih _ _)
noncomputable def f_X11_putsBy (fu : Nat) (m : hM) : Option (Unit × hM) :=
  f_X11_putsBy_2 fu fu 0 m
set_option maxRecDepth 100000 in
set_option maxHeartbeats 4000000 in
theorem c_X11_putsBy (G : hG) (fu : Nat) (m : hM) : Mt vU G 1 yX11_putsBy cX11_putsBy 3 none [hA G 96, hA G 115] m (f_X11_putsBy fu m) := by
  refine mt_of (by decide +kernel) (Nat.le_of_ble_eq_true rfl) (fun X C K => ?_)
  have C : Cx G X 1 cX11_putsBy 3 RX11 none := C
  show Rf vU G X 0 [(0, hA G 96), (1, hA G 115)] [] m _
  unfold f_X11_putsBy
  refine rf_iconst C (n := 1) (v := 0) dX11_putsBy_0 rfl (by decide) ?_
  refine rf_istore_n C (n := 2) [(2, .int 0), (0, hA G 96), (1, hA G 115)] dX11_putsBy_1 rfl rfl (by decide) rfl ?_
  exact rf_lv _ [1, 2, 0] rfl (r_X11_putsBy_2 C K fu fu _ _)
noncomputable def s_X11_takesBack_2 (fu : Nat) (ih : Int32 → hM → Option (Unit × hM)) (x2 : Int32) (m : hM) : Option (Unit × hM) :=
  if 127 ≤ x2 then (
some ((), m)) else (
if hIn x2 127 then (
if hIn x2 127 then (
hLet (sI m 114 (Int32.toNatClampNeg x2) (gI m 115 (Int32.toNatClampNeg x2))) fun m4 =>
hLet (x2 + 1) fun y5 =>
ih y5 m4) else none) else none)
noncomputable def f_X11_takesBack_2 (fu : Nat) (n : Nat) : Int32 → hM → Option (Unit × hM) :=
  Nat.rec (motive := fun _ => Int32 → hM → Option (Unit × hM)) (fun _ _ => none) (fun _ ih => s_X11_takesBack_2 fu ih) n
theorem f_X11_takesBack_2_s (fu : Nat) (n : Nat) (x2 : Int32) (m : hM) : f_X11_takesBack_2 fu (n + 1) x2 m = s_X11_takesBack_2 fu (f_X11_takesBack_2 fu n) x2 m := rfl
set_option maxRecDepth 100000 in
set_option maxHeartbeats 4000000 in
theorem r_X11_takesBack_2 {G : hG} {X : hX} (C : Cx G X 1 cX11_takesBack 3 RX11 none) (K : Cr G X) (fu : Nat) (n : Nat) : ∀ (x2 : Int32) (m : hM), Rf vU G X 2 [(0, hA G 96), (1, hA G 115), (2, .int x2)] [] m (f_X11_takesBack_2 fu n x2 m) := by
  induction n with
  | zero => intros; exact rf_none
  | succ n ih =>
    intro x2 m
    show Rf vU G X 2 [(0, hA G 96), (1, hA G 115), (2, .int x2)] [] m (s_X11_takesBack_2 fu (f_X11_takesBack_2 fu n) x2 m)
    unfold s_X11_takesBack_2
    refine rf_iload_n C (n := 3) (q := 2) dX11_takesBack_2 rfl rfl rfl ?_
    refine rf_bipush C (n := 5) (v := 127) dX11_takesBack_3 rfl (by decide) ?_
    refine rf_icmp_ge C (tgt := 23) (n := 8) dX11_takesBack_5 (by decide) rfl (fun h1 => ?_) (fun h1 => ?_)
    · exact rf_vret C K dX11_takesBack_23
    · refine rf_aload_n C (n := 9) (q := 0) dX11_takesBack_8 rfl rfl rfl ?_
      refine rf_getS C (n := 12) fl_RX11_140 ly_96 rfl dX11_takesBack_9 rfl ?_
      refine rf_iload_n C (n := 13) (q := 2) dX11_takesBack_12 rfl rfl rfl ?_
      refine rf_aload_n C (n := 14) (q := 1) dX11_takesBack_13 rfl rfl rfl ?_
      refine rf_iload_n C (n := 15) (q := 2) dX11_takesBack_14 rfl rfl rfl ?_
      refine rf_guard (fun h2 => ?_)
      refine rf_iald C (n := 16) ly_115 h2 rfl dX11_takesBack_15 rfl ?_
      refine rf_guard (fun h3 => ?_)
      refine rf_iast C (n := 17) ly_114 h3 rfl dX11_takesBack_16 rfl ?_
      refine rf_letM (fun m4 => ?_)
      refine rf_iinc2 C (n := 20) (q := 2) (fun y5 => [(2, .int y5), (0, hA G 96), (1, hA G 115)]) dX11_takesBack_17 rfl rfl (by decide) (by decide) (fun _ => rfl) (fun y5 => ?_)
      refine rf_goto C (n := 2) dX11_takesBack_20 (by decide) ?_
      exact rf_lv _ [1, 2, 0] rfl (ih _ _)
noncomputable def f_X11_takesBack (fu : Nat) (m : hM) : Option (Unit × hM) :=
  f_X11_takesBack_2 fu fu 0 m
set_option maxRecDepth 100000 in
set_option maxHeartbeats 4000000 in
theorem c_X11_takesBack (G : hG) (fu : Nat) (m : hM) : Mt vU G 1 yX11_takesBack cX11_takesBack 3 none [hA G 96, hA G 115] m (f_X11_takesBack fu m) := by
  refine mt_of (by decide +kernel) (Nat.le_of_ble_eq_true rfl) (fun X C K => ?_)
  have C : Cx G X 1 cX11_takesBack 3 RX11 none := C
  show Rf vU G X 0 [(0, hA G 96), (1, hA G 115)] [] m _
  unfold f_X11_takesBack
  refine rf_iconst C (n := 1) (v := 0) dX11_takesBack_0 rfl (by decide) ?_
  refine rf_istore_n C (n := 2) [(2, .int 0), (0, hA G 96), (1, hA G 115)] dX11_takesBack_1 rfl rfl (by decide) rfl ?_
  exact rf_lv _ [1, 2, 0] rfl (r_X11_takesBack_2 C K fu fu _ _)
noncomputable def f_X11_lays (fu : Nat) (x1 : Int32) (m : hM) : Option (Unit × hM) :=
  if hIn x1 8 then (
if hIn (3 + x1) 127 then (
hLet (sI m 114 (Int32.toNatClampNeg (3 + x1)) (gI m 111 (Int32.toNatClampNeg x1))) fun m3 =>
if hIn x1 8 then (
if hIn (11 + x1) 127 then (
hLet (sI m3 114 (Int32.toNatClampNeg (11 + x1)) (gI m3 109 (Int32.toNatClampNeg x1))) fun m6 =>
if hIn (19 + x1) 127 then (
hLet (sI m6 114 (Int32.toNatClampNeg (19 + x1)) 0) fun m8 =>
if hIn (27 + x1) 127 then (
hLet (sI m8 114 (Int32.toNatClampNeg (27 + x1)) 0) fun m10 =>
if hIn (35 + x1) 127 then (
hLet (sI m10 114 (Int32.toNatClampNeg (35 + x1)) (-1)) fun m12 =>
if hIn (43 + x1) 127 then (
hLet (sI m12 114 (Int32.toNatClampNeg (43 + x1)) 0) fun m14 =>
if hIn (51 + x1) 127 then (
hLet (sI m14 114 (Int32.toNatClampNeg (51 + x1)) 0) fun m16 =>
if hIn (59 + x1) 127 then (
hLet (sI m16 114 (Int32.toNatClampNeg (59 + x1)) 0) fun m18 =>
some ((), m18)) else none) else none) else none) else none) else none) else none) else none) else none) else none) else none
set_option maxRecDepth 100000 in
set_option maxHeartbeats 4000000 in
theorem c_X11_lays (G : hG) (fu : Nat) (x1 : Int32) (m : hM) : Mt vU G 1 yX11_lays cX11_lays 2 none [hA G 96, .int x1] m (f_X11_lays fu x1 m) := by
  refine mt_of (by decide +kernel) (Nat.le_of_ble_eq_true rfl) (fun X C K => ?_)
  have C : Cx G X 1 cX11_lays 2 RX11 none := C
  show Rf vU G X 0 [(0, hA G 96), (1, .int x1)] [] m _
  unfold f_X11_lays
  refine rf_aload_n C (n := 1) (q := 0) dX11_lays_0 rfl rfl rfl ?_
  refine rf_getS C (n := 4) fl_RX11_140 ly_96 rfl dX11_lays_1 rfl ?_
  refine rf_iconst C (n := 5) (v := 3) dX11_lays_4 rfl (by decide) ?_
  refine rf_iload_n C (n := 6) (q := 1) dX11_lays_5 rfl rfl rfl ?_
  refine rf_iadd C (n := 7) dX11_lays_6 rfl ?_
  refine rf_aload_n C (n := 8) (q := 0) dX11_lays_7 rfl rfl rfl ?_
  refine rf_getS C (n := 11) fl_RX11_143 ly_96 rfl dX11_lays_8 rfl ?_
  refine rf_iload_n C (n := 12) (q := 1) dX11_lays_11 rfl rfl rfl ?_
  refine rf_guard (fun h1 => ?_)
  refine rf_iald C (n := 13) ly_111 h1 rfl dX11_lays_12 rfl ?_
  refine rf_guard (fun h2 => ?_)
  refine rf_iast C (n := 14) ly_114 h2 rfl dX11_lays_13 rfl ?_
  refine rf_letM (fun m3 => ?_)
  refine rf_aload_n C (n := 15) (q := 0) dX11_lays_14 rfl rfl rfl ?_
  refine rf_getS C (n := 18) fl_RX11_140 ly_96 rfl dX11_lays_15 rfl ?_
  refine rf_bipush C (n := 20) (v := 11) dX11_lays_18 rfl (by decide) ?_
  refine rf_iload_n C (n := 21) (q := 1) dX11_lays_20 rfl rfl rfl ?_
  refine rf_iadd C (n := 22) dX11_lays_21 rfl ?_
  refine rf_aload_n C (n := 23) (q := 0) dX11_lays_22 rfl rfl rfl ?_
  refine rf_getS C (n := 26) fl_RX11_146 ly_96 rfl dX11_lays_23 rfl ?_
  refine rf_iload_n C (n := 27) (q := 1) dX11_lays_26 rfl rfl rfl ?_
  refine rf_guard (fun h4 => ?_)
  refine rf_iald C (n := 28) ly_109 h4 rfl dX11_lays_27 rfl ?_
  refine rf_guard (fun h5 => ?_)
  refine rf_iast C (n := 29) ly_114 h5 rfl dX11_lays_28 rfl ?_
  refine rf_letM (fun m6 => ?_)
  refine rf_aload_n C (n := 30) (q := 0) dX11_lays_29 rfl rfl rfl ?_
  refine rf_getS C (n := 33) fl_RX11_140 ly_96 rfl dX11_lays_30 rfl ?_
  refine rf_bipush C (n := 35) (v := 19) dX11_lays_33 rfl (by decide) ?_
  refine rf_iload_n C (n := 36) (q := 1) dX11_lays_35 rfl rfl rfl ?_
  refine rf_iadd C (n := 37) dX11_lays_36 rfl ?_
  refine rf_iconst C (n := 38) (v := 0) dX11_lays_37 rfl (by decide) ?_
  refine rf_guard (fun h7 => ?_)
  refine rf_iast C (n := 39) ly_114 h7 rfl dX11_lays_38 rfl ?_
  refine rf_letM (fun m8 => ?_)
  refine rf_aload_n C (n := 40) (q := 0) dX11_lays_39 rfl rfl rfl ?_
  refine rf_getS C (n := 43) fl_RX11_140 ly_96 rfl dX11_lays_40 rfl ?_
  refine rf_bipush C (n := 45) (v := 27) dX11_lays_43 rfl (by decide) ?_
  refine rf_iload_n C (n := 46) (q := 1) dX11_lays_45 rfl rfl rfl ?_
  refine rf_iadd C (n := 47) dX11_lays_46 rfl ?_
  refine rf_iconst C (n := 48) (v := 0) dX11_lays_47 rfl (by decide) ?_
  refine rf_guard (fun h9 => ?_)
  refine rf_iast C (n := 49) ly_114 h9 rfl dX11_lays_48 rfl ?_
  refine rf_letM (fun m10 => ?_)
  refine rf_aload_n C (n := 50) (q := 0) dX11_lays_49 rfl rfl rfl ?_
  refine rf_getS C (n := 53) fl_RX11_140 ly_96 rfl dX11_lays_50 rfl ?_
  refine rf_bipush C (n := 55) (v := 35) dX11_lays_53 rfl (by decide) ?_
  refine rf_iload_n C (n := 56) (q := 1) dX11_lays_55 rfl rfl rfl ?_
  refine rf_iadd C (n := 57) dX11_lays_56 rfl ?_
  refine rf_iconst C (n := 58) (v := (-1)) dX11_lays_57 rfl (by decide) ?_
  refine rf_guard (fun h11 => ?_)
  refine rf_iast C (n := 59) ly_114 h11 rfl dX11_lays_58 rfl ?_
  refine rf_letM (fun m12 => ?_)
  refine rf_aload_n C (n := 60) (q := 0) dX11_lays_59 rfl rfl rfl ?_
  refine rf_getS C (n := 63) fl_RX11_140 ly_96 rfl dX11_lays_60 rfl ?_
  refine rf_bipush C (n := 65) (v := 43) dX11_lays_63 rfl (by decide) ?_
  refine rf_iload_n C (n := 66) (q := 1) dX11_lays_65 rfl rfl rfl ?_
  refine rf_iadd C (n := 67) dX11_lays_66 rfl ?_
  refine rf_iconst C (n := 68) (v := 0) dX11_lays_67 rfl (by decide) ?_
  refine rf_guard (fun h13 => ?_)
  refine rf_iast C (n := 69) ly_114 h13 rfl dX11_lays_68 rfl ?_
  refine rf_letM (fun m14 => ?_)
  refine rf_aload_n C (n := 70) (q := 0) dX11_lays_69 rfl rfl rfl ?_
  refine rf_getS C (n := 73) fl_RX11_140 ly_96 rfl dX11_lays_70 rfl ?_
  refine rf_bipush C (n := 75) (v := 51) dX11_lays_73 rfl (by decide) ?_
  refine rf_iload_n C (n := 76) (q := 1) dX11_lays_75 rfl rfl rfl ?_
  refine rf_iadd C (n := 77) dX11_lays_76 rfl ?_
  refine rf_iconst C (n := 78) (v := 0) dX11_lays_77 rfl (by decide) ?_
  refine rf_guard (fun h15 => ?_)
  refine rf_iast C (n := 79) ly_114 h15 rfl dX11_lays_78 rfl ?_
  refine rf_letM (fun m16 => ?_)
  refine rf_aload_n C (n := 80) (q := 0) dX11_lays_79 rfl rfl rfl ?_
  refine rf_getS C (n := 83) fl_RX11_140 ly_96 rfl dX11_lays_80 rfl ?_
  refine rf_bipush C (n := 85) (v := 59) dX11_lays_83 rfl (by decide) ?_
  refine rf_iload_n C (n := 86) (q := 1) dX11_lays_85 rfl rfl rfl ?_
  refine rf_iadd C (n := 87) dX11_lays_86 rfl ?_
  refine rf_iconst C (n := 88) (v := 0) dX11_lays_87 rfl (by decide) ?_
  refine rf_guard (fun h17 => ?_)
  refine rf_iast C (n := 89) ly_114 h17 rfl dX11_lays_88 rfl ?_
  refine rf_letM (fun m18 => ?_)
  exact rf_vret C K dX11_lays_89
noncomputable def f_X11_piece_90 (fu : Nat) (x1 : Int32) (x2 : Int32) (x3 : Int32) (x4 : Int32) (x5 : Int32) (m : hM) : Option (Int32 × hM) :=
  if ¬ (gI m 96 16) = 8 then (
if hIn (gI m 96 16) 8 then (
hLet (sI m 108 (Int32.toNatClampNeg (gI m 96 16)) (x1 - x1 / 6 * 6)) fun m7 =>
if hIn (gI m7 96 16) 8 then (
hLet (sI m7 113 (Int32.toNatClampNeg (gI m7 96 16)) (x1 / 6)) fun m9 =>
if hIn (gI m9 96 16) 8 then (
hLet (sI m9 109 (Int32.toNatClampNeg (gI m9 96 16)) x2) fun m11 =>
if hIn (gI m11 96 16) 8 then (
hLet (sI m11 110 (Int32.toNatClampNeg (gI m11 96 16)) x3) fun m13 =>
if hIn (gI m13 96 16) 8 then (
hLet (sI m13 111 (Int32.toNatClampNeg (gI m13 96 16)) x4) fun m15 =>
if hIn (gI m15 96 16) 8 then (
hLet (sI m15 112 (Int32.toNatClampNeg (gI m15 96 16)) x5) fun m17 =>
hBd (f_X11_lays fu (gI m17 96 16) m17) fun _ m18 =>
hLet (sI m18 96 16 ((gI m18 96 16) + 1)) fun m19 =>
some ((gI m19 96 16) - 1, m19)) else none) else none) else none) else none) else none) else none) else (
some ((-1), m))
set_option maxRecDepth 100000 in
set_option maxHeartbeats 4000000 in
theorem r_X11_piece_90 {G : hG} {X : hX} (C : Cx G X 3 cX11_piece 7 RX11 (some .int)) (K : Cr G X) (fu : Nat) (x1 : Int32) (x2 : Int32) (x3 : Int32) (x4 : Int32) (x5 : Int32) (m : hM) : Rf vI G X 90 [(0, hA G 96), (1, .int x1), (2, .int x2), (3, .int x3), (4, .int x4), (5, .int x5)] [] m (f_X11_piece_90 fu x1 x2 x3 x4 x5 m) := by
  unfold f_X11_piece_90
  refine rf_aload_n C (n := 91) (q := 0) dX11_piece_90 rfl rfl rfl ?_
  refine rf_getI C (n := 94) fl_RX11_151 ly_96 rfl dX11_piece_91 rfl ?_
  refine rf_bipush C (n := 96) (v := 8) dX11_piece_94 rfl (by decide) ?_
  refine rf_icmp_ne C (tgt := 101) (n := 99) dX11_piece_96 (by decide) rfl (fun h5 => ?_) (fun h5 => ?_)
  · refine rf_aload_n C (n := 102) (q := 0) dX11_piece_101 rfl rfl rfl ?_
    refine rf_getS C (n := 105) fl_RX11_154 ly_96 rfl dX11_piece_102 rfl ?_
    refine rf_aload_n C (n := 106) (q := 0) dX11_piece_105 rfl rfl rfl ?_
    refine rf_getI C (n := 109) fl_RX11_151 ly_96 rfl dX11_piece_106 rfl ?_
    refine rf_iload_n C (n := 110) (q := 1) dX11_piece_109 rfl rfl rfl ?_
    refine rf_bipush C (n := 112) (v := 6) dX11_piece_110 rfl (by decide) ?_
    refine rf_irem C (n := 113) dX11_piece_112 rfl (by decide) ?_
    refine rf_guard (fun h6 => ?_)
    refine rf_iast C (n := 114) ly_108 h6 rfl dX11_piece_113 rfl ?_
    refine rf_letM (fun m7 => ?_)
    refine rf_aload_n C (n := 115) (q := 0) dX11_piece_114 rfl rfl rfl ?_
    refine rf_getS C (n := 118) fl_RX11_157 ly_96 rfl dX11_piece_115 rfl ?_
    refine rf_aload_n C (n := 119) (q := 0) dX11_piece_118 rfl rfl rfl ?_
    refine rf_getI C (n := 122) fl_RX11_151 ly_96 rfl dX11_piece_119 rfl ?_
    refine rf_iload_n C (n := 123) (q := 1) dX11_piece_122 rfl rfl rfl ?_
    refine rf_bipush C (n := 125) (v := 6) dX11_piece_123 rfl (by decide) ?_
    refine rf_idiv C (n := 126) dX11_piece_125 rfl (by decide) ?_
    refine rf_guard (fun h8 => ?_)
    refine rf_iast C (n := 127) ly_113 h8 rfl dX11_piece_126 rfl ?_
    refine rf_letM (fun m9 => ?_)
    refine rf_aload_n C (n := 128) (q := 0) dX11_piece_127 rfl rfl rfl ?_
    refine rf_getS C (n := 131) fl_RX11_146 ly_96 rfl dX11_piece_128 rfl ?_
    refine rf_aload_n C (n := 132) (q := 0) dX11_piece_131 rfl rfl rfl ?_
    refine rf_getI C (n := 135) fl_RX11_151 ly_96 rfl dX11_piece_132 rfl ?_
    refine rf_iload_n C (n := 136) (q := 2) dX11_piece_135 rfl rfl rfl ?_
    refine rf_guard (fun h10 => ?_)
    refine rf_iast C (n := 137) ly_109 h10 rfl dX11_piece_136 rfl ?_
    refine rf_letM (fun m11 => ?_)
    refine rf_aload_n C (n := 138) (q := 0) dX11_piece_137 rfl rfl rfl ?_
    refine rf_getS C (n := 141) fl_RX11_160 ly_96 rfl dX11_piece_138 rfl ?_
    refine rf_aload_n C (n := 142) (q := 0) dX11_piece_141 rfl rfl rfl ?_
    refine rf_getI C (n := 145) fl_RX11_151 ly_96 rfl dX11_piece_142 rfl ?_
    refine rf_iload_n C (n := 146) (q := 3) dX11_piece_145 rfl rfl rfl ?_
    refine rf_guard (fun h12 => ?_)
    refine rf_iast C (n := 147) ly_110 h12 rfl dX11_piece_146 rfl ?_
    refine rf_letM (fun m13 => ?_)
    refine rf_aload_n C (n := 148) (q := 0) dX11_piece_147 rfl rfl rfl ?_
    refine rf_getS C (n := 151) fl_RX11_143 ly_96 rfl dX11_piece_148 rfl ?_
    refine rf_aload_n C (n := 152) (q := 0) dX11_piece_151 rfl rfl rfl ?_
    refine rf_getI C (n := 155) fl_RX11_151 ly_96 rfl dX11_piece_152 rfl ?_
    refine rf_iload C (n := 157) (q := 4) dX11_piece_155 rfl rfl ?_
    refine rf_guard (fun h14 => ?_)
    refine rf_iast C (n := 158) ly_111 h14 rfl dX11_piece_157 rfl ?_
    refine rf_letM (fun m15 => ?_)
    refine rf_aload_n C (n := 159) (q := 0) dX11_piece_158 rfl rfl rfl ?_
    refine rf_getS C (n := 162) fl_RX11_163 ly_96 rfl dX11_piece_159 rfl ?_
    refine rf_aload_n C (n := 163) (q := 0) dX11_piece_162 rfl rfl rfl ?_
    refine rf_getI C (n := 166) fl_RX11_151 ly_96 rfl dX11_piece_163 rfl ?_
    refine rf_iload C (n := 168) (q := 5) dX11_piece_166 rfl rfl ?_
    refine rf_guard (fun h16 => ?_)
    refine rf_iast C (n := 169) ly_112 h16 rfl dX11_piece_168 rfl ?_
    refine rf_letM (fun m17 => ?_)
    refine rf_aload_n C (n := 170) (q := 0) dX11_piece_169 rfl rfl rfl ?_
    refine rf_aload_n C (n := 171) (q := 0) dX11_piece_170 rfl rfl rfl ?_
    refine rf_getI C (n := 174) fl_RX11_151 ly_96 rfl dX11_piece_171 rfl ?_
    refine rf_callVv C (n := 177) (c_X11_lays G fu _ _) mw_RX11_166 ly_96 rfl ⟨by decide, by decide⟩ rfl (Nat.le_of_ble_eq_true rfl) rfl dX11_piece_174 rfl (fun _ m18 => ?_)
    refine rf_aload_n C (n := 178) (q := 0) dX11_piece_177 rfl rfl rfl ?_
    refine rf_dup C (n := 179) dX11_piece_178 rfl rfl ?_
    refine rf_getI C (n := 182) fl_RX11_151 ly_96 rfl dX11_piece_179 rfl ?_
    refine rf_iconst C (n := 183) (v := 1) dX11_piece_182 rfl (by decide) ?_
    refine rf_iadd C (n := 184) dX11_piece_183 rfl ?_
    refine rf_putI C (n := 187) pl_RX11_151 ly_96 rfl ⟨rfl, rfl⟩ dX11_piece_184 rfl ?_
    refine rf_letM (fun m19 => ?_)
    refine rf_aload_n C (n := 188) (q := 0) dX11_piece_187 rfl rfl rfl ?_
    refine rf_getI C (n := 191) fl_RX11_151 ly_96 rfl dX11_piece_188 rfl ?_
    refine rf_iconst C (n := 192) (v := 1) dX11_piece_191 rfl (by decide) ?_
    refine rf_isub C (n := 193) dX11_piece_192 rfl ?_
    exact rf_iret C K dX11_piece_193
  · refine rf_iconst C (n := 100) (v := (-1)) dX11_piece_99 rfl (by decide) ?_
    exact rf_iret C K dX11_piece_100
noncomputable def f_X11_piece_68 (fu : Nat) (x1 : Int32) (x2 : Int32) (x3 : Int32) (x4 : Int32) (x5 : Int32) (s0 : Int32) (m : hM) : Option (Int32 × hM) :=
  if s0 = 0 then (
some ((-1), m)) else (
if x5 = (-1) then (
f_X11_piece_90 fu x1 x2 x3 x4 x5 m) else (
hBd (f_X11_isOffice fu x5 m) fun y20 m21 =>
if y20 = 0 then (
some ((-1), m21)) else (
f_X11_piece_90 fu x1 x2 x3 x4 x5 m21)))
set_option maxRecDepth 100000 in
set_option maxHeartbeats 4000000 in
theorem r_X11_piece_68 {G : hG} {X : hX} (C : Cx G X 3 cX11_piece 7 RX11 (some .int)) (K : Cr G X) (fu : Nat) (x1 : Int32) (x2 : Int32) (x3 : Int32) (x4 : Int32) (x5 : Int32) (s0 : Int32) (m : hM) : Rf vI G X 68 [(0, hA G 96), (1, .int x1), (2, .int x2), (3, .int x3), (4, .int x4), (5, .int x5)] [.int s0] m (f_X11_piece_68 fu x1 x2 x3 x4 x5 s0 m) := by
  unfold f_X11_piece_68
  refine rf_istore C (n := 70) [(6, .int s0), (0, hA G 96), (1, .int x1), (2, .int x2), (3, .int x3), (4, .int x4), (5, .int x5)] dX11_piece_68 rfl (by decide) rfl ?_
  refine rf_iload C (n := 72) (q := 0) dX11_piece_70 rfl rfl ?_
  refine rf_if_eq C (tgt := 99) (n := 75) dX11_piece_72 (by decide) rfl (fun h3 => ?_) (fun h3 => ?_)
  · refine rf_iconst C (n := 100) (v := (-1)) dX11_piece_99 rfl (by decide) ?_
    exact rf_iret C K dX11_piece_100
  · refine rf_iload C (n := 77) (q := 6) dX11_piece_75 rfl rfl ?_
    refine rf_iconst C (n := 78) (v := (-1)) dX11_piece_77 rfl (by decide) ?_
    refine rf_icmp_eq C (tgt := 90) (n := 81) dX11_piece_78 (by decide) rfl (fun h4 => ?_) (fun h4 => ?_)
    · exact rf_lv _ [1, 2, 3, 4, 5, 6] rfl (r_X11_piece_90 C K fu _ _ _ _ _ _)
    · refine rf_aload_n C (n := 82) (q := 1) dX11_piece_81 rfl rfl rfl ?_
      refine rf_iload C (n := 84) (q := 6) dX11_piece_82 rfl rfl ?_
      refine rf_callVi C (n := 87) (c_X11_isOffice G fu _ _) mw_RX11_77 ly_96 rfl ⟨by decide, by decide⟩ rfl (Nat.le_of_ble_eq_true rfl) rfl dX11_piece_84 rfl (fun y20 m21 => ?_)
      refine rf_if_eq C (tgt := 99) (n := 90) dX11_piece_87 (by decide) rfl (fun h22 => ?_) (fun h22 => ?_)
      · refine rf_iconst C (n := 100) (v := (-1)) dX11_piece_99 rfl (by decide) ?_
        exact rf_iret C K dX11_piece_100
      · exact rf_lv _ [1, 2, 3, 4, 5, 6] rfl (r_X11_piece_90 C K fu _ _ _ _ _ _)
noncomputable def f_X11_piece_67 (fu : Nat) (x1 : Int32) (x2 : Int32) (x3 : Int32) (x4 : Int32) (x5 : Int32) (m : hM) : Option (Int32 × hM) :=
  f_X11_piece_68 fu x1 x2 x3 x4 x5 0 m
set_option maxRecDepth 100000 in
set_option maxHeartbeats 4000000 in
theorem r_X11_piece_67 {G : hG} {X : hX} (C : Cx G X 3 cX11_piece 7 RX11 (some .int)) (K : Cr G X) (fu : Nat) (x1 : Int32) (x2 : Int32) (x3 : Int32) (x4 : Int32) (x5 : Int32) (m : hM) : Rf vI G X 67 [(0, hA G 96), (1, .int x1), (2, .int x2), (3, .int x3), (4, .int x4), (5, .int x5)] [] m (f_X11_piece_67 fu x1 x2 x3 x4 x5 m) := by
  unfold f_X11_piece_67
  refine rf_iconst C (n := 68) (v := 0) dX11_piece_67 rfl (by decide) ?_
  exact rf_lv _ [0, 1, 2, 3, 4, 5] rfl (r_X11_piece_68 C K fu _ _ _ _ _ _ _)
noncomputable def f_X11_piece (fu : Nat) (x1 : Int32) (x2 : Int32) (x3 : Int32) (x4 : Int32) (x5 : Int32) (m : hM) : Option (Int32 × hM) :=
  hLet (sI m 96 0 0) fun m1 =>
if x1 < 0 then (
f_X11_piece_67 fu x1 x2 x3 x4 x5 m1) else (
hBd (f_X11_in fu (Int32.toInt64 (x1 / 6)) 1 60 m1) fun y23 m24 =>
if y23 = 0 then (
f_X11_piece_67 fu x1 x2 x3 x4 x5 m24) else (
hBd (f_X11_in fu (Int32.toInt64 x2) 1 60 m24) fun y26 m27 =>
if y26 = 0 then (
f_X11_piece_67 fu x1 x2 x3 x4 x5 m27) else (
hBd (f_X11_in fu (Int32.toInt64 x3) 0 (Int32.toInt64 ((1 <<< ((gI m27 96 16) &&& 31)) - 1)) m27) fun y29 m30 =>
if y29 = 0 then (
f_X11_piece_67 fu x1 x2 x3 x4 x5 m30) else (
hBd (f_X11_isOffice fu x4 m30) fun y32 m33 =>
if y32 = 0 then (
f_X11_piece_67 fu x1 x2 x3 x4 x5 m33) else (
f_X11_piece_68 fu x1 x2 x3 x4 x5 1 m33)))))
set_option maxRecDepth 100000 in
set_option maxHeartbeats 4000000 in
theorem c_X11_piece (G : hG) (fu : Nat) (x1 : Int32) (x2 : Int32) (x3 : Int32) (x4 : Int32) (x5 : Int32) (m : hM) : Mt vI G 3 yX11_piece cX11_piece 7 (some .int) [hA G 96, .int x1, .int x2, .int x3, .int x4, .int x5] m (f_X11_piece fu x1 x2 x3 x4 x5 m) := by
  refine mt_of (by decide +kernel) (Nat.le_of_ble_eq_true rfl) (fun X C K => ?_)
  have C : Cx G X 3 cX11_piece 7 RX11 (some .int) := C
  show Rf vI G X 0 [(0, hA G 96), (1, .int x1), (2, .int x2), (3, .int x3), (4, .int x4), (5, .int x5)] [] m _
  unfold f_X11_piece
  refine rf_aload_n C (n := 1) (q := 0) dX11_piece_0 rfl rfl rfl ?_
  refine rf_iconst C (n := 2) (v := 0) dX11_piece_1 rfl (by decide) ?_
  refine rf_putI C (n := 5) pl_RX11_3 ly_96 rfl ⟨rfl, rfl⟩ dX11_piece_2 rfl ?_
  refine rf_letM (fun m1 => ?_)
  refine rf_iload_n C (n := 6) (q := 1) dX11_piece_5 rfl rfl rfl ?_
  refine rf_if_lt C (tgt := 67) (n := 9) dX11_piece_6 (by decide) rfl (fun h2 => ?_) (fun h2 => ?_)
  · exact rf_lv _ [0, 1, 2, 3, 4, 5] rfl (r_X11_piece_67 C K fu _ _ _ _ _ _)
  · refine rf_iload_n C (n := 10) (q := 1) dX11_piece_9 rfl rfl rfl ?_
    refine rf_bipush C (n := 12) (v := 6) dX11_piece_10 rfl (by decide) ?_
    refine rf_idiv C (n := 13) dX11_piece_12 rfl (by decide) ?_
    refine rf_i2l C (n := 14) dX11_piece_13 rfl ?_
    refine rf_lconst C (n := 15) (v := 1) dX11_piece_14 rfl (by decide) ?_
    refine rf_ldc2 C (n := 18) dX11_piece_15 rfl kl_RX11_149 ?_
    refine rf_callSi C (n := 21) (c_X11_in G fu _ _ _ _) sw_RX11_25 ⟨by decide, by decide⟩ rfl (Nat.le_of_ble_eq_true rfl) rfl dX11_piece_18 rfl (fun y23 m24 => ?_)
    refine rf_if_eq C (tgt := 67) (n := 24) dX11_piece_21 (by decide) rfl (fun h25 => ?_) (fun h25 => ?_)
    · exact rf_lv _ [0, 1, 2, 3, 4, 5] rfl (r_X11_piece_67 C K fu _ _ _ _ _ _)
    · refine rf_iload_n C (n := 25) (q := 2) dX11_piece_24 rfl rfl rfl ?_
      refine rf_i2l C (n := 26) dX11_piece_25 rfl ?_
      refine rf_lconst C (n := 27) (v := 1) dX11_piece_26 rfl (by decide) ?_
      refine rf_ldc2 C (n := 30) dX11_piece_27 rfl kl_RX11_149 ?_
      refine rf_callSi C (n := 33) (c_X11_in G fu _ _ _ _) sw_RX11_25 ⟨by decide, by decide⟩ rfl (Nat.le_of_ble_eq_true rfl) rfl dX11_piece_30 rfl (fun y26 m27 => ?_)
      refine rf_if_eq C (tgt := 67) (n := 36) dX11_piece_33 (by decide) rfl (fun h28 => ?_) (fun h28 => ?_)
      · exact rf_lv _ [0, 1, 2, 3, 4, 5] rfl (r_X11_piece_67 C K fu _ _ _ _ _ _)
      · refine rf_iload_n C (n := 37) (q := 3) dX11_piece_36 rfl rfl rfl ?_
        refine rf_i2l C (n := 38) dX11_piece_37 rfl ?_
        refine rf_lconst C (n := 39) (v := 0) dX11_piece_38 rfl (by decide) ?_
        refine rf_iconst C (n := 40) (v := 1) dX11_piece_39 rfl (by decide) ?_
        refine rf_aload_n C (n := 41) (q := 0) dX11_piece_40 rfl rfl rfl ?_
        refine rf_getI C (n := 44) fl_RX11_151 ly_96 rfl dX11_piece_41 rfl ?_
        refine rf_ishl C (n := 45) dX11_piece_44 rfl ?_
        refine rf_iconst C (n := 46) (v := 1) dX11_piece_45 rfl (by decide) ?_
        refine rf_isub C (n := 47) dX11_piece_46 rfl ?_
        refine rf_i2l C (n := 48) dX11_piece_47 rfl ?_
        refine rf_callSi C (n := 51) (c_X11_in G fu _ _ _ _) sw_RX11_25 ⟨by decide, by decide⟩ rfl (Nat.le_of_ble_eq_true rfl) rfl dX11_piece_48 rfl (fun y29 m30 => ?_)
        refine rf_if_eq C (tgt := 67) (n := 54) dX11_piece_51 (by decide) rfl (fun h31 => ?_) (fun h31 => ?_)
        · exact rf_lv _ [0, 1, 2, 3, 4, 5] rfl (r_X11_piece_67 C K fu _ _ _ _ _ _)
        · refine rf_aload_n C (n := 55) (q := 0) dX11_piece_54 rfl rfl rfl ?_
          refine rf_iload C (n := 57) (q := 4) dX11_piece_55 rfl rfl ?_
          refine rf_callVi C (n := 60) (c_X11_isOffice G fu _ _) mw_RX11_77 ly_96 rfl ⟨by decide, by decide⟩ rfl (Nat.le_of_ble_eq_true rfl) rfl dX11_piece_57 rfl (fun y32 m33 => ?_)
          refine rf_if_eq C (tgt := 67) (n := 63) dX11_piece_60 (by decide) rfl (fun h34 => ?_) (fun h34 => ?_)
          · exact rf_lv _ [0, 1, 2, 3, 4, 5] rfl (r_X11_piece_67 C K fu _ _ _ _ _ _)
          · refine rf_iconst C (n := 64) (v := 1) dX11_piece_63 rfl (by decide) ?_
            refine rf_goto C (n := 68) dX11_piece_64 (by decide) ?_
            exact rf_lv _ [0, 1, 2, 3, 4, 5] rfl (r_X11_piece_68 C K fu _ _ _ _ _ _ _)
noncomputable def f_X11_sign_53 (fu : Nat) (m : hM) : Option (Int32 × hM) :=
  hLet (sI m 96 29 ((gI m 96 29) + 4)) fun m4 =>
some (gI m4 96 29, m4)
set_option maxRecDepth 100000 in
set_option maxHeartbeats 4000000 in
theorem r_X11_sign_53 {G : hG} {X : hX} (C : Cx G X 1 cX11_sign 3 RX11 (some .int)) (K : Cr G X) (fu : Nat) (m : hM) : Rf vI G X 53 [(0, hA G 96)] [] m (f_X11_sign_53 fu m) := by
  unfold f_X11_sign_53
  refine rf_aload_n C (n := 54) (q := 0) dX11_sign_53 rfl rfl rfl ?_
  refine rf_dup C (n := 55) dX11_sign_54 rfl rfl ?_
  refine rf_getI C (n := 58) fl_RX11_170 ly_96 rfl dX11_sign_55 rfl ?_
  refine rf_iconst C (n := 59) (v := 4) dX11_sign_58 rfl (by decide) ?_
  refine rf_iadd C (n := 60) dX11_sign_59 rfl ?_
  refine rf_putI C (n := 63) pl_RX11_170 ly_96 rfl ⟨rfl, rfl⟩ dX11_sign_60 rfl ?_
  refine rf_letM (fun m4 => ?_)
  refine rf_aload_n C (n := 64) (q := 0) dX11_sign_63 rfl rfl rfl ?_
  refine rf_getI C (n := 67) fl_RX11_170 ly_96 rfl dX11_sign_64 rfl ?_
  exact rf_iret C K dX11_sign_67
noncomputable def s_X11_sign_18 (fu : Nat) (ih : Int32 → Int32 → hM → Option (Int32 × hM)) (x1 : Int32) (x2 : Int32) (m : hM) : Option (Int32 × hM) :=
  if 4 ≤ x2 then (
f_X11_sign_53 fu m) else (
if hIn ((gI m 96 29) + x2) 60 then (
hLet (sI m 119 (Int32.toNatClampNeg ((gI m 96 29) + x2)) ((x1 >>> ((24 - (8 * x2)) &&& 31)) &&& 255)) fun m6 =>
hLet (x2 + 1) fun y7 =>
ih x1 y7 m6) else none)
noncomputable def f_X11_sign_18 (fu : Nat) (n : Nat) : Int32 → Int32 → hM → Option (Int32 × hM) :=
  Nat.rec (motive := fun _ => Int32 → Int32 → hM → Option (Int32 × hM)) (fun _ _ _ => none) (fun _ ih => s_X11_sign_18 fu ih) n
theorem f_X11_sign_18_s (fu : Nat) (n : Nat) (x1 : Int32) (x2 : Int32) (m : hM) : f_X11_sign_18 fu (n + 1) x1 x2 m = s_X11_sign_18 fu (f_X11_sign_18 fu n) x1 x2 m := rfl
set_option maxRecDepth 100000 in
set_option maxHeartbeats 4000000 in
theorem r_X11_sign_18 {G : hG} {X : hX} (C : Cx G X 1 cX11_sign 3 RX11 (some .int)) (K : Cr G X) (fu : Nat) (n : Nat) : ∀ (x1 : Int32) (x2 : Int32) (m : hM), Rf vI G X 18 [(0, hA G 96), (1, .int x1), (2, .int x2)] [] m (f_X11_sign_18 fu n x1 x2 m) := by
  induction n with
  | zero => intros; exact rf_none
  | succ n ih =>
    intro x1 x2 m
    show Rf vI G X 18 [(0, hA G 96), (1, .int x1), (2, .int x2)] [] m (s_X11_sign_18 fu (f_X11_sign_18 fu n) x1 x2 m)
    unfold s_X11_sign_18
    refine rf_iload_n C (n := 19) (q := 2) dX11_sign_18 rfl rfl rfl ?_
    refine rf_iconst C (n := 20) (v := 4) dX11_sign_19 rfl (by decide) ?_
    refine rf_icmp_ge C (tgt := 53) (n := 23) dX11_sign_20 (by decide) rfl (fun h3 => ?_) (fun h3 => ?_)
    · exact rf_lv _ [0] rfl (r_X11_sign_53 C K fu _)
    · refine rf_aload_n C (n := 24) (q := 0) dX11_sign_23 rfl rfl rfl ?_
      refine rf_getS C (n := 27) fl_RX11_173 ly_96 rfl dX11_sign_24 rfl ?_
      refine rf_aload_n C (n := 28) (q := 0) dX11_sign_27 rfl rfl rfl ?_
      refine rf_getI C (n := 31) fl_RX11_170 ly_96 rfl dX11_sign_28 rfl ?_
      refine rf_iload_n C (n := 32) (q := 2) dX11_sign_31 rfl rfl rfl ?_
      refine rf_iadd C (n := 33) dX11_sign_32 rfl ?_
      refine rf_iload_n C (n := 34) (q := 1) dX11_sign_33 rfl rfl rfl ?_
      refine rf_bipush C (n := 36) (v := 24) dX11_sign_34 rfl (by decide) ?_
      refine rf_bipush C (n := 38) (v := 8) dX11_sign_36 rfl (by decide) ?_
      refine rf_iload_n C (n := 39) (q := 2) dX11_sign_38 rfl rfl rfl ?_
      refine rf_imul C (n := 40) dX11_sign_39 rfl ?_
      refine rf_isub C (n := 41) dX11_sign_40 rfl ?_
      refine rf_ishr C (n := 42) dX11_sign_41 rfl ?_
      refine rf_sipush C (n := 45) (v := 255) dX11_sign_42 rfl (by decide) ?_
      refine rf_iand C (n := 46) dX11_sign_45 rfl ?_
      refine rf_guard (fun h5 => ?_)
      refine rf_iast C (n := 47) ly_119 h5 rfl dX11_sign_46 rfl ?_
      refine rf_letM (fun m6 => ?_)
      refine rf_iinc2 C (n := 50) (q := 2) (fun y7 => [(2, .int y7), (0, hA G 96), (1, .int x1)]) dX11_sign_47 rfl rfl (by decide) (by decide) (fun _ => rfl) (fun y7 => ?_)
      refine rf_goto C (n := 18) dX11_sign_50 (by decide) ?_
      exact rf_lv _ [1, 2, 0] rfl (ih _ _ _)
noncomputable def f_X11_sign (fu : Nat) (x1 : Int32) (m : hM) : Option (Int32 × hM) :=
  hLet (sI m 96 0 0) fun m1 =>
if (gI m1 96 29) ≤ 56 then (
f_X11_sign_18 fu fu x1 0 m1) else (
some ((-1), m1))
set_option maxRecDepth 100000 in
set_option maxHeartbeats 4000000 in
theorem c_X11_sign (G : hG) (fu : Nat) (x1 : Int32) (m : hM) : Mt vI G 1 yX11_sign cX11_sign 3 (some .int) [hA G 96, .int x1] m (f_X11_sign fu x1 m) := by
  refine mt_of (by decide +kernel) (Nat.le_of_ble_eq_true rfl) (fun X C K => ?_)
  have C : Cx G X 1 cX11_sign 3 RX11 (some .int) := C
  show Rf vI G X 0 [(0, hA G 96), (1, .int x1)] [] m _
  unfold f_X11_sign
  refine rf_aload_n C (n := 1) (q := 0) dX11_sign_0 rfl rfl rfl ?_
  refine rf_iconst C (n := 2) (v := 0) dX11_sign_1 rfl (by decide) ?_
  refine rf_putI C (n := 5) pl_RX11_3 ly_96 rfl ⟨rfl, rfl⟩ dX11_sign_2 rfl ?_
  refine rf_letM (fun m1 => ?_)
  refine rf_aload_n C (n := 6) (q := 0) dX11_sign_5 rfl rfl rfl ?_
  refine rf_getI C (n := 9) fl_RX11_170 ly_96 rfl dX11_sign_6 rfl ?_
  refine rf_bipush C (n := 11) (v := 56) dX11_sign_9 rfl (by decide) ?_
  refine rf_icmp_le C (tgt := 16) (n := 14) dX11_sign_11 (by decide) rfl (fun h2 => ?_) (fun h2 => ?_)
  · refine rf_iconst C (n := 17) (v := 0) dX11_sign_16 rfl (by decide) ?_
    refine rf_istore_n C (n := 18) [(2, .int 0), (0, hA G 96), (1, .int x1)] dX11_sign_17 rfl rfl (by decide) rfl ?_
    exact rf_lv _ [1, 2, 0] rfl (r_X11_sign_18 C K fu fu _ _ _)
  · refine rf_iconst C (n := 15) (v := (-1)) dX11_sign_14 rfl (by decide) ?_
    exact rf_iret C K dX11_sign_15
noncomputable def f_X11_end (fu : Nat) (x1 : Int32) (m : hM) : Option (Int32 × hM) :=
  hLet (sI m 96 0 0) fun m1 =>
hBd (f_X11_in fu (Int32.toInt64 x1) 0 (Int32.toInt64 (gI m1 96 29)) m1) fun y2 m3 =>
if ¬ y2 = 0 then (
hLet (sI m3 96 29 x1) fun m5 =>
some (1, m5)) else (
some (0, m3))
set_option maxRecDepth 100000 in
set_option maxHeartbeats 4000000 in
theorem c_X11_end (G : hG) (fu : Nat) (x1 : Int32) (m : hM) : Mt vI G 2 yX11_end cX11_end 2 (some .boolean) [hA G 96, .int x1] m (f_X11_end fu x1 m) := by
  refine mt_of (by decide +kernel) (Nat.le_of_ble_eq_true rfl) (fun X C K => ?_)
  have C : Cx G X 2 cX11_end 2 RX11 (some .boolean) := C
  show Rf vI G X 0 [(0, hA G 96), (1, .int x1)] [] m _
  unfold f_X11_end
  refine rf_aload_n C (n := 1) (q := 0) dX11_end_0 rfl rfl rfl ?_
  refine rf_iconst C (n := 2) (v := 0) dX11_end_1 rfl (by decide) ?_
  refine rf_putI C (n := 5) pl_RX11_3 ly_96 rfl ⟨rfl, rfl⟩ dX11_end_2 rfl ?_
  refine rf_letM (fun m1 => ?_)
  refine rf_iload_n C (n := 6) (q := 1) dX11_end_5 rfl rfl rfl ?_
  refine rf_i2l C (n := 7) dX11_end_6 rfl ?_
  refine rf_lconst C (n := 8) (v := 0) dX11_end_7 rfl (by decide) ?_
  refine rf_aload_n C (n := 9) (q := 0) dX11_end_8 rfl rfl rfl ?_
  refine rf_getI C (n := 12) fl_RX11_170 ly_96 rfl dX11_end_9 rfl ?_
  refine rf_i2l C (n := 13) dX11_end_12 rfl ?_
  refine rf_callSi C (n := 16) (c_X11_in G fu _ _ _ _) sw_RX11_25 ⟨by decide, by decide⟩ rfl (Nat.le_of_ble_eq_true rfl) rfl dX11_end_13 rfl (fun y2 m3 => ?_)
  refine rf_if_ne C (tgt := 21) (n := 19) dX11_end_16 (by decide) rfl (fun h4 => ?_) (fun h4 => ?_)
  · refine rf_aload_n C (n := 22) (q := 0) dX11_end_21 rfl rfl rfl ?_
    refine rf_iload_n C (n := 23) (q := 1) dX11_end_22 rfl rfl rfl ?_
    refine rf_putI C (n := 26) pl_RX11_170 ly_96 rfl ⟨rfl, rfl⟩ dX11_end_23 rfl ?_
    refine rf_letM (fun m5 => ?_)
    refine rf_iconst C (n := 27) (v := 1) dX11_end_26 rfl (by decide) ?_
    exact rf_zret C K (by decide) dX11_end_27
  · refine rf_iconst C (n := 20) (v := 0) dX11_end_19 rfl (by decide) ?_
    exact rf_zret C K (by decide) dX11_end_20
noncomputable def f_X11_isDigit (fu : Nat) (m : hM) : Option (Int32 × hM) :=
  if (gI m 96 31) ≤ (gI m 96 30) then (
some (0, m)) else (
if hIn (gI m 96 30) 60 then (
hBd (f_X11_in fu (Int32.toInt64 (gI m 119 (Int32.toNatClampNeg (gI m 96 30)))) 48 57 m) fun y3 m4 =>
if y3 = 0 then (
some (0, m4)) else (
some (1, m4))) else none)
set_option maxRecDepth 100000 in
set_option maxHeartbeats 4000000 in
theorem c_X11_isDigit (G : hG) (fu : Nat) (m : hM) : Mt vI G 2 yX11_isDigit cX11_isDigit 1 (some .boolean) [hA G 96] m (f_X11_isDigit fu m) := by
  refine mt_of (by decide +kernel) (Nat.le_of_ble_eq_true rfl) (fun X C K => ?_)
  have C : Cx G X 2 cX11_isDigit 1 RX11 (some .boolean) := C
  show Rf vI G X 0 [(0, hA G 96)] [] m _
  unfold f_X11_isDigit
  refine rf_aload_n C (n := 1) (q := 0) dX11_isDigit_0 rfl rfl rfl ?_
  refine rf_getI C (n := 4) fl_RX11_176 ly_96 rfl dX11_isDigit_1 rfl ?_
  refine rf_aload_n C (n := 5) (q := 0) dX11_isDigit_4 rfl rfl rfl ?_
  refine rf_getI C (n := 8) fl_RX11_179 ly_96 rfl dX11_isDigit_5 rfl ?_
  refine rf_icmp_ge C (tgt := 37) (n := 11) dX11_isDigit_8 (by decide) rfl (fun h1 => ?_) (fun h1 => ?_)
  · refine rf_iconst C (n := 38) (v := 0) dX11_isDigit_37 rfl (by decide) ?_
    exact rf_zret C K (by decide) dX11_isDigit_38
  · refine rf_aload_n C (n := 12) (q := 0) dX11_isDigit_11 rfl rfl rfl ?_
    refine rf_getS C (n := 15) fl_RX11_173 ly_96 rfl dX11_isDigit_12 rfl ?_
    refine rf_aload_n C (n := 16) (q := 0) dX11_isDigit_15 rfl rfl rfl ?_
    refine rf_getI C (n := 19) fl_RX11_176 ly_96 rfl dX11_isDigit_16 rfl ?_
    refine rf_guard (fun h2 => ?_)
    refine rf_iald C (n := 20) ly_119 h2 rfl dX11_isDigit_19 rfl ?_
    refine rf_i2l C (n := 21) dX11_isDigit_20 rfl ?_
    refine rf_ldc2 C (n := 24) dX11_isDigit_21 rfl kl_RX11_182 ?_
    refine rf_ldc2 C (n := 27) dX11_isDigit_24 rfl kl_RX11_184 ?_
    refine rf_callSi C (n := 30) (c_X11_in G fu _ _ _ _) sw_RX11_25 ⟨by decide, by decide⟩ rfl (Nat.le_of_ble_eq_true rfl) rfl dX11_isDigit_27 rfl (fun y3 m4 => ?_)
    refine rf_if_eq C (tgt := 37) (n := 33) dX11_isDigit_30 (by decide) rfl (fun h5 => ?_) (fun h5 => ?_)
    · refine rf_iconst C (n := 38) (v := 0) dX11_isDigit_37 rfl (by decide) ?_
      exact rf_zret C K (by decide) dX11_isDigit_38
    · refine rf_iconst C (n := 34) (v := 1) dX11_isDigit_33 rfl (by decide) ?_
      refine rf_goto C (n := 38) dX11_isDigit_34 (by decide) ?_
      exact rf_zret C K (by decide) dX11_isDigit_38
noncomputable def f_X11_marks (fu : Nat) (x1 : Int32) (m : hM) : Option (Unit × hM) :=
  if hIn (48 + (gI m 117 1)) 96 then (
hLet (sI m 116 (Int32.toNatClampNeg (48 + (gI m 117 1))) x1) fun m2 =>
hLet (sI m2 117 1 ((gI m2 117 1) + 1)) fun m3 =>
some ((), m3)) else none
set_option maxRecDepth 100000 in
set_option maxHeartbeats 4000000 in
theorem c_X11_marks (G : hG) (fu : Nat) (x1 : Int32) (m : hM) : Mt vU G 1 yX11_marks cX11_marks 2 none [hA G 96, .int x1] m (f_X11_marks fu x1 m) := by
  refine mt_of (by decide +kernel) (Nat.le_of_ble_eq_true rfl) (fun X C K => ?_)
  have C : Cx G X 1 cX11_marks 2 RX11 none := C
  show Rf vU G X 0 [(0, hA G 96), (1, .int x1)] [] m _
  unfold f_X11_marks
  refine rf_aload_n C (n := 1) (q := 0) dX11_marks_0 rfl rfl rfl ?_
  refine rf_getS C (n := 4) fl_RX11_196 ly_96 rfl dX11_marks_1 rfl ?_
  refine rf_bipush C (n := 6) (v := 48) dX11_marks_4 rfl (by decide) ?_
  refine rf_aload_n C (n := 7) (q := 0) dX11_marks_6 rfl rfl rfl ?_
  refine rf_getS C (n := 10) fl_RX11_199 ly_96 rfl dX11_marks_7 rfl ?_
  refine rf_iconst C (n := 11) (v := 1) dX11_marks_10 rfl (by decide) ?_
  refine rf_iald C (n := 12) (j := 1) ly_117 (by decide) (by decide) dX11_marks_11 rfl ?_
  refine rf_iadd C (n := 13) dX11_marks_12 rfl ?_
  refine rf_iload_n C (n := 14) (q := 1) dX11_marks_13 rfl rfl rfl ?_
  refine rf_guard (fun h1 => ?_)
  refine rf_iast C (n := 15) ly_116 h1 rfl dX11_marks_14 rfl ?_
  refine rf_letM (fun m2 => ?_)
  refine rf_aload_n C (n := 16) (q := 0) dX11_marks_15 rfl rfl rfl ?_
  refine rf_getS C (n := 19) fl_RX11_199 ly_96 rfl dX11_marks_16 rfl ?_
  refine rf_iconst C (n := 20) (v := 1) dX11_marks_19 rfl (by decide) ?_
  refine rf_dup2 C (n := 21) dX11_marks_20 rfl rfl rfl ?_
  refine rf_iald C (n := 22) (j := 1) ly_117 (by decide) (by decide) dX11_marks_21 rfl ?_
  refine rf_iconst C (n := 23) (v := 1) dX11_marks_22 rfl (by decide) ?_
  refine rf_iadd C (n := 24) dX11_marks_23 rfl ?_
  refine rf_iast C (n := 25) (j0 := 1) ly_117 (by decide) (by decide) dX11_marks_24 rfl ?_
  refine rf_letM (fun m3 => ?_)
  exact rf_vret C K dX11_marks_25
noncomputable def s_X11_opensIn_2 (fu : Nat) (ih : Int32 → Int32 → Int32 → hM → Option (Int32 × hM)) (x1 : Int32) (x2 : Int32) (x3 : Int32) (m : hM) : Option (Int32 × hM) :=
  if 99 ≤ x3 then (
some (x3, m)) else (
hBd (f_X11_isOpen fu x1 (x2 + x3) m) fun y2 m3 =>
if ¬ y2 = 0 then (
some (x3, m3)) else (
hLet (x3 + 1) fun y5 =>
ih x1 x2 y5 m3))
noncomputable def f_X11_opensIn_2 (fu : Nat) (n : Nat) : Int32 → Int32 → Int32 → hM → Option (Int32 × hM) :=
  Nat.rec (motive := fun _ => Int32 → Int32 → Int32 → hM → Option (Int32 × hM)) (fun _ _ _ _ => none) (fun _ ih => s_X11_opensIn_2 fu ih) n
theorem f_X11_opensIn_2_s (fu : Nat) (n : Nat) (x1 : Int32) (x2 : Int32) (x3 : Int32) (m : hM) : f_X11_opensIn_2 fu (n + 1) x1 x2 x3 m = s_X11_opensIn_2 fu (f_X11_opensIn_2 fu n) x1 x2 x3 m := rfl
set_option maxRecDepth 100000 in
set_option maxHeartbeats 4000000 in
theorem r_X11_opensIn_2 {G : hG} {X : hX} (C : Cx G X 4 cX11_opensIn 4 RX11 (some .int)) (K : Cr G X) (fu : Nat) (n : Nat) : ∀ (x1 : Int32) (x2 : Int32) (x3 : Int32) (m : hM), Rf vI G X 2 [(0, hA G 96), (1, .int x1), (2, .int x2), (3, .int x3)] [] m (f_X11_opensIn_2 fu n x1 x2 x3 m) := by
  induction n with
  | zero => intros; exact rf_none
  | succ n ih =>
    intro x1 x2 x3 m
    show Rf vI G X 2 [(0, hA G 96), (1, .int x1), (2, .int x2), (3, .int x3)] [] m (s_X11_opensIn_2 fu (f_X11_opensIn_2 fu n) x1 x2 x3 m)
    unfold s_X11_opensIn_2
    refine rf_iload_n C (n := 3) (q := 3) dX11_opensIn_2 rfl rfl rfl ?_
    refine rf_bipush C (n := 5) (v := 99) dX11_opensIn_3 rfl (by decide) ?_
    refine rf_icmp_ge C (tgt := 25) (n := 8) dX11_opensIn_5 (by decide) rfl (fun h1 => ?_) (fun h1 => ?_)
    · refine rf_iload_n C (n := 26) (q := 3) dX11_opensIn_25 rfl rfl rfl ?_
      exact rf_iret C K dX11_opensIn_26
    · refine rf_aload_n C (n := 9) (q := 0) dX11_opensIn_8 rfl rfl rfl ?_
      refine rf_iload_n C (n := 10) (q := 1) dX11_opensIn_9 rfl rfl rfl ?_
      refine rf_iload_n C (n := 11) (q := 2) dX11_opensIn_10 rfl rfl rfl ?_
      refine rf_iload_n C (n := 12) (q := 3) dX11_opensIn_11 rfl rfl rfl ?_
      refine rf_iadd C (n := 13) dX11_opensIn_12 rfl ?_
      refine rf_callVi C (n := 16) (c_X11_isOpen G fu _ _ _) mw_RX11_120 ly_96 rfl ⟨by decide, by decide⟩ rfl (Nat.le_of_ble_eq_true rfl) rfl dX11_opensIn_13 rfl (fun y2 m3 => ?_)
      refine rf_if_ne C (tgt := 25) (n := 19) dX11_opensIn_16 (by decide) rfl (fun h4 => ?_) (fun h4 => ?_)
      · refine rf_iload_n C (n := 26) (q := 3) dX11_opensIn_25 rfl rfl rfl ?_
        exact rf_iret C K dX11_opensIn_26
      · refine rf_iinc2 C (n := 22) (q := 3) (fun y5 => [(3, .int y5), (0, hA G 96), (1, .int x1), (2, .int x2)]) dX11_opensIn_19 rfl rfl (by decide) (by decide) (fun _ => rfl) (fun y5 => ?_)
        refine rf_goto C (n := 2) dX11_opensIn_22 (by decide) ?_
        exact rf_lv _ [1, 2, 3, 0] rfl (ih _ _ _ _)
noncomputable def f_X11_opensIn (fu : Nat) (x1 : Int32) (x2 : Int32) (m : hM) : Option (Int32 × hM) :=
  f_X11_opensIn_2 fu fu x1 x2 0 m
set_option maxRecDepth 100000 in
set_option maxHeartbeats 4000000 in
theorem c_X11_opensIn (G : hG) (fu : Nat) (x1 : Int32) (x2 : Int32) (m : hM) : Mt vI G 4 yX11_opensIn cX11_opensIn 4 (some .int) [hA G 96, .int x1, .int x2] m (f_X11_opensIn fu x1 x2 m) := by
  refine mt_of (by decide +kernel) (Nat.le_of_ble_eq_true rfl) (fun X C K => ?_)
  have C : Cx G X 4 cX11_opensIn 4 RX11 (some .int) := C
  show Rf vI G X 0 [(0, hA G 96), (1, .int x1), (2, .int x2)] [] m _
  unfold f_X11_opensIn
  refine rf_iconst C (n := 1) (v := 0) dX11_opensIn_0 rfl (by decide) ?_
  refine rf_istore_n C (n := 2) [(3, .int 0), (0, hA G 96), (1, .int x1), (2, .int x2)] dX11_opensIn_1 rfl rfl (by decide) rfl ?_
  exact rf_lv _ [1, 2, 3, 0] rfl (r_X11_opensIn_2 C K fu fu _ _ _ _)
noncomputable def f_X11_valueOf_150 (fu : Nat) (s0 : Int32) (m : hM) : Option (Int32 × hM) :=
  hBd (f_X11_flag fu s0 m) fun y28 m29 =>
some (y28, m29)
set_option maxRecDepth 100000 in
set_option maxHeartbeats 4000000 in
theorem r_X11_valueOf_150 {G : hG} {X : hX} (C : Cx G X 6 cX11_valueOf 6 RX11 (some .int)) (K : Cr G X) (fu : Nat) (s0 : Int32) (m : hM) : Rf vI G X 150 [] [.int s0] m (f_X11_valueOf_150 fu s0 m) := by
  unfold f_X11_valueOf_150
  refine rf_callSi C (n := 153) (c_X11_flag G fu _ _) sw_RX11_124 ⟨by decide, by decide⟩ rfl (Nat.le_of_ble_eq_true rfl) rfl dX11_valueOf_150 rfl (fun y28 m29 => ?_)
  exact rf_iret C K dX11_valueOf_153
noncomputable def f_X11_valueOf_169 (fu : Nat) (s0 : Int32) (m : hM) : Option (Int32 × hM) :=
  hBd (f_X11_flag fu s0 m) fun y33 m34 =>
some (y33, m34)
set_option maxRecDepth 100000 in
set_option maxHeartbeats 4000000 in
theorem r_X11_valueOf_169 {G : hG} {X : hX} (C : Cx G X 6 cX11_valueOf 6 RX11 (some .int)) (K : Cr G X) (fu : Nat) (s0 : Int32) (m : hM) : Rf vI G X 169 [] [.int s0] m (f_X11_valueOf_169 fu s0 m) := by
  unfold f_X11_valueOf_169
  refine rf_callSi C (n := 172) (c_X11_flag G fu _ _) sw_RX11_124 ⟨by decide, by decide⟩ rfl (Nat.le_of_ble_eq_true rfl) rfl dX11_valueOf_169 rfl (fun y33 m34 => ?_)
  exact rf_iret C K dX11_valueOf_172
noncomputable def f_X11_valueOf_188 (fu : Nat) (s0 : Int32) (m : hM) : Option (Int32 × hM) :=
  hBd (f_X11_flag fu s0 m) fun y38 m39 =>
some (y38, m39)
set_option maxRecDepth 100000 in
set_option maxHeartbeats 4000000 in
theorem r_X11_valueOf_188 {G : hG} {X : hX} (C : Cx G X 6 cX11_valueOf 6 RX11 (some .int)) (K : Cr G X) (fu : Nat) (s0 : Int32) (m : hM) : Rf vI G X 188 [] [.int s0] m (f_X11_valueOf_188 fu s0 m) := by
  unfold f_X11_valueOf_188
  refine rf_callSi C (n := 191) (c_X11_flag G fu _ _) sw_RX11_124 ⟨by decide, by decide⟩ rfl (Nat.le_of_ble_eq_true rfl) rfl dX11_valueOf_188 rfl (fun y38 m39 => ?_)
  exact rf_iret C K dX11_valueOf_191
noncomputable def f_X11_valueOf (fu : Nat) (x1 : Int32) (x2 : Int32) (x3 : Int32) (x4 : Int32) (m : hM) : Option (Int32 × hM) :=
  if hIn (3 + x2) 127 then (
hLet (gI m 114 (Int32.toNatClampNeg (3 + x2))) fun y2 =>
if x1 = 0 then (
if hIn ((6 * y2) + x3) 36 then (
some (gI m 107 (Int32.toNatClampNeg ((6 * y2) + x3)), m)) else none) else if x1 = 1 then (
hBd (f_X11_lostOf fu y2 x3 x4 m) fun y6 m7 =>
some (y6, m7)) else if x1 = 2 then (
hBd (f_X11_overlapOf fu y2 x3 x4 m) fun y9 m10 =>
some (y9, m10)) else if x1 = 3 then (
hBd (f_X11_isOpen fu x3 x4 m) fun y12 m13 =>
hBd (f_X11_flag fu y12 m13) fun y14 m15 =>
some (y14, m15)) else if x1 = 4 then (
hBd (f_X11_opensIn fu x3 x4 m) fun y17 m18 =>
some (y17, m18)) else if x1 = 5 then (
if hIn x3 6 then (
if hIn x2 8 then (
hBd (f_X11_has fu (gI m 103 (Int32.toNatClampNeg x3)) (gI m 108 (Int32.toNatClampNeg x2)) m) fun y22 m23 =>
hBd (f_X11_flag fu y22 m23) fun y24 m25 =>
some (y24, m25)) else none) else none) else if x1 = 6 then (
if ¬ y2 = x3 then (
f_X11_valueOf_150 fu 0 m) else (
f_X11_valueOf_150 fu 1 m)) else if x1 = 7 then (
if hIn x2 8 then (
if ¬ (gI m 111 (Int32.toNatClampNeg x2)) = x3 then (
f_X11_valueOf_169 fu 0 m) else (
f_X11_valueOf_169 fu 1 m)) else none) else if x1 = 8 then (
if hIn x2 8 then (
if ¬ (gI m 112 (Int32.toNatClampNeg x2)) = x3 then (
f_X11_valueOf_188 fu 0 m) else (
f_X11_valueOf_188 fu 1 m)) else none) else if x1 = 9 then (
if hIn x3 6 then (
some (gI m 101 (Int32.toNatClampNeg x3), m)) else none) else if x1 = 10 then (
if hIn (11 + x2) 127 then (
some (gI m 114 (Int32.toNatClampNeg (11 + x2)), m)) else none) else (
some (x3, m))) else none
set_option maxRecDepth 100000 in
set_option maxHeartbeats 4000000 in
theorem c_X11_valueOf (G : hG) (fu : Nat) (x1 : Int32) (x2 : Int32) (x3 : Int32) (x4 : Int32) (m : hM) : Mt vI G 6 yX11_valueOf cX11_valueOf 6 (some .int) [hA G 96, .int x1, .int x2, .int x3, .int x4] m (f_X11_valueOf fu x1 x2 x3 x4 m) := by
  refine mt_of (by decide +kernel) (Nat.le_of_ble_eq_true rfl) (fun X C K => ?_)
  have C : Cx G X 6 cX11_valueOf 6 RX11 (some .int) := C
  show Rf vI G X 0 [(0, hA G 96), (1, .int x1), (2, .int x2), (3, .int x3), (4, .int x4)] [] m _
  unfold f_X11_valueOf
  refine rf_aload_n C (n := 1) (q := 0) dX11_valueOf_0 rfl rfl rfl ?_
  refine rf_getS C (n := 4) fl_RX11_140 ly_96 rfl dX11_valueOf_1 rfl ?_
  refine rf_iconst C (n := 5) (v := 3) dX11_valueOf_4 rfl (by decide) ?_
  refine rf_iload_n C (n := 6) (q := 2) dX11_valueOf_5 rfl rfl rfl ?_
  refine rf_iadd C (n := 7) dX11_valueOf_6 rfl ?_
  refine rf_guard (fun h1 => ?_)
  refine rf_iald C (n := 8) ly_114 h1 rfl dX11_valueOf_7 rfl ?_
  refine rf_letI (fun y2 => ?_)
  refine rf_istore C (n := 10) [(5, .int y2), (0, hA G 96), (1, .int x1), (2, .int x2), (3, .int x3), (4, .int x4)] dX11_valueOf_8 rfl (by decide) rfl ?_
  refine rf_iload_n C (n := 11) (q := 2) dX11_valueOf_10 rfl rfl rfl ?_
  refine rf_sw (fun h3 => ?_) (fun h3 => ?_)
  · refine rf_tabIn C (n := 68) (off := 57) dX11_valueOf_11 h3 (by decide) (by decide) (by decide) (by decide) ?_
    refine rf_aload_n C (n := 69) (q := 1) dX11_valueOf_68 rfl rfl rfl ?_
    refine rf_getS C (n := 72) fl_RX11_60 ly_96 rfl dX11_valueOf_69 rfl ?_
    refine rf_bipush C (n := 74) (v := 6) dX11_valueOf_72 rfl (by decide) ?_
    refine rf_iload C (n := 76) (q := 0) dX11_valueOf_74 rfl rfl ?_
    refine rf_imul C (n := 77) dX11_valueOf_76 rfl ?_
    refine rf_iload_n C (n := 78) (q := 4) dX11_valueOf_77 rfl rfl rfl ?_
    refine rf_iadd C (n := 79) dX11_valueOf_78 rfl ?_
    refine rf_guard (fun h4 => ?_)
    refine rf_iald C (n := 80) ly_107 h4 rfl dX11_valueOf_79 rfl ?_
    exact rf_iret C K dX11_valueOf_80
  refine rf_sw (fun h5 => ?_) (fun h5 => ?_)
  · refine rf_tabIn C (n := 81) (off := 70) dX11_valueOf_11 h5 (by decide) (by decide) (by decide) (by decide) ?_
    refine rf_aload_n C (n := 82) (q := 1) dX11_valueOf_81 rfl rfl rfl ?_
    refine rf_iload C (n := 84) (q := 0) dX11_valueOf_82 rfl rfl ?_
    refine rf_iload_n C (n := 85) (q := 4) dX11_valueOf_84 rfl rfl rfl ?_
    refine rf_iload C (n := 87) (q := 5) dX11_valueOf_85 rfl rfl ?_
    refine rf_callVi C (n := 90) (c_X11_lostOf G fu _ _ _ _) mw_RX11_132 ly_96 rfl ⟨by decide, by decide⟩ rfl (Nat.le_of_ble_eq_true rfl) rfl dX11_valueOf_87 rfl (fun y6 m7 => ?_)
    exact rf_iret C K dX11_valueOf_90
  refine rf_sw (fun h8 => ?_) (fun h8 => ?_)
  · refine rf_tabIn C (n := 91) (off := 80) dX11_valueOf_11 h8 (by decide) (by decide) (by decide) (by decide) ?_
    refine rf_aload_n C (n := 92) (q := 1) dX11_valueOf_91 rfl rfl rfl ?_
    refine rf_iload C (n := 94) (q := 0) dX11_valueOf_92 rfl rfl ?_
    refine rf_iload_n C (n := 95) (q := 4) dX11_valueOf_94 rfl rfl rfl ?_
    refine rf_iload C (n := 97) (q := 5) dX11_valueOf_95 rfl rfl ?_
    refine rf_callVi C (n := 100) (c_X11_overlapOf G fu _ _ _ _) mw_RX11_128 ly_96 rfl ⟨by decide, by decide⟩ rfl (Nat.le_of_ble_eq_true rfl) rfl dX11_valueOf_97 rfl (fun y9 m10 => ?_)
    exact rf_iret C K dX11_valueOf_100
  refine rf_sw (fun h11 => ?_) (fun h11 => ?_)
  · refine rf_tabIn C (n := 101) (off := 90) dX11_valueOf_11 h11 (by decide) (by decide) (by decide) (by decide) ?_
    refine rf_aload_n C (n := 102) (q := 1) dX11_valueOf_101 rfl rfl rfl ?_
    refine rf_iload_n C (n := 103) (q := 4) dX11_valueOf_102 rfl rfl rfl ?_
    refine rf_iload C (n := 105) (q := 5) dX11_valueOf_103 rfl rfl ?_
    refine rf_callVi C (n := 108) (c_X11_isOpen G fu _ _ _) mw_RX11_120 ly_96 rfl ⟨by decide, by decide⟩ rfl (Nat.le_of_ble_eq_true rfl) rfl dX11_valueOf_105 rfl (fun y12 m13 => ?_)
    refine rf_callSi C (n := 111) (c_X11_flag G fu _ _) sw_RX11_124 ⟨by decide, by decide⟩ rfl (Nat.le_of_ble_eq_true rfl) rfl dX11_valueOf_108 rfl (fun y14 m15 => ?_)
    exact rf_iret C K dX11_valueOf_111
  refine rf_sw (fun h16 => ?_) (fun h16 => ?_)
  · refine rf_tabIn C (n := 112) (off := 101) dX11_valueOf_11 h16 (by decide) (by decide) (by decide) (by decide) ?_
    refine rf_aload_n C (n := 113) (q := 1) dX11_valueOf_112 rfl rfl rfl ?_
    refine rf_iload_n C (n := 114) (q := 4) dX11_valueOf_113 rfl rfl rfl ?_
    refine rf_iload C (n := 116) (q := 5) dX11_valueOf_114 rfl rfl ?_
    refine rf_callVi C (n := 119) (c_X11_opensIn G fu _ _ _) mw_RX11_243 ly_96 rfl ⟨by decide, by decide⟩ rfl (Nat.le_of_ble_eq_true rfl) rfl dX11_valueOf_116 rfl (fun y17 m18 => ?_)
    exact rf_iret C K dX11_valueOf_119
  refine rf_sw (fun h19 => ?_) (fun h19 => ?_)
  · refine rf_tabIn C (n := 120) (off := 109) dX11_valueOf_11 h19 (by decide) (by decide) (by decide) (by decide) ?_
    refine rf_aload_n C (n := 121) (q := 1) dX11_valueOf_120 rfl rfl rfl ?_
    refine rf_getS C (n := 124) fl_RX11_47 ly_96 rfl dX11_valueOf_121 rfl ?_
    refine rf_iload_n C (n := 125) (q := 4) dX11_valueOf_124 rfl rfl rfl ?_
    refine rf_guard (fun h20 => ?_)
    refine rf_iald C (n := 126) ly_103 h20 rfl dX11_valueOf_125 rfl ?_
    refine rf_aload_n C (n := 127) (q := 1) dX11_valueOf_126 rfl rfl rfl ?_
    refine rf_getS C (n := 130) fl_RX11_154 ly_96 rfl dX11_valueOf_127 rfl ?_
    refine rf_iload_n C (n := 131) (q := 3) dX11_valueOf_130 rfl rfl rfl ?_
    refine rf_guard (fun h21 => ?_)
    refine rf_iald C (n := 132) ly_108 h21 rfl dX11_valueOf_131 rfl ?_
    refine rf_callSi C (n := 135) (c_X11_has G fu _ _ _) sw_RX11_137 ⟨by decide, by decide⟩ rfl (Nat.le_of_ble_eq_true rfl) rfl dX11_valueOf_132 rfl (fun y22 m23 => ?_)
    refine rf_callSi C (n := 138) (c_X11_flag G fu _ _) sw_RX11_124 ⟨by decide, by decide⟩ rfl (Nat.le_of_ble_eq_true rfl) rfl dX11_valueOf_135 rfl (fun y24 m25 => ?_)
    exact rf_iret C K dX11_valueOf_138
  refine rf_sw (fun h26 => ?_) (fun h26 => ?_)
  · refine rf_tabIn C (n := 139) (off := 128) dX11_valueOf_11 h26 (by decide) (by decide) (by decide) (by decide) ?_
    refine rf_iload C (n := 141) (q := 0) dX11_valueOf_139 rfl rfl ?_
    refine rf_iload_n C (n := 142) (q := 4) dX11_valueOf_141 rfl rfl rfl ?_
    refine rf_icmp_ne C (tgt := 149) (n := 145) dX11_valueOf_142 (by decide) rfl (fun h27 => ?_) (fun h27 => ?_)
    · refine rf_iconst C (n := 150) (v := 0) dX11_valueOf_149 rfl (by decide) ?_
      exact rf_lv _ [] rfl (r_X11_valueOf_150 C K fu _ _)
    · refine rf_iconst C (n := 146) (v := 1) dX11_valueOf_145 rfl (by decide) ?_
      refine rf_goto C (n := 150) dX11_valueOf_146 (by decide) ?_
      exact rf_lv _ [] rfl (r_X11_valueOf_150 C K fu _ _)
  refine rf_sw (fun h30 => ?_) (fun h30 => ?_)
  · refine rf_tabIn C (n := 154) (off := 143) dX11_valueOf_11 h30 (by decide) (by decide) (by decide) (by decide) ?_
    refine rf_aload_n C (n := 155) (q := 1) dX11_valueOf_154 rfl rfl rfl ?_
    refine rf_getS C (n := 158) fl_RX11_143 ly_96 rfl dX11_valueOf_155 rfl ?_
    refine rf_iload_n C (n := 159) (q := 3) dX11_valueOf_158 rfl rfl rfl ?_
    refine rf_guard (fun h31 => ?_)
    refine rf_iald C (n := 160) ly_111 h31 rfl dX11_valueOf_159 rfl ?_
    refine rf_iload_n C (n := 161) (q := 4) dX11_valueOf_160 rfl rfl rfl ?_
    refine rf_icmp_ne C (tgt := 168) (n := 164) dX11_valueOf_161 (by decide) rfl (fun h32 => ?_) (fun h32 => ?_)
    · refine rf_iconst C (n := 169) (v := 0) dX11_valueOf_168 rfl (by decide) ?_
      exact rf_lv _ [] rfl (r_X11_valueOf_169 C K fu _ _)
    · refine rf_iconst C (n := 165) (v := 1) dX11_valueOf_164 rfl (by decide) ?_
      refine rf_goto C (n := 169) dX11_valueOf_165 (by decide) ?_
      exact rf_lv _ [] rfl (r_X11_valueOf_169 C K fu _ _)
  refine rf_sw (fun h35 => ?_) (fun h35 => ?_)
  · refine rf_tabIn C (n := 173) (off := 162) dX11_valueOf_11 h35 (by decide) (by decide) (by decide) (by decide) ?_
    refine rf_aload_n C (n := 174) (q := 1) dX11_valueOf_173 rfl rfl rfl ?_
    refine rf_getS C (n := 177) fl_RX11_163 ly_96 rfl dX11_valueOf_174 rfl ?_
    refine rf_iload_n C (n := 178) (q := 3) dX11_valueOf_177 rfl rfl rfl ?_
    refine rf_guard (fun h36 => ?_)
    refine rf_iald C (n := 179) ly_112 h36 rfl dX11_valueOf_178 rfl ?_
    refine rf_iload_n C (n := 180) (q := 4) dX11_valueOf_179 rfl rfl rfl ?_
    refine rf_icmp_ne C (tgt := 187) (n := 183) dX11_valueOf_180 (by decide) rfl (fun h37 => ?_) (fun h37 => ?_)
    · refine rf_iconst C (n := 188) (v := 0) dX11_valueOf_187 rfl (by decide) ?_
      exact rf_lv _ [] rfl (r_X11_valueOf_188 C K fu _ _)
    · refine rf_iconst C (n := 184) (v := 1) dX11_valueOf_183 rfl (by decide) ?_
      refine rf_goto C (n := 188) dX11_valueOf_184 (by decide) ?_
      exact rf_lv _ [] rfl (r_X11_valueOf_188 C K fu _ _)
  refine rf_sw (fun h40 => ?_) (fun h40 => ?_)
  · refine rf_tabIn C (n := 192) (off := 181) dX11_valueOf_11 h40 (by decide) (by decide) (by decide) (by decide) ?_
    refine rf_aload_n C (n := 193) (q := 1) dX11_valueOf_192 rfl rfl rfl ?_
    refine rf_getS C (n := 196) fl_RX11_41 ly_96 rfl dX11_valueOf_193 rfl ?_
    refine rf_iload_n C (n := 197) (q := 4) dX11_valueOf_196 rfl rfl rfl ?_
    refine rf_guard (fun h41 => ?_)
    refine rf_iald C (n := 198) ly_101 h41 rfl dX11_valueOf_197 rfl ?_
    exact rf_iret C K dX11_valueOf_198
  refine rf_sw (fun h42 => ?_) (fun h42 => ?_)
  · refine rf_tabIn C (n := 199) (off := 188) dX11_valueOf_11 h42 (by decide) (by decide) (by decide) (by decide) ?_
    refine rf_aload_n C (n := 200) (q := 1) dX11_valueOf_199 rfl rfl rfl ?_
    refine rf_getS C (n := 203) fl_RX11_140 ly_96 rfl dX11_valueOf_200 rfl ?_
    refine rf_bipush C (n := 205) (v := 11) dX11_valueOf_203 rfl (by decide) ?_
    refine rf_iload_n C (n := 206) (q := 3) dX11_valueOf_205 rfl rfl rfl ?_
    refine rf_iadd C (n := 207) dX11_valueOf_206 rfl ?_
    refine rf_guard (fun h43 => ?_)
    refine rf_iald C (n := 208) ly_114 h43 rfl dX11_valueOf_207 rfl ?_
    exact rf_iret C K dX11_valueOf_208
  refine rf_tabD C (n := 209) dX11_valueOf_11 [0, 1, 2, 3, 4, 5, 6, 7, 8, 9, 10] (by intro c hc; simp only [List.mem_cons, List.not_mem_nil, or_false] at hc; rcases hc with rfl | rfl | rfl | rfl | rfl | rfl | rfl | rfl | rfl | rfl | rfl <;> assumption) (by decide) (by decide) (by decide) ?_
  refine rf_iload_n C (n := 210) (q := 4) dX11_valueOf_209 rfl rfl rfl ?_
  exact rf_iret C K dX11_valueOf_210
noncomputable def f_X11_acted_183 (fu : Nat) (s0 : Int32) (m : hM) : Option (Int32 × hM) :=
  hBd (f_X11_flag fu s0 m) fun y3 m4 =>
some (y3, m4)
set_option maxRecDepth 100000 in
set_option maxHeartbeats 4000000 in
theorem r_X11_acted_183 {G : hG} {X : hX} (C : Cx G X 2 cX11_acted 3 RX11 (some .int)) (K : Cr G X) (fu : Nat) (s0 : Int32) (m : hM) : Rf vI G X 183 [] [.int s0] m (f_X11_acted_183 fu s0 m) := by
  unfold f_X11_acted_183
  refine rf_callSi C (n := 186) (c_X11_flag G fu _ _) sw_RX11_124 ⟨by decide, by decide⟩ rfl (Nat.le_of_ble_eq_true rfl) rfl dX11_acted_183 rfl (fun y3 m4 => ?_)
  exact rf_iret C K dX11_acted_186
noncomputable def f_X11_acted_182 (fu : Nat) (m : hM) : Option (Int32 × hM) :=
  f_X11_acted_183 fu 0 m
set_option maxRecDepth 100000 in
set_option maxHeartbeats 4000000 in
theorem r_X11_acted_182 {G : hG} {X : hX} (C : Cx G X 2 cX11_acted 3 RX11 (some .int)) (K : Cr G X) (fu : Nat) (m : hM) : Rf vI G X 182 [] [] m (f_X11_acted_182 fu m) := by
  unfold f_X11_acted_182
  refine rf_iconst C (n := 183) (v := 0) dX11_acted_182 rfl (by decide) ?_
  exact rf_lv _ [] rfl (r_X11_acted_183 C K fu _ _)
noncomputable def f_X11_acted_138 (fu : Nat) (s0 : Int32) (m : hM) : Option (Int32 × hM) :=
  hBd (f_X11_flag fu s0 m) fun y11 m12 =>
some (y11, m12)
set_option maxRecDepth 100000 in
set_option maxHeartbeats 4000000 in
theorem r_X11_acted_138 {G : hG} {X : hX} (C : Cx G X 2 cX11_acted 3 RX11 (some .int)) (K : Cr G X) (fu : Nat) (s0 : Int32) (m : hM) : Rf vI G X 138 [] [.int s0] m (f_X11_acted_138 fu s0 m) := by
  unfold f_X11_acted_138
  refine rf_callSi C (n := 141) (c_X11_flag G fu _ _) sw_RX11_124 ⟨by decide, by decide⟩ rfl (Nat.le_of_ble_eq_true rfl) rfl dX11_acted_138 rfl (fun y11 m12 => ?_)
  exact rf_iret C K dX11_acted_141
noncomputable def f_X11_acted_166 (fu : Nat) (s0 : Int32) (m : hM) : Option (Int32 × hM) :=
  hBd (f_X11_flag fu s0 m) fun y15 m16 =>
some (y15, m16)
set_option maxRecDepth 100000 in
set_option maxHeartbeats 4000000 in
theorem r_X11_acted_166 {G : hG} {X : hX} (C : Cx G X 2 cX11_acted 3 RX11 (some .int)) (K : Cr G X) (fu : Nat) (s0 : Int32) (m : hM) : Rf vI G X 166 [] [.int s0] m (f_X11_acted_166 fu s0 m) := by
  unfold f_X11_acted_166
  refine rf_callSi C (n := 169) (c_X11_flag G fu _ _) sw_RX11_124 ⟨by decide, by decide⟩ rfl (Nat.le_of_ble_eq_true rfl) rfl dX11_acted_166 rfl (fun y15 m16 => ?_)
  exact rf_iret C K dX11_acted_169
noncomputable def f_X11_acted_152 (fu : Nat) (s0 : Int32) (m : hM) : Option (Int32 × hM) :=
  hBd (f_X11_flag fu s0 m) fun y19 m20 =>
some (y19, m20)
set_option maxRecDepth 100000 in
set_option maxHeartbeats 4000000 in
theorem r_X11_acted_152 {G : hG} {X : hX} (C : Cx G X 2 cX11_acted 3 RX11 (some .int)) (K : Cr G X) (fu : Nat) (s0 : Int32) (m : hM) : Rf vI G X 152 [] [.int s0] m (f_X11_acted_152 fu s0 m) := by
  unfold f_X11_acted_152
  refine rf_callSi C (n := 155) (c_X11_flag G fu _ _) sw_RX11_124 ⟨by decide, by decide⟩ rfl (Nat.le_of_ble_eq_true rfl) rfl dX11_acted_152 rfl (fun y19 m20 => ?_)
  exact rf_iret C K dX11_acted_155
noncomputable def f_X11_acted_200 (fu : Nat) (s0 : Int32) (m : hM) : Option (Int32 × hM) :=
  hBd (f_X11_flag fu s0 m) fun y22 m23 =>
some (y22, m23)
set_option maxRecDepth 100000 in
set_option maxHeartbeats 4000000 in
theorem r_X11_acted_200 {G : hG} {X : hX} (C : Cx G X 2 cX11_acted 3 RX11 (some .int)) (K : Cr G X) (fu : Nat) (s0 : Int32) (m : hM) : Rf vI G X 200 [] [.int s0] m (f_X11_acted_200 fu s0 m) := by
  unfold f_X11_acted_200
  refine rf_callSi C (n := 203) (c_X11_flag G fu _ _) sw_RX11_124 ⟨by decide, by decide⟩ rfl (Nat.le_of_ble_eq_true rfl) rfl dX11_acted_200 rfl (fun y22 m23 => ?_)
  exact rf_iret C K dX11_acted_203
noncomputable def f_X11_acted_195 (fu : Nat) (m : hM) : Option (Int32 × hM) :=
  f_X11_acted_200 fu 1 m
set_option maxRecDepth 100000 in
set_option maxHeartbeats 4000000 in
theorem r_X11_acted_195 {G : hG} {X : hX} (C : Cx G X 2 cX11_acted 3 RX11 (some .int)) (K : Cr G X) (fu : Nat) (m : hM) : Rf vI G X 195 [] [] m (f_X11_acted_195 fu m) := by
  unfold f_X11_acted_195
  refine rf_iconst C (n := 196) (v := 1) dX11_acted_195 rfl (by decide) ?_
  refine rf_goto C (n := 200) dX11_acted_196 (by decide) ?_
  exact rf_lv _ [] rfl (r_X11_acted_200 C K fu _ _)
noncomputable def f_X11_acted (fu : Nat) (x0 : Int32) (x1 : Int32) (x2 : Int32) (m : hM) : Option (Int32 × hM) :=
  if x0 = 38 then (
if x1 = 0 then (
f_X11_acted_182 fu m) else (
if x2 = 0 then (
f_X11_acted_182 fu m) else (
f_X11_acted_183 fu 1 m))) else if x0 = 42 then (
some (x1 * x2, m)) else if x0 = 43 then (
some (x1 + x2, m)) else if x0 = 45 then (
some (x1 - x2, m)) else if x0 = 60 then (
if x2 ≤ x1 then (
f_X11_acted_138 fu 0 m) else (
f_X11_acted_138 fu 1 m)) else if x0 = 61 then (
if ¬ x1 = x2 then (
f_X11_acted_166 fu 0 m) else (
f_X11_acted_166 fu 1 m)) else if x0 = 62 then (
if x1 ≤ x2 then (
f_X11_acted_152 fu 0 m) else (
f_X11_acted_152 fu 1 m)) else (
if ¬ x1 = 0 then (
f_X11_acted_195 fu m) else (
if x2 = 0 then (
f_X11_acted_200 fu 0 m) else (
f_X11_acted_195 fu m)))
set_option maxRecDepth 100000 in
set_option maxHeartbeats 4000000 in
theorem c_X11_acted (G : hG) (fu : Nat) (x0 : Int32) (x1 : Int32) (x2 : Int32) (m : hM) : Mt vI G 2 yX11_acted cX11_acted 3 (some .int) [.int x0, .int x1, .int x2] m (f_X11_acted fu x0 x1 x2 m) := by
  refine mt_of (by decide +kernel) (Nat.le_of_ble_eq_true rfl) (fun X C K => ?_)
  have C : Cx G X 2 cX11_acted 3 RX11 (some .int) := C
  show Rf vI G X 0 [(0, .int x0), (1, .int x1), (2, .int x2)] [] m _
  unfold f_X11_acted
  refine rf_iload_n C (n := 1) (q := 0) dX11_acted_0 rfl rfl rfl ?_
  refine rf_sw (fun h1 => ?_) (fun h1 => ?_)
  · refine rf_tabIn C (n := 170) (off := 169) dX11_acted_1 h1 (by decide) (by decide) (by decide) (by decide) ?_
    refine rf_iload_n C (n := 171) (q := 1) dX11_acted_170 rfl rfl rfl ?_
    refine rf_if_eq C (tgt := 182) (n := 174) dX11_acted_171 (by decide) rfl (fun h2 => ?_) (fun h2 => ?_)
    · exact rf_lv _ [] rfl (r_X11_acted_182 C K fu _)
    · refine rf_iload_n C (n := 175) (q := 2) dX11_acted_174 rfl rfl rfl ?_
      refine rf_if_eq C (tgt := 182) (n := 178) dX11_acted_175 (by decide) rfl (fun h5 => ?_) (fun h5 => ?_)
      · exact rf_lv _ [] rfl (r_X11_acted_182 C K fu _)
      · refine rf_iconst C (n := 179) (v := 1) dX11_acted_178 rfl (by decide) ?_
        refine rf_goto C (n := 183) dX11_acted_179 (by decide) ?_
        exact rf_lv _ [] rfl (r_X11_acted_183 C K fu _ _)
  refine rf_sw (fun h6 => ?_) (fun h6 => ?_)
  · refine rf_tabIn C (n := 124) (off := 123) dX11_acted_1 h6 (by decide) (by decide) (by decide) (by decide) ?_
    refine rf_iload_n C (n := 125) (q := 1) dX11_acted_124 rfl rfl rfl ?_
    refine rf_iload_n C (n := 126) (q := 2) dX11_acted_125 rfl rfl rfl ?_
    refine rf_imul C (n := 127) dX11_acted_126 rfl ?_
    exact rf_iret C K dX11_acted_127
  refine rf_sw (fun h7 => ?_) (fun h7 => ?_)
  · refine rf_tabIn C (n := 116) (off := 115) dX11_acted_1 h7 (by decide) (by decide) (by decide) (by decide) ?_
    refine rf_iload_n C (n := 117) (q := 1) dX11_acted_116 rfl rfl rfl ?_
    refine rf_iload_n C (n := 118) (q := 2) dX11_acted_117 rfl rfl rfl ?_
    refine rf_iadd C (n := 119) dX11_acted_118 rfl ?_
    exact rf_iret C K dX11_acted_119
  refine rf_sw (fun h8 => ?_) (fun h8 => ?_)
  · refine rf_tabIn C (n := 120) (off := 119) dX11_acted_1 h8 (by decide) (by decide) (by decide) (by decide) ?_
    refine rf_iload_n C (n := 121) (q := 1) dX11_acted_120 rfl rfl rfl ?_
    refine rf_iload_n C (n := 122) (q := 2) dX11_acted_121 rfl rfl rfl ?_
    refine rf_isub C (n := 123) dX11_acted_122 rfl ?_
    exact rf_iret C K dX11_acted_123
  refine rf_sw (fun h9 => ?_) (fun h9 => ?_)
  · refine rf_tabIn C (n := 128) (off := 127) dX11_acted_1 h9 (by decide) (by decide) (by decide) (by decide) ?_
    refine rf_iload_n C (n := 129) (q := 1) dX11_acted_128 rfl rfl rfl ?_
    refine rf_iload_n C (n := 130) (q := 2) dX11_acted_129 rfl rfl rfl ?_
    refine rf_icmp_ge C (tgt := 137) (n := 133) dX11_acted_130 (by decide) rfl (fun h10 => ?_) (fun h10 => ?_)
    · refine rf_iconst C (n := 138) (v := 0) dX11_acted_137 rfl (by decide) ?_
      exact rf_lv _ [] rfl (r_X11_acted_138 C K fu _ _)
    · refine rf_iconst C (n := 134) (v := 1) dX11_acted_133 rfl (by decide) ?_
      refine rf_goto C (n := 138) dX11_acted_134 (by decide) ?_
      exact rf_lv _ [] rfl (r_X11_acted_138 C K fu _ _)
  refine rf_sw (fun h13 => ?_) (fun h13 => ?_)
  · refine rf_tabIn C (n := 156) (off := 155) dX11_acted_1 h13 (by decide) (by decide) (by decide) (by decide) ?_
    refine rf_iload_n C (n := 157) (q := 1) dX11_acted_156 rfl rfl rfl ?_
    refine rf_iload_n C (n := 158) (q := 2) dX11_acted_157 rfl rfl rfl ?_
    refine rf_icmp_ne C (tgt := 165) (n := 161) dX11_acted_158 (by decide) rfl (fun h14 => ?_) (fun h14 => ?_)
    · refine rf_iconst C (n := 166) (v := 0) dX11_acted_165 rfl (by decide) ?_
      exact rf_lv _ [] rfl (r_X11_acted_166 C K fu _ _)
    · refine rf_iconst C (n := 162) (v := 1) dX11_acted_161 rfl (by decide) ?_
      refine rf_goto C (n := 166) dX11_acted_162 (by decide) ?_
      exact rf_lv _ [] rfl (r_X11_acted_166 C K fu _ _)
  refine rf_sw (fun h17 => ?_) (fun h17 => ?_)
  · refine rf_tabIn C (n := 142) (off := 141) dX11_acted_1 h17 (by decide) (by decide) (by decide) (by decide) ?_
    refine rf_iload_n C (n := 143) (q := 1) dX11_acted_142 rfl rfl rfl ?_
    refine rf_iload_n C (n := 144) (q := 2) dX11_acted_143 rfl rfl rfl ?_
    refine rf_icmp_le C (tgt := 151) (n := 147) dX11_acted_144 (by decide) rfl (fun h18 => ?_) (fun h18 => ?_)
    · refine rf_iconst C (n := 152) (v := 0) dX11_acted_151 rfl (by decide) ?_
      exact rf_lv _ [] rfl (r_X11_acted_152 C K fu _ _)
    · refine rf_iconst C (n := 148) (v := 1) dX11_acted_147 rfl (by decide) ?_
      refine rf_goto C (n := 152) dX11_acted_148 (by decide) ?_
      exact rf_lv _ [] rfl (r_X11_acted_152 C K fu _ _)
  refine rf_tabD C (n := 187) dX11_acted_1 [38, 42, 43, 45, 60, 61, 62] (by intro c hc; simp only [List.mem_cons, List.not_mem_nil, or_false] at hc; rcases hc with rfl | rfl | rfl | rfl | rfl | rfl | rfl <;> assumption) (by decide) (by decide) (by decide) ?_
  refine rf_iload_n C (n := 188) (q := 1) dX11_acted_187 rfl rfl rfl ?_
  refine rf_if_ne C (tgt := 195) (n := 191) dX11_acted_188 (by decide) rfl (fun h21 => ?_) (fun h21 => ?_)
  · exact rf_lv _ [] rfl (r_X11_acted_195 C K fu _)
  · refine rf_iload_n C (n := 192) (q := 2) dX11_acted_191 rfl rfl rfl ?_
    refine rf_if_eq C (tgt := 199) (n := 195) dX11_acted_192 (by decide) rfl (fun h24 => ?_) (fun h24 => ?_)
    · refine rf_iconst C (n := 200) (v := 0) dX11_acted_199 rfl (by decide) ?_
      exact rf_lv _ [] rfl (r_X11_acted_200 C K fu _ _)
    · exact rf_lv _ [] rfl (r_X11_acted_195 C K fu _)
