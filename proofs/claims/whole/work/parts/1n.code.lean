theorem dX11_worth_0 : decode cX11_worth 0 = .ok (.aload_n 0, 1) := by decide +kernel
theorem dX11_worth_1 : decode cX11_worth 1 = .ok (.iconst 0, 1) := by decide +kernel
theorem dX11_worth_2 : decode cX11_worth 2 = .ok (.putfield 3, 3) := by decide +kernel
theorem dX11_worth_5 : decode cX11_worth 5 = .ok (.iload_n 1, 1) := by decide +kernel
theorem dX11_worth_6 : decode cX11_worth 6 = .ok (.invokestatic 81, 3) := by decide +kernel
theorem dX11_worth_9 : decode cX11_worth 9 = .ok (.ifCond .eq 10, 3) := by decide +kernel
theorem dX11_worth_12 : decode cX11_worth 12 = .ok (.aload_n 0, 1) := by decide +kernel
theorem dX11_worth_13 : decode cX11_worth 13 = .ok (.getfield 151, 3) := by decide +kernel
theorem dX11_worth_16 : decode cX11_worth 16 = .ok (.ifCond .ne 5, 3) := by decide +kernel
theorem dX11_worth_19 : decode cX11_worth 19 = .ok (.iconst (-1), 1) := by decide +kernel
theorem dX11_worth_20 : decode cX11_worth 20 = .ok (.ireturn, 1) := by decide +kernel
theorem dX11_worth_21 : decode cX11_worth 21 = .ok (.aload_n 0, 1) := by decide +kernel
theorem dX11_worth_22 : decode cX11_worth 22 = .ok (.getfield 434, 3) := by decide +kernel
theorem dX11_worth_25 : decode cX11_worth 25 = .ok (.ifCond .ne 6, 3) := by decide +kernel
theorem dX11_worth_28 : decode cX11_worth 28 = .ok (.bipush (-2), 2) := by decide +kernel
theorem dX11_worth_30 : decode cX11_worth 30 = .ok (.ireturn, 1) := by decide +kernel
theorem dX11_worth_31 : decode cX11_worth 31 = .ok (.aload_n 0, 1) := by decide +kernel
theorem dX11_worth_32 : decode cX11_worth 32 = .ok (.iconst 0, 1) := by decide +kernel
theorem dX11_worth_33 : decode cX11_worth 33 = .ok (.iload_n 1, 1) := by decide +kernel
theorem dX11_worth_34 : decode cX11_worth 34 = .ok (.invokevirtual 451, 3) := by decide +kernel
theorem dX11_worth_37 : decode cX11_worth 37 = .ok (.istore_n 2, 1) := by decide +kernel
theorem dX11_worth_38 : decode cX11_worth 38 = .ok (.iconst (-1), 1) := by decide +kernel
theorem dX11_worth_39 : decode cX11_worth 39 = .ok (.istore_n 3, 1) := by decide +kernel
theorem dX11_worth_40 : decode cX11_worth 40 = .ok (.lconst 0, 1) := by decide +kernel
theorem dX11_worth_41 : decode cX11_worth 41 = .ok (.lstore 4, 2) := by decide +kernel
theorem dX11_worth_43 : decode cX11_worth 43 = .ok (.aload_n 0, 1) := by decide +kernel
theorem dX11_worth_44 : decode cX11_worth 44 = .ok (.iconst 0, 1) := by decide +kernel
theorem dX11_worth_45 : decode cX11_worth 45 = .ok (.putfield 11, 3) := by decide +kernel
theorem dX11_worth_48 : decode cX11_worth 48 = .ok (.iconst 0, 1) := by decide +kernel
theorem dX11_worth_49 : decode cX11_worth 49 = .ok (.istore 6, 2) := by decide +kernel
theorem dX11_worth_51 : decode cX11_worth 51 = .ok (.iload 6, 2) := by decide +kernel
theorem dX11_worth_53 : decode cX11_worth 53 = .ok (.aload_n 0, 1) := by decide +kernel
theorem dX11_worth_54 : decode cX11_worth 54 = .ok (.getfield 434, 3) := by decide +kernel
theorem dX11_worth_57 : decode cX11_worth 57 = .ok (.if_icmp .ge 67, 3) := by decide +kernel
theorem dX11_worth_60 : decode cX11_worth 60 = .ok (.aload_n 0, 1) := by decide +kernel
theorem dX11_worth_61 : decode cX11_worth 61 = .ok (.iconst 1, 1) := by decide +kernel
theorem dX11_worth_62 : decode cX11_worth 62 = .ok (.iload 6, 2) := by decide +kernel
theorem dX11_worth_64 : decode cX11_worth 64 = .ok (.ishl, 1) := by decide +kernel
theorem dX11_worth_65 : decode cX11_worth 65 = .ok (.iload_n 1, 1) := by decide +kernel
theorem dX11_worth_66 : decode cX11_worth 66 = .ok (.invokevirtual 451, 3) := by decide +kernel
theorem dX11_worth_69 : decode cX11_worth 69 = .ok (.istore 7, 2) := by decide +kernel
theorem dX11_worth_71 : decode cX11_worth 71 = .ok (.iload 7, 2) := by decide +kernel
theorem dX11_worth_73 : decode cX11_worth 73 = .ok (.ifCond .lt 7, 3) := by decide +kernel
theorem dX11_worth_76 : decode cX11_worth 76 = .ok (.iload_n 2, 1) := by decide +kernel
theorem dX11_worth_77 : decode cX11_worth 77 = .ok (.ifCond .ge 9, 3) := by decide +kernel
theorem dX11_worth_80 : decode cX11_worth 80 = .ok (.ldc2_w 454, 3) := by decide +kernel
theorem dX11_worth_83 : decode cX11_worth 83 = .ok (.goto 8, 3) := by decide +kernel
theorem dX11_worth_86 : decode cX11_worth 86 = .ok (.iload_n 2, 1) := by decide +kernel
theorem dX11_worth_87 : decode cX11_worth 87 = .ok (.iload 7, 2) := by decide +kernel
theorem dX11_worth_89 : decode cX11_worth 89 = .ok (.isub, 1) := by decide +kernel
theorem dX11_worth_90 : decode cX11_worth 90 = .ok (.i2l, 1) := by decide +kernel
theorem dX11_worth_91 : decode cX11_worth 91 = .ok (.lstore 8, 2) := by decide +kernel
theorem dX11_worth_93 : decode cX11_worth 93 = .ok (.aload_n 0, 1) := by decide +kernel
theorem dX11_worth_94 : decode cX11_worth 94 = .ok (.lload 8, 2) := by decide +kernel
theorem dX11_worth_96 : decode cX11_worth 96 = .ok (.invokevirtual 18, 3) := by decide +kernel
theorem dX11_worth_99 : decode cX11_worth 99 = .ok (.iload_n 3, 1) := by decide +kernel
theorem dX11_worth_100 : decode cX11_worth 100 = .ok (.ifCond .lt 11, 3) := by decide +kernel
theorem dX11_worth_103 : decode cX11_worth 103 = .ok (.lload 8, 2) := by decide +kernel
theorem dX11_worth_105 : decode cX11_worth 105 = .ok (.lload 4, 2) := by decide +kernel
theorem dX11_worth_107 : decode cX11_worth 107 = .ok (.lcmp, 1) := by decide +kernel
theorem dX11_worth_108 : decode cX11_worth 108 = .ok (.ifCond .le 10, 3) := by decide +kernel
theorem dX11_worth_111 : decode cX11_worth 111 = .ok (.iload 6, 2) := by decide +kernel
theorem dX11_worth_113 : decode cX11_worth 113 = .ok (.istore_n 3, 1) := by decide +kernel
theorem dX11_worth_114 : decode cX11_worth 114 = .ok (.lload 8, 2) := by decide +kernel
theorem dX11_worth_116 : decode cX11_worth 116 = .ok (.lstore 4, 2) := by decide +kernel
theorem dX11_worth_118 : decode cX11_worth 118 = .ok (.iinc 6 1, 3) := by decide +kernel
theorem dX11_worth_121 : decode cX11_worth 121 = .ok (.goto (-70), 3) := by decide +kernel
theorem dX11_worth_124 : decode cX11_worth 124 = .ok (.iload_n 3, 1) := by decide +kernel
theorem dX11_worth_125 : decode cX11_worth 125 = .ok (.ireturn, 1) := by decide +kernel
theorem dX11_wrong_0 : decode cX11_wrong 0 = .ok (.aload_n 0, 1) := by decide +kernel
theorem dX11_wrong_1 : decode cX11_wrong 1 = .ok (.iconst 0, 1) := by decide +kernel
theorem dX11_wrong_2 : decode cX11_wrong 2 = .ok (.putfield 3, 3) := by decide +kernel
theorem dX11_wrong_5 : decode cX11_wrong 5 = .ok (.iload_n 1, 1) := by decide +kernel
theorem dX11_wrong_6 : decode cX11_wrong 6 = .ok (.i2l, 1) := by decide +kernel
theorem dX11_wrong_7 : decode cX11_wrong 7 = .ok (.lconst 0, 1) := by decide +kernel
theorem dX11_wrong_8 : decode cX11_wrong 8 = .ok (.ldc2_w 311, 3) := by decide +kernel
theorem dX11_wrong_11 : decode cX11_wrong 11 = .ok (.invokestatic 25, 3) := by decide +kernel
theorem dX11_wrong_14 : decode cX11_wrong 14 = .ok (.ifCond .ne 5, 3) := by decide +kernel
theorem dX11_wrong_17 : decode cX11_wrong 17 = .ok (.iconst (-1), 1) := by decide +kernel
theorem dX11_wrong_18 : decode cX11_wrong 18 = .ok (.ireturn, 1) := by decide +kernel
theorem dX11_wrong_19 : decode cX11_wrong 19 = .ok (.iconst 0, 1) := by decide +kernel
theorem dX11_wrong_20 : decode cX11_wrong 20 = .ok (.istore_n 2, 1) := by decide +kernel
theorem dX11_wrong_21 : decode cX11_wrong 21 = .ok (.iload_n 2, 1) := by decide +kernel
theorem dX11_wrong_22 : decode cX11_wrong 22 = .ok (.bipush 9, 2) := by decide +kernel
theorem dX11_wrong_24 : decode cX11_wrong 24 = .ok (.if_icmp .ge 28, 3) := by decide +kernel
theorem dX11_wrong_27 : decode cX11_wrong 27 = .ok (.aload_n 0, 1) := by decide +kernel
theorem dX11_wrong_28 : decode cX11_wrong 28 = .ok (.getfield 456, 3) := by decide +kernel
theorem dX11_wrong_31 : decode cX11_wrong 31 = .ok (.iload_n 2, 1) := by decide +kernel
theorem dX11_wrong_32 : decode cX11_wrong 32 = .ok (.iload_n 2, 1) := by decide +kernel
theorem dX11_wrong_33 : decode cX11_wrong 33 = .ok (.ifCond .ne 7, 3) := by decide +kernel
theorem dX11_wrong_36 : decode cX11_wrong 36 = .ok (.iconst 1, 1) := by decide +kernel
theorem dX11_wrong_37 : decode cX11_wrong 37 = .ok (.goto 4, 3) := by decide +kernel
theorem dX11_wrong_40 : decode cX11_wrong 40 = .ok (.iconst 0, 1) := by decide +kernel
theorem dX11_wrong_41 : decode cX11_wrong 41 = .ok (.invokestatic 124, 3) := by decide +kernel
theorem dX11_wrong_44 : decode cX11_wrong 44 = .ok (.i2l, 1) := by decide +kernel
theorem dX11_wrong_45 : decode cX11_wrong 45 = .ok (.lastore, 1) := by decide +kernel
theorem dX11_wrong_46 : decode cX11_wrong 46 = .ok (.iinc 2 1, 3) := by decide +kernel
theorem dX11_wrong_49 : decode cX11_wrong 49 = .ok (.goto (-28), 3) := by decide +kernel
theorem dX11_wrong_52 : decode cX11_wrong 52 = .ok (.lconst 1, 1) := by decide +kernel
theorem dX11_wrong_53 : decode cX11_wrong 53 = .ok (.lstore_n 2, 1) := by decide +kernel
theorem dX11_wrong_54 : decode cX11_wrong 54 = .ok (.bipush 8, 2) := by decide +kernel
theorem dX11_wrong_56 : decode cX11_wrong 56 = .ok (.aload_n 0, 1) := by decide +kernel
theorem dX11_wrong_57 : decode cX11_wrong 57 = .ok (.getfield 140, 3) := by decide +kernel
theorem dX11_wrong_60 : decode cX11_wrong 60 = .ok (.iconst 2, 1) := by decide +kernel
theorem dX11_wrong_61 : decode cX11_wrong 61 = .ok (.iaload, 1) := by decide +kernel
theorem dX11_wrong_62 : decode cX11_wrong 62 = .ok (.invokestatic 95, 3) := by decide +kernel
theorem dX11_wrong_65 : decode cX11_wrong 65 = .ok (.istore 4, 2) := by decide +kernel
theorem dX11_wrong_67 : decode cX11_wrong 67 = .ok (.iconst 0, 1) := by decide +kernel
theorem dX11_wrong_68 : decode cX11_wrong 68 = .ok (.istore 5, 2) := by decide +kernel
theorem dX11_wrong_70 : decode cX11_wrong 70 = .ok (.iload 5, 2) := by decide +kernel
theorem dX11_wrong_72 : decode cX11_wrong 72 = .ok (.iload 4, 2) := by decide +kernel
theorem dX11_wrong_74 : decode cX11_wrong 74 = .ok (.if_icmp .ge 86, 3) := by decide +kernel
theorem dX11_wrong_77 : decode cX11_wrong 77 = .ok (.aload_n 0, 1) := by decide +kernel
theorem dX11_wrong_78 : decode cX11_wrong 78 = .ok (.getfield 140, 3) := by decide +kernel
theorem dX11_wrong_81 : decode cX11_wrong 81 = .ok (.bipush 67, 2) := by decide +kernel
theorem dX11_wrong_83 : decode cX11_wrong 83 = .ok (.iload 5, 2) := by decide +kernel
theorem dX11_wrong_85 : decode cX11_wrong 85 = .ok (.iadd, 1) := by decide +kernel
theorem dX11_wrong_86 : decode cX11_wrong 86 = .ok (.iaload, 1) := by decide +kernel
theorem dX11_wrong_87 : decode cX11_wrong 87 = .ok (.istore 6, 2) := by decide +kernel
theorem dX11_wrong_89 : decode cX11_wrong 89 = .ok (.bipush 8, 2) := by decide +kernel
theorem dX11_wrong_91 : decode cX11_wrong 91 = .ok (.istore 7, 2) := by decide +kernel
theorem dX11_wrong_93 : decode cX11_wrong 93 = .ok (.iload 7, 2) := by decide +kernel
theorem dX11_wrong_95 : decode cX11_wrong 95 = .ok (.ifCond .lt 53, 3) := by decide +kernel
theorem dX11_wrong_98 : decode cX11_wrong 98 = .ok (.aload_n 0, 1) := by decide +kernel
theorem dX11_wrong_99 : decode cX11_wrong 99 = .ok (.getfield 456, 3) := by decide +kernel
theorem dX11_wrong_102 : decode cX11_wrong 102 = .ok (.iload 7, 2) := by decide +kernel
theorem dX11_wrong_104 : decode cX11_wrong 104 = .ok (.aload_n 0, 1) := by decide +kernel
theorem dX11_wrong_105 : decode cX11_wrong 105 = .ok (.getfield 456, 3) := by decide +kernel
theorem dX11_wrong_108 : decode cX11_wrong 108 = .ok (.iload 7, 2) := by decide +kernel
theorem dX11_wrong_110 : decode cX11_wrong 110 = .ok (.laload, 1) := by decide +kernel
theorem dX11_wrong_111 : decode cX11_wrong 111 = .ok (.bipush 100, 2) := by decide +kernel
theorem dX11_wrong_113 : decode cX11_wrong 113 = .ok (.iload 6, 2) := by decide +kernel
theorem dX11_wrong_115 : decode cX11_wrong 115 = .ok (.isub, 1) := by decide +kernel
theorem dX11_wrong_116 : decode cX11_wrong 116 = .ok (.i2l, 1) := by decide +kernel
theorem dX11_wrong_117 : decode cX11_wrong 117 = .ok (.lmul, 1) := by decide +kernel
theorem dX11_wrong_118 : decode cX11_wrong 118 = .ok (.iload 7, 2) := by decide +kernel
theorem dX11_wrong_120 : decode cX11_wrong 120 = .ok (.ifCond .le 19, 3) := by decide +kernel
theorem dX11_wrong_123 : decode cX11_wrong 123 = .ok (.aload_n 0, 1) := by decide +kernel
theorem dX11_wrong_124 : decode cX11_wrong 124 = .ok (.getfield 456, 3) := by decide +kernel
theorem dX11_wrong_127 : decode cX11_wrong 127 = .ok (.iload 7, 2) := by decide +kernel
theorem dX11_wrong_129 : decode cX11_wrong 129 = .ok (.iconst 1, 1) := by decide +kernel
theorem dX11_wrong_130 : decode cX11_wrong 130 = .ok (.isub, 1) := by decide +kernel
theorem dX11_wrong_131 : decode cX11_wrong 131 = .ok (.laload, 1) := by decide +kernel
theorem dX11_wrong_132 : decode cX11_wrong 132 = .ok (.iload 6, 2) := by decide +kernel
theorem dX11_wrong_134 : decode cX11_wrong 134 = .ok (.i2l, 1) := by decide +kernel
theorem dX11_wrong_135 : decode cX11_wrong 135 = .ok (.lmul, 1) := by decide +kernel
theorem dX11_wrong_136 : decode cX11_wrong 136 = .ok (.goto 4, 3) := by decide +kernel
theorem dX11_wrong_139 : decode cX11_wrong 139 = .ok (.lconst 0, 1) := by decide +kernel
theorem dX11_wrong_140 : decode cX11_wrong 140 = .ok (.ladd, 1) := by decide +kernel
theorem dX11_wrong_141 : decode cX11_wrong 141 = .ok (.lastore, 1) := by decide +kernel
theorem dX11_wrong_142 : decode cX11_wrong 142 = .ok (.iinc 7 (-1), 3) := by decide +kernel
theorem dX11_wrong_145 : decode cX11_wrong 145 = .ok (.goto (-52), 3) := by decide +kernel
theorem dX11_wrong_148 : decode cX11_wrong 148 = .ok (.lload_n 2, 1) := by decide +kernel
theorem dX11_wrong_149 : decode cX11_wrong 149 = .ok (.ldc2_w 106, 3) := by decide +kernel
theorem dX11_wrong_152 : decode cX11_wrong 152 = .ok (.lmul, 1) := by decide +kernel
theorem dX11_wrong_153 : decode cX11_wrong 153 = .ok (.lstore_n 2, 1) := by decide +kernel
theorem dX11_wrong_154 : decode cX11_wrong 154 = .ok (.iinc 5 1, 3) := by decide +kernel
theorem dX11_wrong_157 : decode cX11_wrong 157 = .ok (.goto (-87), 3) := by decide +kernel
theorem dX11_wrong_160 : decode cX11_wrong 160 = .ok (.lconst 0, 1) := by decide +kernel
theorem dX11_wrong_161 : decode cX11_wrong 161 = .ok (.lstore 5, 2) := by decide +kernel
theorem dX11_wrong_163 : decode cX11_wrong 163 = .ok (.iload_n 1, 1) := by decide +kernel
theorem dX11_wrong_164 : decode cX11_wrong 164 = .ok (.istore 7, 2) := by decide +kernel
theorem dX11_wrong_166 : decode cX11_wrong 166 = .ok (.iload 7, 2) := by decide +kernel
theorem dX11_wrong_168 : decode cX11_wrong 168 = .ok (.bipush 9, 2) := by decide +kernel
theorem dX11_wrong_170 : decode cX11_wrong 170 = .ok (.if_icmp .ge 21, 3) := by decide +kernel
theorem dX11_wrong_173 : decode cX11_wrong 173 = .ok (.lload 5, 2) := by decide +kernel
theorem dX11_wrong_175 : decode cX11_wrong 175 = .ok (.aload_n 0, 1) := by decide +kernel
theorem dX11_wrong_176 : decode cX11_wrong 176 = .ok (.getfield 456, 3) := by decide +kernel
theorem dX11_wrong_179 : decode cX11_wrong 179 = .ok (.iload 7, 2) := by decide +kernel
theorem dX11_wrong_181 : decode cX11_wrong 181 = .ok (.laload, 1) := by decide +kernel
theorem dX11_wrong_182 : decode cX11_wrong 182 = .ok (.ladd, 1) := by decide +kernel
theorem dX11_wrong_183 : decode cX11_wrong 183 = .ok (.lstore 5, 2) := by decide +kernel
theorem dX11_wrong_185 : decode cX11_wrong 185 = .ok (.iinc 7 1, 3) := by decide +kernel
theorem dX11_wrong_188 : decode cX11_wrong 188 = .ok (.goto (-22), 3) := by decide +kernel
theorem dX11_wrong_191 : decode cX11_wrong 191 = .ok (.aload_n 0, 1) := by decide +kernel
theorem dX11_wrong_192 : decode cX11_wrong 192 = .ok (.iconst 0, 1) := by decide +kernel
theorem dX11_wrong_193 : decode cX11_wrong 193 = .ok (.putfield 11, 3) := by decide +kernel
theorem dX11_wrong_196 : decode cX11_wrong 196 = .ok (.aload_n 0, 1) := by decide +kernel
theorem dX11_wrong_197 : decode cX11_wrong 197 = .ok (.lload 5, 2) := by decide +kernel
theorem dX11_wrong_199 : decode cX11_wrong 199 = .ok (.lload_n 2, 1) := by decide +kernel
theorem dX11_wrong_200 : decode cX11_wrong 200 = .ok (.invokevirtual 459, 3) := by decide +kernel
theorem dX11_wrong_203 : decode cX11_wrong 203 = .ok (.iconst 0, 1) := by decide +kernel
theorem dX11_wrong_204 : decode cX11_wrong 204 = .ok (.ireturn, 1) := by decide +kernel
theorem dX11_mean_0 : decode cX11_mean 0 = .ok (.aload_n 0, 1) := by decide +kernel
theorem dX11_mean_1 : decode cX11_mean 1 = .ok (.iconst 0, 1) := by decide +kernel
theorem dX11_mean_2 : decode cX11_mean 2 = .ok (.putfield 3, 3) := by decide +kernel
theorem dX11_mean_5 : decode cX11_mean 5 = .ok (.iload_n 1, 1) := by decide +kernel
theorem dX11_mean_6 : decode cX11_mean 6 = .ok (.i2l, 1) := by decide +kernel
theorem dX11_mean_7 : decode cX11_mean 7 = .ok (.lconst 1, 1) := by decide +kernel
theorem dX11_mean_8 : decode cX11_mean 8 = .ok (.ldc2_w 67, 3) := by decide +kernel
theorem dX11_mean_11 : decode cX11_mean 11 = .ok (.invokestatic 25, 3) := by decide +kernel
theorem dX11_mean_14 : decode cX11_mean 14 = .ok (.ifCond .ne 5, 3) := by decide +kernel
theorem dX11_mean_17 : decode cX11_mean 17 = .ok (.iconst (-1), 1) := by decide +kernel
theorem dX11_mean_18 : decode cX11_mean 18 = .ok (.ireturn, 1) := by decide +kernel
theorem dX11_mean_19 : decode cX11_mean 19 = .ok (.lconst 0, 1) := by decide +kernel
theorem dX11_mean_20 : decode cX11_mean 20 = .ok (.lstore_n 2, 1) := by decide +kernel
theorem dX11_mean_21 : decode cX11_mean 21 = .ok (.iconst 0, 1) := by decide +kernel
theorem dX11_mean_22 : decode cX11_mean 22 = .ok (.istore 4, 2) := by decide +kernel
theorem dX11_mean_24 : decode cX11_mean 24 = .ok (.iload 4, 2) := by decide +kernel
theorem dX11_mean_26 : decode cX11_mean 26 = .ok (.aload_n 0, 1) := by decide +kernel
theorem dX11_mean_27 : decode cX11_mean 27 = .ok (.getfield 140, 3) := by decide +kernel
theorem dX11_mean_30 : decode cX11_mean 30 = .ok (.iconst 2, 1) := by decide +kernel
theorem dX11_mean_31 : decode cX11_mean 31 = .ok (.iaload, 1) := by decide +kernel
theorem dX11_mean_32 : decode cX11_mean 32 = .ok (.if_icmp .ge 23, 3) := by decide +kernel
theorem dX11_mean_35 : decode cX11_mean 35 = .ok (.lload_n 2, 1) := by decide +kernel
theorem dX11_mean_36 : decode cX11_mean 36 = .ok (.aload_n 0, 1) := by decide +kernel
theorem dX11_mean_37 : decode cX11_mean 37 = .ok (.getfield 140, 3) := by decide +kernel
theorem dX11_mean_40 : decode cX11_mean 40 = .ok (.bipush 67, 2) := by decide +kernel
theorem dX11_mean_42 : decode cX11_mean 42 = .ok (.iload 4, 2) := by decide +kernel
theorem dX11_mean_44 : decode cX11_mean 44 = .ok (.iadd, 1) := by decide +kernel
theorem dX11_mean_45 : decode cX11_mean 45 = .ok (.iaload, 1) := by decide +kernel
theorem dX11_mean_46 : decode cX11_mean 46 = .ok (.i2l, 1) := by decide +kernel
theorem dX11_mean_47 : decode cX11_mean 47 = .ok (.ladd, 1) := by decide +kernel
theorem dX11_mean_48 : decode cX11_mean 48 = .ok (.lstore_n 2, 1) := by decide +kernel
theorem dX11_mean_49 : decode cX11_mean 49 = .ok (.iinc 4 1, 3) := by decide +kernel
theorem dX11_mean_52 : decode cX11_mean 52 = .ok (.goto (-28), 3) := by decide +kernel
theorem dX11_mean_55 : decode cX11_mean 55 = .ok (.aload_n 0, 1) := by decide +kernel
theorem dX11_mean_56 : decode cX11_mean 56 = .ok (.iconst 0, 1) := by decide +kernel
theorem dX11_mean_57 : decode cX11_mean 57 = .ok (.putfield 11, 3) := by decide +kernel
theorem dX11_mean_60 : decode cX11_mean 60 = .ok (.aload_n 0, 1) := by decide +kernel
theorem dX11_mean_61 : decode cX11_mean 61 = .ok (.lload_n 2, 1) := by decide +kernel
theorem dX11_mean_62 : decode cX11_mean 62 = .ok (.iload_n 1, 1) := by decide +kernel
theorem dX11_mean_63 : decode cX11_mean 63 = .ok (.i2l, 1) := by decide +kernel
theorem dX11_mean_64 : decode cX11_mean 64 = .ok (.lmul, 1) := by decide +kernel
theorem dX11_mean_65 : decode cX11_mean 65 = .ok (.ldc2_w 106, 3) := by decide +kernel
theorem dX11_mean_68 : decode cX11_mean 68 = .ok (.invokevirtual 459, 3) := by decide +kernel
theorem dX11_mean_71 : decode cX11_mean 71 = .ok (.aload_n 0, 1) := by decide +kernel
theorem dX11_mean_72 : decode cX11_mean 72 = .ok (.getfield 140, 3) := by decide +kernel
theorem dX11_mean_75 : decode cX11_mean 75 = .ok (.iconst 2, 1) := by decide +kernel
theorem dX11_mean_76 : decode cX11_mean 76 = .ok (.iaload, 1) := by decide +kernel
theorem dX11_mean_77 : decode cX11_mean 77 = .ok (.ireturn, 1) := by decide +kernel
theorem dX11_riskiest_0 : decode cX11_riskiest 0 = .ok (.aload_n 0, 1) := by decide +kernel
theorem dX11_riskiest_1 : decode cX11_riskiest 1 = .ok (.iconst 0, 1) := by decide +kernel
theorem dX11_riskiest_2 : decode cX11_riskiest 2 = .ok (.putfield 3, 3) := by decide +kernel
theorem dX11_riskiest_5 : decode cX11_riskiest 5 = .ok (.aload_n 0, 1) := by decide +kernel
theorem dX11_riskiest_6 : decode cX11_riskiest 6 = .ok (.getfield 140, 3) := by decide +kernel
theorem dX11_riskiest_9 : decode cX11_riskiest 9 = .ok (.iconst 2, 1) := by decide +kernel
theorem dX11_riskiest_10 : decode cX11_riskiest 10 = .ok (.iaload, 1) := by decide +kernel
theorem dX11_riskiest_11 : decode cX11_riskiest 11 = .ok (.ifCond .ne 6, 3) := by decide +kernel
theorem dX11_riskiest_14 : decode cX11_riskiest 14 = .ok (.bipush (-2), 2) := by decide +kernel
theorem dX11_riskiest_16 : decode cX11_riskiest 16 = .ok (.ireturn, 1) := by decide +kernel
theorem dX11_riskiest_17 : decode cX11_riskiest 17 = .ok (.iconst 0, 1) := by decide +kernel
theorem dX11_riskiest_18 : decode cX11_riskiest 18 = .ok (.istore_n 1, 1) := by decide +kernel
theorem dX11_riskiest_19 : decode cX11_riskiest 19 = .ok (.iconst 1, 1) := by decide +kernel
theorem dX11_riskiest_20 : decode cX11_riskiest 20 = .ok (.istore_n 2, 1) := by decide +kernel
theorem dX11_riskiest_21 : decode cX11_riskiest 21 = .ok (.iload_n 2, 1) := by decide +kernel
theorem dX11_riskiest_22 : decode cX11_riskiest 22 = .ok (.aload_n 0, 1) := by decide +kernel
theorem dX11_riskiest_23 : decode cX11_riskiest 23 = .ok (.getfield 140, 3) := by decide +kernel
theorem dX11_riskiest_26 : decode cX11_riskiest 26 = .ok (.iconst 2, 1) := by decide +kernel
theorem dX11_riskiest_27 : decode cX11_riskiest 27 = .ok (.iaload, 1) := by decide +kernel
theorem dX11_riskiest_28 : decode cX11_riskiest 28 = .ok (.if_icmp .ge 36, 3) := by decide +kernel
theorem dX11_riskiest_31 : decode cX11_riskiest 31 = .ok (.aload_n 0, 1) := by decide +kernel
theorem dX11_riskiest_32 : decode cX11_riskiest 32 = .ok (.getfield 140, 3) := by decide +kernel
theorem dX11_riskiest_35 : decode cX11_riskiest 35 = .ok (.bipush 67, 2) := by decide +kernel
theorem dX11_riskiest_37 : decode cX11_riskiest 37 = .ok (.iload_n 2, 1) := by decide +kernel
theorem dX11_riskiest_38 : decode cX11_riskiest 38 = .ok (.iadd, 1) := by decide +kernel
theorem dX11_riskiest_39 : decode cX11_riskiest 39 = .ok (.iaload, 1) := by decide +kernel
theorem dX11_riskiest_40 : decode cX11_riskiest 40 = .ok (.aload_n 0, 1) := by decide +kernel
theorem dX11_riskiest_41 : decode cX11_riskiest 41 = .ok (.getfield 140, 3) := by decide +kernel
theorem dX11_riskiest_44 : decode cX11_riskiest 44 = .ok (.bipush 67, 2) := by decide +kernel
theorem dX11_riskiest_46 : decode cX11_riskiest 46 = .ok (.iload_n 1, 1) := by decide +kernel
theorem dX11_riskiest_47 : decode cX11_riskiest 47 = .ok (.iadd, 1) := by decide +kernel
theorem dX11_riskiest_48 : decode cX11_riskiest 48 = .ok (.iaload, 1) := by decide +kernel
theorem dX11_riskiest_49 : decode cX11_riskiest 49 = .ok (.if_icmp .le 7, 3) := by decide +kernel
theorem dX11_riskiest_52 : decode cX11_riskiest 52 = .ok (.iload_n 2, 1) := by decide +kernel
theorem dX11_riskiest_53 : decode cX11_riskiest 53 = .ok (.goto 4, 3) := by decide +kernel
theorem dX11_riskiest_56 : decode cX11_riskiest 56 = .ok (.iload_n 1, 1) := by decide +kernel
theorem dX11_riskiest_57 : decode cX11_riskiest 57 = .ok (.istore_n 1, 1) := by decide +kernel
theorem dX11_riskiest_58 : decode cX11_riskiest 58 = .ok (.iinc 2 1, 3) := by decide +kernel
theorem dX11_riskiest_61 : decode cX11_riskiest 61 = .ok (.goto (-40), 3) := by decide +kernel
theorem dX11_riskiest_64 : decode cX11_riskiest 64 = .ok (.aload_n 0, 1) := by decide +kernel
theorem dX11_riskiest_65 : decode cX11_riskiest 65 = .ok (.iconst 0, 1) := by decide +kernel
theorem dX11_riskiest_66 : decode cX11_riskiest 66 = .ok (.putfield 11, 3) := by decide +kernel
theorem dX11_riskiest_69 : decode cX11_riskiest 69 = .ok (.aload_n 0, 1) := by decide +kernel
theorem dX11_riskiest_70 : decode cX11_riskiest 70 = .ok (.aload_n 0, 1) := by decide +kernel
theorem dX11_riskiest_71 : decode cX11_riskiest 71 = .ok (.getfield 140, 3) := by decide +kernel
theorem dX11_riskiest_74 : decode cX11_riskiest 74 = .ok (.bipush 67, 2) := by decide +kernel
theorem dX11_riskiest_76 : decode cX11_riskiest 76 = .ok (.iload_n 1, 1) := by decide +kernel
theorem dX11_riskiest_77 : decode cX11_riskiest 77 = .ok (.iadd, 1) := by decide +kernel
theorem dX11_riskiest_78 : decode cX11_riskiest 78 = .ok (.iaload, 1) := by decide +kernel
theorem dX11_riskiest_79 : decode cX11_riskiest 79 = .ok (.i2l, 1) := by decide +kernel
theorem dX11_riskiest_80 : decode cX11_riskiest 80 = .ok (.invokevirtual 18, 3) := by decide +kernel
theorem dX11_riskiest_83 : decode cX11_riskiest 83 = .ok (.iload_n 1, 1) := by decide +kernel
theorem dX11_riskiest_84 : decode cX11_riskiest 84 = .ok (.ireturn, 1) := by decide +kernel
theorem dX11_site_0 : decode cX11_site 0 = .ok (.aload_n 0, 1) := by decide +kernel
theorem dX11_site_1 : decode cX11_site 1 = .ok (.iconst 0, 1) := by decide +kernel
theorem dX11_site_2 : decode cX11_site 2 = .ok (.putfield 3, 3) := by decide +kernel
theorem dX11_site_5 : decode cX11_site 5 = .ok (.iload_n 1, 1) := by decide +kernel
theorem dX11_site_6 : decode cX11_site 6 = .ok (.i2l, 1) := by decide +kernel
theorem dX11_site_7 : decode cX11_site 7 = .ok (.lconst 1, 1) := by decide +kernel
theorem dX11_site_8 : decode cX11_site 8 = .ok (.ldc2_w 65, 3) := by decide +kernel
theorem dX11_site_11 : decode cX11_site 11 = .ok (.invokestatic 25, 3) := by decide +kernel
theorem dX11_site_14 : decode cX11_site 14 = .ok (.ifCond .eq 61, 3) := by decide +kernel
theorem dX11_site_17 : decode cX11_site 17 = .ok (.iload_n 2, 1) := by decide +kernel
theorem dX11_site_18 : decode cX11_site 18 = .ok (.ifCond .lt 57, 3) := by decide +kernel
theorem dX11_site_21 : decode cX11_site 21 = .ok (.iload_n 2, 1) := by decide +kernel
theorem dX11_site_22 : decode cX11_site 22 = .ok (.bipush 64, 2) := by decide +kernel
theorem dX11_site_24 : decode cX11_site 24 = .ok (.idiv, 1) := by decide +kernel
theorem dX11_site_25 : decode cX11_site 25 = .ok (.i2l, 1) := by decide +kernel
theorem dX11_site_26 : decode cX11_site 26 = .ok (.lconst 1, 1) := by decide +kernel
theorem dX11_site_27 : decode cX11_site 27 = .ok (.ldc2_w 69, 3) := by decide +kernel
theorem dX11_site_30 : decode cX11_site 30 = .ok (.invokestatic 25, 3) := by decide +kernel
theorem dX11_site_33 : decode cX11_site 33 = .ok (.ifCond .eq 42, 3) := by decide +kernel
theorem dX11_site_36 : decode cX11_site 36 = .ok (.iload_n 2, 1) := by decide +kernel
theorem dX11_site_37 : decode cX11_site 37 = .ok (.bipush 64, 2) := by decide +kernel
theorem dX11_site_39 : decode cX11_site 39 = .ok (.irem, 1) := by decide +kernel
theorem dX11_site_40 : decode cX11_site 40 = .ok (.i2l, 1) := by decide +kernel
theorem dX11_site_41 : decode cX11_site 41 = .ok (.lconst 1, 1) := by decide +kernel
theorem dX11_site_42 : decode cX11_site 42 = .ok (.ldc2_w 71, 3) := by decide +kernel
theorem dX11_site_45 : decode cX11_site 45 = .ok (.invokestatic 25, 3) := by decide +kernel
theorem dX11_site_48 : decode cX11_site 48 = .ok (.ifCond .eq 27, 3) := by decide +kernel
theorem dX11_site_51 : decode cX11_site 51 = .ok (.iload_n 3, 1) := by decide +kernel
theorem dX11_site_52 : decode cX11_site 52 = .ok (.i2l, 1) := by decide +kernel
theorem dX11_site_53 : decode cX11_site 53 = .ok (.lconst 0, 1) := by decide +kernel
theorem dX11_site_54 : decode cX11_site 54 = .ok (.ldc2_w 69, 3) := by decide +kernel
theorem dX11_site_57 : decode cX11_site 57 = .ok (.invokestatic 25, 3) := by decide +kernel
theorem dX11_site_60 : decode cX11_site 60 = .ok (.ifCond .eq 15, 3) := by decide +kernel
theorem dX11_site_63 : decode cX11_site 63 = .ok (.iload 4, 2) := by decide +kernel
theorem dX11_site_65 : decode cX11_site 65 = .ok (.invokestatic 81, 3) := by decide +kernel
theorem dX11_site_68 : decode cX11_site 68 = .ok (.ifCond .eq 7, 3) := by decide +kernel
theorem dX11_site_71 : decode cX11_site 71 = .ok (.iconst 1, 1) := by decide +kernel
theorem dX11_site_72 : decode cX11_site 72 = .ok (.goto 4, 3) := by decide +kernel
theorem dX11_site_75 : decode cX11_site 75 = .ok (.iconst 0, 1) := by decide +kernel
theorem dX11_site_76 : decode cX11_site 76 = .ok (.istore 5, 2) := by decide +kernel
theorem dX11_site_78 : decode cX11_site 78 = .ok (.iload 5, 2) := by decide +kernel
theorem dX11_site_80 : decode cX11_site 80 = .ok (.ifCond .eq 19, 3) := by decide +kernel
theorem dX11_site_83 : decode cX11_site 83 = .ok (.aload_n 0, 1) := by decide +kernel
theorem dX11_site_84 : decode cX11_site 84 = .ok (.getfield 22, 3) := by decide +kernel
theorem dX11_site_87 : decode cX11_site 87 = .ok (.bipush 6, 2) := by decide +kernel
theorem dX11_site_89 : decode cX11_site 89 = .ok (.if_icmp .eq 10, 3) := by decide +kernel
theorem dX11_site_92 : decode cX11_site 92 = .ok (.aload_n 0, 1) := by decide +kernel
theorem dX11_site_93 : decode cX11_site 93 = .ok (.getfield 151, 3) := by decide +kernel
theorem dX11_site_96 : decode cX11_site 96 = .ok (.ifCond .ne 5, 3) := by decide +kernel
theorem dX11_site_99 : decode cX11_site 99 = .ok (.iconst (-1), 1) := by decide +kernel
theorem dX11_site_100 : decode cX11_site 100 = .ok (.ireturn, 1) := by decide +kernel
theorem dX11_site_101 : decode cX11_site 101 = .ok (.aload_n 0, 1) := by decide +kernel
theorem dX11_site_102 : decode cX11_site 102 = .ok (.iload 4, 2) := by decide +kernel
theorem dX11_site_104 : decode cX11_site 104 = .ok (.invokevirtual 422, 3) := by decide +kernel
theorem dX11_site_107 : decode cX11_site 107 = .ok (.istore 6, 2) := by decide +kernel
theorem dX11_site_109 : decode cX11_site 109 = .ok (.bipush (-2), 2) := by decide +kernel
theorem dX11_site_111 : decode cX11_site 111 = .ok (.istore 7, 2) := by decide +kernel
theorem dX11_site_113 : decode cX11_site 113 = .ok (.iconst 0, 1) := by decide +kernel
theorem dX11_site_114 : decode cX11_site 114 = .ok (.istore 8, 2) := by decide +kernel
theorem dX11_site_116 : decode cX11_site 116 = .ok (.iconst 0, 1) := by decide +kernel
theorem dX11_site_117 : decode cX11_site 117 = .ok (.istore 9, 2) := by decide +kernel
theorem dX11_site_119 : decode cX11_site 119 = .ok (.iload 9, 2) := by decide +kernel
theorem dX11_site_121 : decode cX11_site 121 = .ok (.bipush 24, 2) := by decide +kernel
theorem dX11_site_123 : decode cX11_site 123 = .ok (.if_icmp .ge 103, 3) := by decide +kernel
theorem dX11_site_126 : decode cX11_site 126 = .ok (.aload_n 0, 1) := by decide +kernel
theorem dX11_site_127 : decode cX11_site 127 = .ok (.iload 9, 2) := by decide +kernel
theorem dX11_site_129 : decode cX11_site 129 = .ok (.bipush 9, 2) := by decide +kernel
theorem dX11_site_131 : decode cX11_site 131 = .ok (.iload_n 1, 1) := by decide +kernel
theorem dX11_site_132 : decode cX11_site 132 = .ok (.iconst 1, 1) := by decide +kernel
theorem dX11_site_133 : decode cX11_site 133 = .ok (.iload_n 2, 1) := by decide +kernel
theorem dX11_site_134 : decode cX11_site 134 = .ok (.bipush 64, 2) := by decide +kernel
theorem dX11_site_136 : decode cX11_site 136 = .ok (.idiv, 1) := by decide +kernel
theorem dX11_site_137 : decode cX11_site 137 = .ok (.iload_n 2, 1) := by decide +kernel
theorem dX11_site_138 : decode cX11_site 138 = .ok (.bipush 64, 2) := by decide +kernel
theorem dX11_site_140 : decode cX11_site 140 = .ok (.irem, 1) := by decide +kernel
theorem dX11_site_141 : decode cX11_site 141 = .ok (.invokevirtual 73, 3) := by decide +kernel
theorem dX11_site_144 : decode cX11_site 144 = .ok (.iconst 0, 1) := by decide +kernel
theorem dX11_site_145 : decode cX11_site 145 = .ok (.istore 10, 2) := by decide +kernel
theorem dX11_site_147 : decode cX11_site 147 = .ok (.iload 10, 2) := by decide +kernel
theorem dX11_site_149 : decode cX11_site 149 = .ok (.iconst 1, 1) := by decide +kernel
theorem dX11_site_150 : decode cX11_site 150 = .ok (.iadd, 1) := by decide +kernel
theorem dX11_site_151 : decode cX11_site 151 = .ok (.aload_n 0, 1) := by decide +kernel
theorem dX11_site_152 : decode cX11_site 152 = .ok (.getfield 22, 3) := by decide +kernel
theorem dX11_site_155 : decode cX11_site 155 = .ok (.if_icmp .ge 22, 3) := by decide +kernel
theorem dX11_site_158 : decode cX11_site 158 = .ok (.aload_n 0, 1) := by decide +kernel
theorem dX11_site_159 : decode cX11_site 159 = .ok (.iload 10, 2) := by decide +kernel
theorem dX11_site_161 : decode cX11_site 161 = .ok (.aload_n 0, 1) := by decide +kernel
theorem dX11_site_162 : decode cX11_site 162 = .ok (.getfield 22, 3) := by decide +kernel
theorem dX11_site_165 : decode cX11_site 165 = .ok (.iconst 1, 1) := by decide +kernel
theorem dX11_site_166 : decode cX11_site 166 = .ok (.isub, 1) := by decide +kernel
theorem dX11_site_167 : decode cX11_site 167 = .ok (.iload_n 3, 1) := by decide +kernel
theorem dX11_site_168 : decode cX11_site 168 = .ok (.invokevirtual 89, 3) := by decide +kernel
theorem dX11_site_171 : decode cX11_site 171 = .ok (.iinc 10 1, 3) := by decide +kernel
theorem dX11_site_174 : decode cX11_site 174 = .ok (.goto (-27), 3) := by decide +kernel
theorem dX11_site_177 : decode cX11_site 177 = .ok (.aload_n 0, 1) := by decide +kernel
theorem dX11_site_178 : decode cX11_site 178 = .ok (.iload 4, 2) := by decide +kernel
theorem dX11_site_180 : decode cX11_site 180 = .ok (.invokevirtual 422, 3) := by decide +kernel
theorem dX11_site_183 : decode cX11_site 183 = .ok (.istore 10, 2) := by decide +kernel
theorem dX11_site_185 : decode cX11_site 185 = .ok (.aload_n 0, 1) := by decide +kernel
theorem dX11_site_186 : decode cX11_site 186 = .ok (.dup, 1) := by decide +kernel
theorem dX11_site_187 : decode cX11_site 187 = .ok (.getfield 22, 3) := by decide +kernel
theorem dX11_site_190 : decode cX11_site 190 = .ok (.iconst 1, 1) := by decide +kernel
theorem dX11_site_191 : decode cX11_site 191 = .ok (.isub, 1) := by decide +kernel
theorem dX11_site_192 : decode cX11_site 192 = .ok (.putfield 22, 3) := by decide +kernel
theorem dX11_site_195 : decode cX11_site 195 = .ok (.iload 10, 2) := by decide +kernel
theorem dX11_site_197 : decode cX11_site 197 = .ok (.ifCond .lt 23, 3) := by decide +kernel
theorem dX11_site_200 : decode cX11_site 200 = .ok (.iload 7, 2) := by decide +kernel
theorem dX11_site_202 : decode cX11_site 202 = .ok (.ifCond .lt 10, 3) := by decide +kernel
theorem dX11_site_205 : decode cX11_site 205 = .ok (.iload 10, 2) := by decide +kernel
theorem dX11_site_207 : decode cX11_site 207 = .ok (.iload 8, 2) := by decide +kernel
theorem dX11_site_209 : decode cX11_site 209 = .ok (.if_icmp .ge 11, 3) := by decide +kernel
theorem dX11_site_212 : decode cX11_site 212 = .ok (.iload 9, 2) := by decide +kernel
theorem dX11_site_214 : decode cX11_site 214 = .ok (.istore 7, 2) := by decide +kernel
theorem dX11_site_216 : decode cX11_site 216 = .ok (.iload 10, 2) := by decide +kernel
theorem dX11_site_218 : decode cX11_site 218 = .ok (.istore 8, 2) := by decide +kernel
theorem dX11_site_220 : decode cX11_site 220 = .ok (.iinc 9 1, 3) := by decide +kernel
theorem dX11_site_223 : decode cX11_site 223 = .ok (.goto (-104), 3) := by decide +kernel
theorem dX11_site_226 : decode cX11_site 226 = .ok (.iload 7, 2) := by decide +kernel
theorem dX11_site_228 : decode cX11_site 228 = .ok (.ifCond .lt 22, 3) := by decide +kernel
theorem dX11_site_231 : decode cX11_site 231 = .ok (.aload_n 0, 1) := by decide +kernel
theorem dX11_site_232 : decode cX11_site 232 = .ok (.iconst 0, 1) := by decide +kernel
theorem dX11_site_233 : decode cX11_site 233 = .ok (.putfield 11, 3) := by decide +kernel
theorem dX11_site_236 : decode cX11_site 236 = .ok (.aload_n 0, 1) := by decide +kernel
theorem dX11_site_237 : decode cX11_site 237 = .ok (.iload 8, 2) := by decide +kernel
theorem dX11_site_239 : decode cX11_site 239 = .ok (.i2l, 1) := by decide +kernel
theorem dX11_site_240 : decode cX11_site 240 = .ok (.invokevirtual 18, 3) := by decide +kernel
theorem dX11_site_243 : decode cX11_site 243 = .ok (.aload_n 0, 1) := by decide +kernel
theorem dX11_site_244 : decode cX11_site 244 = .ok (.iload 6, 2) := by decide +kernel
theorem dX11_site_246 : decode cX11_site 246 = .ok (.i2l, 1) := by decide +kernel
theorem dX11_site_247 : decode cX11_site 247 = .ok (.invokevirtual 18, 3) := by decide +kernel
theorem dX11_site_250 : decode cX11_site 250 = .ok (.iload 7, 2) := by decide +kernel
theorem dX11_site_252 : decode cX11_site 252 = .ok (.ireturn, 1) := by decide +kernel
theorem dX11_together_0 : decode cX11_together 0 = .ok (.aload_n 0, 1) := by decide +kernel
theorem dX11_together_1 : decode cX11_together 1 = .ok (.iconst 0, 1) := by decide +kernel
theorem dX11_together_2 : decode cX11_together 2 = .ok (.putfield 3, 3) := by decide +kernel
theorem dX11_together_5 : decode cX11_together 5 = .ok (.aload_n 0, 1) := by decide +kernel
theorem dX11_together_6 : decode cX11_together 6 = .ok (.iload_n 1, 1) := by decide +kernel
theorem dX11_together_7 : decode cX11_together 7 = .ok (.invokevirtual 77, 3) := by decide +kernel
theorem dX11_together_10 : decode cX11_together 10 = .ok (.ifCond .eq 17, 3) := by decide +kernel
theorem dX11_together_13 : decode cX11_together 13 = .ok (.iload_n 2, 1) := by decide +kernel
theorem dX11_together_14 : decode cX11_together 14 = .ok (.invokestatic 81, 3) := by decide +kernel
theorem dX11_together_17 : decode cX11_together 17 = .ok (.ifCond .eq 10, 3) := by decide +kernel
theorem dX11_together_20 : decode cX11_together 20 = .ok (.aload_n 0, 1) := by decide +kernel
theorem dX11_together_21 : decode cX11_together 21 = .ok (.getfield 151, 3) := by decide +kernel
theorem dX11_together_24 : decode cX11_together 24 = .ok (.ifCond .ne 5, 3) := by decide +kernel
theorem dX11_together_27 : decode cX11_together 27 = .ok (.iconst (-1), 1) := by decide +kernel
theorem dX11_together_28 : decode cX11_together 28 = .ok (.ireturn, 1) := by decide +kernel
theorem dX11_together_29 : decode cX11_together 29 = .ok (.aload_n 0, 1) := by decide +kernel
theorem dX11_together_30 : decode cX11_together 30 = .ok (.getfield 199, 3) := by decide +kernel
theorem dX11_together_33 : decode cX11_together 33 = .ok (.iconst 0, 1) := by decide +kernel
theorem dX11_together_34 : decode cX11_together 34 = .ok (.iaload, 1) := by decide +kernel
theorem dX11_together_35 : decode cX11_together 35 = .ok (.istore_n 3, 1) := by decide +kernel
theorem dX11_together_36 : decode cX11_together 36 = .ok (.aload_n 0, 1) := by decide +kernel
theorem dX11_together_37 : decode cX11_together 37 = .ok (.getfield 47, 3) := by decide +kernel
theorem dX11_together_40 : decode cX11_together 40 = .ok (.iload_n 1, 1) := by decide +kernel
theorem dX11_together_41 : decode cX11_together 41 = .ok (.iaload, 1) := by decide +kernel
theorem dX11_together_42 : decode cX11_together 42 = .ok (.istore 4, 2) := by decide +kernel
theorem dX11_together_44 : decode cX11_together 44 = .ok (.aload_n 0, 1) := by decide +kernel
theorem dX11_together_45 : decode cX11_together 45 = .ok (.getfield 44, 3) := by decide +kernel
theorem dX11_together_48 : decode cX11_together 48 = .ok (.iload_n 1, 1) := by decide +kernel
theorem dX11_together_49 : decode cX11_together 49 = .ok (.iaload, 1) := by decide +kernel
theorem dX11_together_50 : decode cX11_together 50 = .ok (.istore 5, 2) := by decide +kernel
theorem dX11_together_52 : decode cX11_together 52 = .ok (.iconst 0, 1) := by decide +kernel
theorem dX11_together_53 : decode cX11_together 53 = .ok (.istore 6, 2) := by decide +kernel
theorem dX11_together_55 : decode cX11_together 55 = .ok (.iconst 0, 1) := by decide +kernel
theorem dX11_together_56 : decode cX11_together 56 = .ok (.istore 7, 2) := by decide +kernel
theorem dX11_together_58 : decode cX11_together 58 = .ok (.iload 7, 2) := by decide +kernel
theorem dX11_together_60 : decode cX11_together 60 = .ok (.aload_n 0, 1) := by decide +kernel
theorem dX11_together_61 : decode cX11_together 61 = .ok (.getfield 22, 3) := by decide +kernel
theorem dX11_together_64 : decode cX11_together 64 = .ok (.if_icmp .ge 21, 3) := by decide +kernel
theorem dX11_together_67 : decode cX11_together 67 = .ok (.iload 6, 2) := by decide +kernel
theorem dX11_together_69 : decode cX11_together 69 = .ok (.aload_n 0, 1) := by decide +kernel
theorem dX11_together_70 : decode cX11_together 70 = .ok (.getfield 44, 3) := by decide +kernel
theorem dX11_together_73 : decode cX11_together 73 = .ok (.iload 7, 2) := by decide +kernel
theorem dX11_together_75 : decode cX11_together 75 = .ok (.iaload, 1) := by decide +kernel
theorem dX11_together_76 : decode cX11_together 76 = .ok (.iadd, 1) := by decide +kernel
theorem dX11_together_77 : decode cX11_together 77 = .ok (.istore 6, 2) := by decide +kernel
theorem dX11_together_79 : decode cX11_together 79 = .ok (.iinc 7 1, 3) := by decide +kernel
theorem dX11_together_82 : decode cX11_together 82 = .ok (.goto (-24), 3) := by decide +kernel
theorem dX11_together_85 : decode cX11_together 85 = .ok (.aload_n 0, 1) := by decide +kernel
theorem dX11_together_86 : decode cX11_together 86 = .ok (.invokevirtual 419, 3) := by decide +kernel
theorem dX11_together_89 : decode cX11_together 89 = .ok (.iconst 0, 1) := by decide +kernel
theorem dX11_together_90 : decode cX11_together 90 = .ok (.istore 7, 2) := by decide +kernel
theorem dX11_together_92 : decode cX11_together 92 = .ok (.iload 7, 2) := by decide +kernel
theorem dX11_together_94 : decode cX11_together 94 = .ok (.aload_n 0, 1) := by decide +kernel
theorem dX11_together_95 : decode cX11_together 95 = .ok (.getfield 151, 3) := by decide +kernel
theorem dX11_together_98 : decode cX11_together 98 = .ok (.if_icmp .ge 17, 3) := by decide +kernel
theorem dX11_together_101 : decode cX11_together 101 = .ok (.aload_n 0, 1) := by decide +kernel
theorem dX11_together_102 : decode cX11_together 102 = .ok (.getfield 143, 3) := by decide +kernel
theorem dX11_together_105 : decode cX11_together 105 = .ok (.iload 7, 2) := by decide +kernel
theorem dX11_together_107 : decode cX11_together 107 = .ok (.iload_n 1, 1) := by decide +kernel
theorem dX11_together_108 : decode cX11_together 108 = .ok (.iastore, 1) := by decide +kernel
theorem dX11_together_109 : decode cX11_together 109 = .ok (.iinc 7 1, 3) := by decide +kernel
theorem dX11_together_112 : decode cX11_together 112 = .ok (.goto (-20), 3) := by decide +kernel
theorem dX11_together_115 : decode cX11_together 115 = .ok (.aload_n 0, 1) := by decide +kernel
theorem dX11_together_116 : decode cX11_together 116 = .ok (.getfield 199, 3) := by decide +kernel
theorem dX11_together_119 : decode cX11_together 119 = .ok (.iconst 0, 1) := by decide +kernel
theorem dX11_together_120 : decode cX11_together 120 = .ok (.iconst 0, 1) := by decide +kernel
theorem dX11_together_121 : decode cX11_together 121 = .ok (.iastore, 1) := by decide +kernel
theorem dX11_together_122 : decode cX11_together 122 = .ok (.aload_n 0, 1) := by decide +kernel
theorem dX11_together_123 : decode cX11_together 123 = .ok (.getfield 47, 3) := by decide +kernel
theorem dX11_together_126 : decode cX11_together 126 = .ok (.iload_n 1, 1) := by decide +kernel
theorem dX11_together_127 : decode cX11_together 127 = .ok (.bipush 63, 2) := by decide +kernel
theorem dX11_together_129 : decode cX11_together 129 = .ok (.iastore, 1) := by decide +kernel
theorem dX11_together_130 : decode cX11_together 130 = .ok (.aload_n 0, 1) := by decide +kernel
theorem dX11_together_131 : decode cX11_together 131 = .ok (.getfield 44, 3) := by decide +kernel
theorem dX11_together_134 : decode cX11_together 134 = .ok (.iload_n 1, 1) := by decide +kernel
theorem dX11_together_135 : decode cX11_together 135 = .ok (.bipush 9, 2) := by decide +kernel
theorem dX11_together_137 : decode cX11_together 137 = .ok (.iload 6, 2) := by decide +kernel
theorem dX11_together_139 : decode cX11_together 139 = .ok (.invokestatic 95, 3) := by decide +kernel
theorem dX11_together_142 : decode cX11_together 142 = .ok (.iastore, 1) := by decide +kernel
theorem dX11_together_143 : decode cX11_together 143 = .ok (.aload_n 0, 1) := by decide +kernel
theorem dX11_together_144 : decode cX11_together 144 = .ok (.iconst 1, 1) := by decide +kernel
theorem dX11_together_145 : decode cX11_together 145 = .ok (.putfield 271, 3) := by decide +kernel
theorem dX11_together_148 : decode cX11_together 148 = .ok (.aload_n 0, 1) := by decide +kernel
theorem dX11_together_149 : decode cX11_together 149 = .ok (.aload_n 0, 1) := by decide +kernel
theorem dX11_together_150 : decode cX11_together 150 = .ok (.getfield 322, 3) := by decide +kernel
theorem dX11_together_153 : decode cX11_together 153 = .ok (.invokevirtual 325, 3) := by decide +kernel
theorem dX11_together_156 : decode cX11_together 156 = .ok (.aload_n 0, 1) := by decide +kernel
theorem dX11_together_157 : decode cX11_together 157 = .ok (.iload_n 2, 1) := by decide +kernel
theorem dX11_together_158 : decode cX11_together 158 = .ok (.invokevirtual 303, 3) := by decide +kernel
theorem dX11_together_161 : decode cX11_together 161 = .ok (.aload_n 0, 1) := by decide +kernel
theorem dX11_together_162 : decode cX11_together 162 = .ok (.invokevirtual 329, 3) := by decide +kernel
theorem dX11_together_165 : decode cX11_together 165 = .ok (.istore 7, 2) := by decide +kernel
theorem dX11_together_167 : decode cX11_together 167 = .ok (.aload_n 0, 1) := by decide +kernel
theorem dX11_together_168 : decode cX11_together 168 = .ok (.aload_n 0, 1) := by decide +kernel
theorem dX11_together_169 : decode cX11_together 169 = .ok (.getfield 322, 3) := by decide +kernel
theorem dX11_together_172 : decode cX11_together 172 = .ok (.invokevirtual 332, 3) := by decide +kernel
theorem dX11_together_175 : decode cX11_together 175 = .ok (.aload_n 0, 1) := by decide +kernel
theorem dX11_together_176 : decode cX11_together 176 = .ok (.iconst 0, 1) := by decide +kernel
theorem dX11_together_177 : decode cX11_together 177 = .ok (.putfield 271, 3) := by decide +kernel
theorem dX11_together_180 : decode cX11_together 180 = .ok (.aload_n 0, 1) := by decide +kernel
theorem dX11_together_181 : decode cX11_together 181 = .ok (.getfield 44, 3) := by decide +kernel
theorem dX11_together_184 : decode cX11_together 184 = .ok (.iload_n 1, 1) := by decide +kernel
theorem dX11_together_185 : decode cX11_together 185 = .ok (.iload 5, 2) := by decide +kernel
theorem dX11_together_187 : decode cX11_together 187 = .ok (.iastore, 1) := by decide +kernel
theorem dX11_together_188 : decode cX11_together 188 = .ok (.aload_n 0, 1) := by decide +kernel
theorem dX11_together_189 : decode cX11_together 189 = .ok (.getfield 47, 3) := by decide +kernel
theorem dX11_together_192 : decode cX11_together 192 = .ok (.iload_n 1, 1) := by decide +kernel
theorem dX11_together_193 : decode cX11_together 193 = .ok (.iload 4, 2) := by decide +kernel
theorem dX11_together_195 : decode cX11_together 195 = .ok (.iastore, 1) := by decide +kernel
theorem dX11_together_196 : decode cX11_together 196 = .ok (.aload_n 0, 1) := by decide +kernel
theorem dX11_together_197 : decode cX11_together 197 = .ok (.getfield 199, 3) := by decide +kernel
theorem dX11_together_200 : decode cX11_together 200 = .ok (.iconst 0, 1) := by decide +kernel
theorem dX11_together_201 : decode cX11_together 201 = .ok (.iload_n 3, 1) := by decide +kernel
theorem dX11_together_202 : decode cX11_together 202 = .ok (.iastore, 1) := by decide +kernel
theorem dX11_together_203 : decode cX11_together 203 = .ok (.aload_n 0, 1) := by decide +kernel
theorem dX11_together_204 : decode cX11_together 204 = .ok (.invokevirtual 431, 3) := by decide +kernel
theorem dX11_together_207 : decode cX11_together 207 = .ok (.iload 7, 2) := by decide +kernel
theorem dX11_together_209 : decode cX11_together 209 = .ok (.ireturn, 1) := by decide +kernel
theorem dX11_endsOn_0 : decode cX11_endsOn 0 = .ok (.aload_n 0, 1) := by decide +kernel
theorem dX11_endsOn_1 : decode cX11_endsOn 1 = .ok (.getfield 56, 3) := by decide +kernel
theorem dX11_endsOn_4 : decode cX11_endsOn 4 = .ok (.bipush 100, 2) := by decide +kernel
theorem dX11_endsOn_6 : decode cX11_endsOn 6 = .ok (.iload_n 1, 1) := by decide +kernel
theorem dX11_endsOn_7 : decode cX11_endsOn 7 = .ok (.imul, 1) := by decide +kernel
theorem dX11_endsOn_8 : decode cX11_endsOn 8 = .ok (.iload_n 2, 1) := by decide +kernel
theorem dX11_endsOn_9 : decode cX11_endsOn 9 = .ok (.iadd, 1) := by decide +kernel
theorem dX11_endsOn_10 : decode cX11_endsOn 10 = .ok (.iconst 1, 1) := by decide +kernel
theorem dX11_endsOn_11 : decode cX11_endsOn 11 = .ok (.bastore, 1) := by decide +kernel
theorem dX11_endsOn_12 : decode cX11_endsOn 12 = .ok (.aload_n 0, 1) := by decide +kernel
theorem dX11_endsOn_13 : decode cX11_endsOn 13 = .ok (.invokevirtual 463, 3) := by decide +kernel
theorem dX11_endsOn_16 : decode cX11_endsOn 16 = .ok (.istore_n 3, 1) := by decide +kernel
theorem dX11_endsOn_17 : decode cX11_endsOn 17 = .ok (.aload_n 0, 1) := by decide +kernel
theorem dX11_endsOn_18 : decode cX11_endsOn 18 = .ok (.getfield 56, 3) := by decide +kernel
theorem dX11_endsOn_21 : decode cX11_endsOn 21 = .ok (.bipush 100, 2) := by decide +kernel
theorem dX11_endsOn_23 : decode cX11_endsOn 23 = .ok (.iload_n 1, 1) := by decide +kernel
theorem dX11_endsOn_24 : decode cX11_endsOn 24 = .ok (.imul, 1) := by decide +kernel
theorem dX11_endsOn_25 : decode cX11_endsOn 25 = .ok (.iload_n 2, 1) := by decide +kernel
theorem dX11_endsOn_26 : decode cX11_endsOn 26 = .ok (.iadd, 1) := by decide +kernel
theorem dX11_endsOn_27 : decode cX11_endsOn 27 = .ok (.iconst 0, 1) := by decide +kernel
theorem dX11_endsOn_28 : decode cX11_endsOn 28 = .ok (.bastore, 1) := by decide +kernel
theorem dX11_endsOn_29 : decode cX11_endsOn 29 = .ok (.iload_n 3, 1) := by decide +kernel
theorem dX11_endsOn_30 : decode cX11_endsOn 30 = .ok (.ireturn, 1) := by decide +kernel
theorem dX11_sleeps_0 : decode cX11_sleeps 0 = .ok (.aload_n 0, 1) := by decide +kernel
theorem dX11_sleeps_1 : decode cX11_sleeps 1 = .ok (.iconst 0, 1) := by decide +kernel
theorem dX11_sleeps_2 : decode cX11_sleeps 2 = .ok (.putfield 3, 3) := by decide +kernel
theorem dX11_sleeps_5 : decode cX11_sleeps 5 = .ok (.aload_n 0, 1) := by decide +kernel
theorem dX11_sleeps_6 : decode cX11_sleeps 6 = .ok (.iload_n 1, 1) := by decide +kernel
theorem dX11_sleeps_7 : decode cX11_sleeps 7 = .ok (.invokevirtual 77, 3) := by decide +kernel
theorem dX11_sleeps_10 : decode cX11_sleeps 10 = .ok (.ifCond .eq 17, 3) := by decide +kernel
theorem dX11_sleeps_13 : decode cX11_sleeps 13 = .ok (.iload_n 2, 1) := by decide +kernel
theorem dX11_sleeps_14 : decode cX11_sleeps 14 = .ok (.invokestatic 86, 3) := by decide +kernel
theorem dX11_sleeps_17 : decode cX11_sleeps 17 = .ok (.ifCond .eq 10, 3) := by decide +kernel
theorem dX11_sleeps_20 : decode cX11_sleeps 20 = .ok (.aload_n 0, 1) := by decide +kernel
theorem dX11_sleeps_21 : decode cX11_sleeps 21 = .ok (.getfield 151, 3) := by decide +kernel
theorem dX11_sleeps_24 : decode cX11_sleeps 24 = .ok (.ifCond .ne 5, 3) := by decide +kernel
theorem dX11_sleeps_27 : decode cX11_sleeps 27 = .ok (.iconst (-1), 1) := by decide +kernel
theorem dX11_sleeps_28 : decode cX11_sleeps 28 = .ok (.ireturn, 1) := by decide +kernel
theorem dX11_sleeps_29 : decode cX11_sleeps 29 = .ok (.aload_n 0, 1) := by decide +kernel
theorem dX11_sleeps_30 : decode cX11_sleeps 30 = .ok (.getfield 56, 3) := by decide +kernel
theorem dX11_sleeps_33 : decode cX11_sleeps 33 = .ok (.bipush 100, 2) := by decide +kernel
theorem dX11_sleeps_35 : decode cX11_sleeps 35 = .ok (.iload_n 1, 1) := by decide +kernel
theorem dX11_sleeps_36 : decode cX11_sleeps 36 = .ok (.imul, 1) := by decide +kernel
theorem dX11_sleeps_37 : decode cX11_sleeps 37 = .ok (.iload_n 2, 1) := by decide +kernel
theorem dX11_sleeps_38 : decode cX11_sleeps 38 = .ok (.iadd, 1) := by decide +kernel
theorem dX11_sleeps_39 : decode cX11_sleeps 39 = .ok (.baload, 1) := by decide +kernel
theorem dX11_sleeps_40 : decode cX11_sleeps 40 = .ok (.ifCond .eq 7, 3) := by decide +kernel
theorem dX11_sleeps_43 : decode cX11_sleeps 43 = .ok (.sipush (-9998), 3) := by decide +kernel
theorem dX11_sleeps_46 : decode cX11_sleeps 46 = .ok (.ireturn, 1) := by decide +kernel
theorem dX11_sleeps_47 : decode cX11_sleeps 47 = .ok (.aload_n 0, 1) := by decide +kernel
theorem dX11_sleeps_48 : decode cX11_sleeps 48 = .ok (.invokevirtual 463, 3) := by decide +kernel
theorem dX11_sleeps_51 : decode cX11_sleeps 51 = .ok (.istore_n 3, 1) := by decide +kernel
theorem dX11_sleeps_52 : decode cX11_sleeps 52 = .ok (.aload_n 0, 1) := by decide +kernel
theorem dX11_sleeps_53 : decode cX11_sleeps 53 = .ok (.iload_n 1, 1) := by decide +kernel
theorem dX11_sleeps_54 : decode cX11_sleeps 54 = .ok (.iload_n 2, 1) := by decide +kernel
theorem dX11_sleeps_55 : decode cX11_sleeps 55 = .ok (.invokevirtual 466, 3) := by decide +kernel
theorem dX11_sleeps_58 : decode cX11_sleeps 58 = .ok (.istore 4, 2) := by decide +kernel
theorem dX11_sleeps_60 : decode cX11_sleeps 60 = .ok (.iload 4, 2) := by decide +kernel
theorem dX11_sleeps_62 : decode cX11_sleeps 62 = .ok (.ifCond .lt 7, 3) := by decide +kernel
theorem dX11_sleeps_65 : decode cX11_sleeps 65 = .ok (.iload_n 3, 1) := by decide +kernel
theorem dX11_sleeps_66 : decode cX11_sleeps 66 = .ok (.ifCond .ge 9, 3) := by decide +kernel
theorem dX11_sleeps_69 : decode cX11_sleeps 69 = .ok (.sipush (-9999), 3) := by decide +kernel
theorem dX11_sleeps_72 : decode cX11_sleeps 72 = .ok (.goto 7, 3) := by decide +kernel
theorem dX11_sleeps_75 : decode cX11_sleeps 75 = .ok (.iload 4, 2) := by decide +kernel
theorem dX11_sleeps_77 : decode cX11_sleeps 77 = .ok (.iload_n 3, 1) := by decide +kernel
theorem dX11_sleeps_78 : decode cX11_sleeps 78 = .ok (.isub, 1) := by decide +kernel
theorem dX11_sleeps_79 : decode cX11_sleeps 79 = .ok (.ireturn, 1) := by decide +kernel
noncomputable def f_X11_worth_118 (fu : Nat) (k51 : Int32 → Int32 → Int32 → Int64 → Int32 → hM → Option (Int32 × hM)) (x1 : Int32) (x2 : Int32) (x3 : Int32) (x4 : Int64) (x6 : Int32) (m : hM) : Option (Int32 × hM) :=
  hLet (x6 + 1) fun y16 =>
k51 x1 x2 x3 x4 y16 m
set_option maxRecDepth 100000 in
set_option maxHeartbeats 4000000 in
theorem r_X11_worth_118 {G : hG} {X : hX} (C : Cx G X 13 cX11_worth 10 RX11 (some .int)) (K : Cr G X) (fu : Nat) (k51 : Int32 → Int32 → Int32 → Int64 → Int32 → hM → Option (Int32 × hM)) (hk51 : ∀ (x1 : Int32) (x2 : Int32) (x3 : Int32) (x4 : Int64) (x6 : Int32) (m : hM), Rf vI G X 51 [(0, hA G 96), (1, .int x1), (2, .int x2), (3, .int x3), (4, .long x4), (6, .int x6)] [] m (k51 x1 x2 x3 x4 x6 m)) (x1 : Int32) (x2 : Int32) (x3 : Int32) (x4 : Int64) (x6 : Int32) (m : hM) : Rf vI G X 118 [(0, hA G 96), (1, .int x1), (2, .int x2), (3, .int x3), (4, .long x4), (6, .int x6)] [] m (f_X11_worth_118 fu k51 x1 x2 x3 x4 x6 m) := by
  unfold f_X11_worth_118
  refine rf_iinc2 C (n := 121) (q := 5) (fun y16 => [(6, .int y16), (0, hA G 96), (1, .int x1), (2, .int x2), (3, .int x3), (4, .long x4)]) dX11_worth_118 rfl rfl (by decide) (by decide) (fun _ => rfl) (fun y16 => ?_)
  refine rf_goto C (n := 51) dX11_worth_121 (by decide) ?_
  exact rf_lv _ [1, 2, 3, 4, 5, 0] rfl (hk51 _ _ _ _ _ _)
noncomputable def f_X11_worth_111 (fu : Nat) (k51 : Int32 → Int32 → Int32 → Int64 → Int32 → hM → Option (Int32 × hM)) (x1 : Int32) (x2 : Int32) (x6 : Int32) (x8 : Int64) (m : hM) : Option (Int32 × hM) :=
  f_X11_worth_118 fu k51 x1 x2 x6 x8 x6 m
set_option maxRecDepth 100000 in
set_option maxHeartbeats 4000000 in
theorem r_X11_worth_111 {G : hG} {X : hX} (C : Cx G X 13 cX11_worth 10 RX11 (some .int)) (K : Cr G X) (fu : Nat) (k51 : Int32 → Int32 → Int32 → Int64 → Int32 → hM → Option (Int32 × hM)) (hk51 : ∀ (x1 : Int32) (x2 : Int32) (x3 : Int32) (x4 : Int64) (x6 : Int32) (m : hM), Rf vI G X 51 [(0, hA G 96), (1, .int x1), (2, .int x2), (3, .int x3), (4, .long x4), (6, .int x6)] [] m (k51 x1 x2 x3 x4 x6 m)) (x1 : Int32) (x2 : Int32) (x6 : Int32) (x8 : Int64) (m : hM) : Rf vI G X 111 [(0, hA G 96), (1, .int x1), (2, .int x2), (6, .int x6), (8, .long x8)] [] m (f_X11_worth_111 fu k51 x1 x2 x6 x8 m) := by
  unfold f_X11_worth_111
  refine rf_iload C (n := 113) (q := 3) dX11_worth_111 rfl rfl ?_
  refine rf_istore_n C (n := 114) [(3, .int x6), (0, hA G 96), (1, .int x1), (2, .int x2), (6, .int x6), (8, .long x8)] dX11_worth_113 rfl rfl (by decide) rfl ?_
  refine rf_lload C (n := 116) (q := 5) dX11_worth_114 rfl rfl ?_
  refine rf_lstore C (n := 118) [(4, .long x8), (3, .int x6), (0, hA G 96), (1, .int x1), (2, .int x2), (6, .int x6), (8, .long x8)] dX11_worth_116 rfl (by decide) rfl ?_
  exact rf_lv _ [2, 3, 4, 1, 0, 5] rfl (r_X11_worth_118 C K fu _ hk51 _ _ _ _ _ _)
noncomputable def f_X11_worth_91 (fu : Nat) (k51 : Int32 → Int32 → Int32 → Int64 → Int32 → hM → Option (Int32 × hM)) (x1 : Int32) (x2 : Int32) (x3 : Int32) (x4 : Int64) (x6 : Int32) (s0 : Int64) (m : hM) : Option (Int32 × hM) :=
  hBd (f_X11_enters fu s0 m) fun _ m14 =>
if x3 < 0 then (
f_X11_worth_111 fu k51 x1 x2 x6 s0 m14) else (
if (lg_cmp s0 x4) ≤ 0 then (
f_X11_worth_118 fu k51 x1 x2 x3 x4 x6 m14) else (
f_X11_worth_111 fu k51 x1 x2 x6 s0 m14))
set_option maxRecDepth 100000 in
set_option maxHeartbeats 4000000 in
theorem r_X11_worth_91 {G : hG} {X : hX} (C : Cx G X 13 cX11_worth 10 RX11 (some .int)) (K : Cr G X) (fu : Nat) (k51 : Int32 → Int32 → Int32 → Int64 → Int32 → hM → Option (Int32 × hM)) (hk51 : ∀ (x1 : Int32) (x2 : Int32) (x3 : Int32) (x4 : Int64) (x6 : Int32) (m : hM), Rf vI G X 51 [(0, hA G 96), (1, .int x1), (2, .int x2), (3, .int x3), (4, .long x4), (6, .int x6)] [] m (k51 x1 x2 x3 x4 x6 m)) (x1 : Int32) (x2 : Int32) (x3 : Int32) (x4 : Int64) (x6 : Int32) (s0 : Int64) (m : hM) : Rf vI G X 91 [(0, hA G 96), (1, .int x1), (2, .int x2), (3, .int x3), (4, .long x4), (6, .int x6)] [.long s0] m (f_X11_worth_91 fu k51 x1 x2 x3 x4 x6 s0 m) := by
  unfold f_X11_worth_91
  refine rf_lstore C (n := 93) [(8, .long s0), (0, hA G 96), (1, .int x1), (2, .int x2), (3, .int x3), (4, .long x4), (6, .int x6)] dX11_worth_91 rfl (by decide) rfl ?_
  refine rf_aload_n C (n := 94) (q := 1) dX11_worth_93 rfl rfl rfl ?_
  refine rf_lload C (n := 96) (q := 0) dX11_worth_94 rfl rfl ?_
  refine rf_callVv C (n := 99) (c_X11_enters G fu _ _) mw_RX11_18 ly_96 rfl ⟨by decide, by decide⟩ rfl (Nat.le_of_ble_eq_true rfl) rfl dX11_worth_96 rfl (fun _ m14 => ?_)
  refine rf_iload_n C (n := 100) (q := 4) dX11_worth_99 rfl rfl rfl ?_
  refine rf_if_lt C (tgt := 111) (n := 103) dX11_worth_100 (by decide) rfl (fun h15 => ?_) (fun h15 => ?_)
  · exact rf_lv _ [1, 2, 3, 6, 0] rfl (r_X11_worth_111 C K fu _ hk51 _ _ _ _ _)
  · refine rf_lload C (n := 105) (q := 0) dX11_worth_103 rfl rfl ?_
    refine rf_lload C (n := 107) (q := 5) dX11_worth_105 rfl rfl ?_
    refine rf_lcmp C (n := 108) dX11_worth_107 rfl ?_
    refine rf_if_le C (tgt := 118) (n := 111) dX11_worth_108 (by decide) rfl (fun h17 => ?_) (fun h17 => ?_)
    · exact rf_lv _ [1, 2, 3, 4, 5, 6] rfl (r_X11_worth_118 C K fu _ hk51 _ _ _ _ _ _)
    · exact rf_lv _ [1, 2, 3, 6, 0] rfl (r_X11_worth_111 C K fu _ hk51 _ _ _ _ _)
noncomputable def f_X11_worth_80 (fu : Nat) (k51 : Int32 → Int32 → Int32 → Int64 → Int32 → hM → Option (Int32 × hM)) (x1 : Int32) (x2 : Int32) (x3 : Int32) (x4 : Int64) (x6 : Int32) (m : hM) : Option (Int32 × hM) :=
  f_X11_worth_91 fu k51 x1 x2 x3 x4 x6 (-9999) m
set_option maxRecDepth 100000 in
set_option maxHeartbeats 4000000 in
theorem r_X11_worth_80 {G : hG} {X : hX} (C : Cx G X 13 cX11_worth 10 RX11 (some .int)) (K : Cr G X) (fu : Nat) (k51 : Int32 → Int32 → Int32 → Int64 → Int32 → hM → Option (Int32 × hM)) (hk51 : ∀ (x1 : Int32) (x2 : Int32) (x3 : Int32) (x4 : Int64) (x6 : Int32) (m : hM), Rf vI G X 51 [(0, hA G 96), (1, .int x1), (2, .int x2), (3, .int x3), (4, .long x4), (6, .int x6)] [] m (k51 x1 x2 x3 x4 x6 m)) (x1 : Int32) (x2 : Int32) (x3 : Int32) (x4 : Int64) (x6 : Int32) (m : hM) : Rf vI G X 80 [(0, hA G 96), (1, .int x1), (2, .int x2), (3, .int x3), (4, .long x4), (6, .int x6)] [] m (f_X11_worth_80 fu k51 x1 x2 x3 x4 x6 m) := by
  unfold f_X11_worth_80
  refine rf_ldc2 C (n := 83) dX11_worth_80 rfl kl_RX11_454 ?_
  refine rf_goto C (n := 91) dX11_worth_83 (by decide) ?_
  exact rf_lv _ [0, 1, 2, 3, 4, 5] rfl (r_X11_worth_91 C K fu _ hk51 _ _ _ _ _ _ _)
noncomputable def s_X11_worth_51 (fu : Nat) (ih : Int32 → Int32 → Int32 → Int64 → Int32 → hM → Option (Int32 × hM)) (x1 : Int32) (x2 : Int32) (x3 : Int32) (x4 : Int64) (x6 : Int32) (m : hM) : Option (Int32 × hM) :=
  if (gI m 96 50) ≤ x6 then (
some (x3, m)) else (
hBd (f_X11_endsWith fu (1 <<< (x6 &&& 31)) x1 m) fun y11 m12 =>
if y11 < 0 then (
f_X11_worth_80 fu ih x1 x2 x3 x4 x6 m12) else (
if 0 ≤ x2 then (
f_X11_worth_91 fu ih x1 x2 x3 x4 x6 (Int32.toInt64 (x2 - y11)) m12) else (
f_X11_worth_80 fu ih x1 x2 x3 x4 x6 m12)))
noncomputable def f_X11_worth_51 (fu : Nat) (n : Nat) : Int32 → Int32 → Int32 → Int64 → Int32 → hM → Option (Int32 × hM) :=
  Nat.rec (motive := fun _ => Int32 → Int32 → Int32 → Int64 → Int32 → hM → Option (Int32 × hM)) (fun _ _ _ _ _ _ => none) (fun _ ih => s_X11_worth_51 fu ih) n
theorem f_X11_worth_51_s (fu : Nat) (n : Nat) (x1 : Int32) (x2 : Int32) (x3 : Int32) (x4 : Int64) (x6 : Int32) (m : hM) : f_X11_worth_51 fu (n + 1) x1 x2 x3 x4 x6 m = s_X11_worth_51 fu (f_X11_worth_51 fu n) x1 x2 x3 x4 x6 m := rfl
set_option maxRecDepth 100000 in
set_option maxHeartbeats 4000000 in
theorem r_X11_worth_51 {G : hG} {X : hX} (C : Cx G X 13 cX11_worth 10 RX11 (some .int)) (K : Cr G X) (fu : Nat) (n : Nat) : ∀ (x1 : Int32) (x2 : Int32) (x3 : Int32) (x4 : Int64) (x6 : Int32) (m : hM), Rf vI G X 51 [(0, hA G 96), (1, .int x1), (2, .int x2), (3, .int x3), (4, .long x4), (6, .int x6)] [] m (f_X11_worth_51 fu n x1 x2 x3 x4 x6 m) := by
  induction n with
  | zero => intros; exact rf_none
  | succ n ih =>
    intro x1 x2 x3 x4 x6 m
    show Rf vI G X 51 [(0, hA G 96), (1, .int x1), (2, .int x2), (3, .int x3), (4, .long x4), (6, .int x6)] [] m (s_X11_worth_51 fu (f_X11_worth_51 fu n) x1 x2 x3 x4 x6 m)
    unfold s_X11_worth_51
    refine rf_iload C (n := 53) (q := 5) dX11_worth_51 rfl rfl ?_
    refine rf_aload_n C (n := 54) (q := 0) dX11_worth_53 rfl rfl rfl ?_
    refine rf_getI C (n := 57) fl_RX11_434 ly_96 rfl dX11_worth_54 rfl ?_
    refine rf_icmp_ge C (tgt := 124) (n := 60) dX11_worth_57 (by decide) rfl (fun h10 => ?_) (fun h10 => ?_)
    · refine rf_iload_n C (n := 125) (q := 3) dX11_worth_124 rfl rfl rfl ?_
      exact rf_iret C K dX11_worth_125
    · refine rf_aload_n C (n := 61) (q := 0) dX11_worth_60 rfl rfl rfl ?_
      refine rf_iconst C (n := 62) (v := 1) dX11_worth_61 rfl (by decide) ?_
      refine rf_iload C (n := 64) (q := 5) dX11_worth_62 rfl rfl ?_
      refine rf_ishl C (n := 65) dX11_worth_64 rfl ?_
      refine rf_iload_n C (n := 66) (q := 1) dX11_worth_65 rfl rfl rfl ?_
      refine rf_callVi C (n := 69) (c_X11_endsWith G fu _ _ _) mw_RX11_451 ly_96 rfl ⟨by decide, by decide⟩ rfl (Nat.le_of_ble_eq_true rfl) rfl dX11_worth_66 rfl (fun y11 m12 => ?_)
      refine rf_istore C (n := 71) [(7, .int y11), (0, hA G 96), (1, .int x1), (2, .int x2), (3, .int x3), (4, .long x4), (6, .int x6)] dX11_worth_69 rfl (by decide) rfl ?_
      refine rf_iload C (n := 73) (q := 0) dX11_worth_71 rfl rfl ?_
      refine rf_if_lt C (tgt := 80) (n := 76) dX11_worth_73 (by decide) rfl (fun h13 => ?_) (fun h13 => ?_)
      · exact rf_lv _ [1, 2, 3, 4, 5, 6] rfl (r_X11_worth_80 C K fu _ ih _ _ _ _ _ _)
      · refine rf_iload_n C (n := 77) (q := 3) dX11_worth_76 rfl rfl rfl ?_
        refine rf_if_ge C (tgt := 86) (n := 80) dX11_worth_77 (by decide) rfl (fun h18 => ?_) (fun h18 => ?_)
        · refine rf_iload_n C (n := 87) (q := 3) dX11_worth_86 rfl rfl rfl ?_
          refine rf_iload C (n := 89) (q := 0) dX11_worth_87 rfl rfl ?_
          refine rf_isub C (n := 90) dX11_worth_89 rfl ?_
          refine rf_i2l C (n := 91) dX11_worth_90 rfl ?_
          exact rf_lv _ [1, 2, 3, 4, 5, 6] rfl (r_X11_worth_91 C K fu _ ih _ _ _ _ _ _ _)
        · exact rf_lv _ [1, 2, 3, 4, 5, 6] rfl (r_X11_worth_80 C K fu _ ih _ _ _ _ _ _)
noncomputable def f_X11_worth (fu : Nat) (x1 : Int32) (m : hM) : Option (Int32 × hM) :=
  hLet (sI m 96 0 0) fun m1 =>
hBd (f_X11_isHour fu x1 m1) fun y2 m3 =>
if y2 = 0 then (
some ((-1), m3)) else (
if ¬ (gI m3 96 16) = 0 then (
if ¬ (gI m3 96 50) = 0 then (
hBd (f_X11_endsWith fu 0 x1 m3) fun y7 m8 =>
hLet (sI m8 96 1 0) fun m9 =>
f_X11_worth_51 fu fu x1 y7 (-1) 0 0 m9) else (
some ((-2), m3))) else (
some ((-1), m3)))
set_option maxRecDepth 100000 in
set_option maxHeartbeats 4000000 in
theorem c_X11_worth (G : hG) (fu : Nat) (x1 : Int32) (m : hM) : Mt vI G 13 yX11_worth cX11_worth 10 (some .int) [hA G 96, .int x1] m (f_X11_worth fu x1 m) := by
  refine mt_of (by decide +kernel) (Nat.le_of_ble_eq_true rfl) (fun X C K => ?_)
  have C : Cx G X 13 cX11_worth 10 RX11 (some .int) := C
  show Rf vI G X 0 [(0, hA G 96), (1, .int x1)] [] m _
  unfold f_X11_worth
  refine rf_aload_n C (n := 1) (q := 0) dX11_worth_0 rfl rfl rfl ?_
  refine rf_iconst C (n := 2) (v := 0) dX11_worth_1 rfl (by decide) ?_
  refine rf_putI C (n := 5) pl_RX11_3 ly_96 rfl ⟨rfl, rfl⟩ dX11_worth_2 rfl ?_
  refine rf_letM (fun m1 => ?_)
  refine rf_iload_n C (n := 6) (q := 1) dX11_worth_5 rfl rfl rfl ?_
  refine rf_callSi C (n := 9) (c_X11_isHour G fu _ _) sw_RX11_81 ⟨by decide, by decide⟩ rfl (Nat.le_of_ble_eq_true rfl) rfl dX11_worth_6 rfl (fun y2 m3 => ?_)
  refine rf_if_eq C (tgt := 19) (n := 12) dX11_worth_9 (by decide) rfl (fun h4 => ?_) (fun h4 => ?_)
  · refine rf_iconst C (n := 20) (v := (-1)) dX11_worth_19 rfl (by decide) ?_
    exact rf_iret C K dX11_worth_20
  · refine rf_aload_n C (n := 13) (q := 0) dX11_worth_12 rfl rfl rfl ?_
    refine rf_getI C (n := 16) fl_RX11_151 ly_96 rfl dX11_worth_13 rfl ?_
    refine rf_if_ne C (tgt := 21) (n := 19) dX11_worth_16 (by decide) rfl (fun h5 => ?_) (fun h5 => ?_)
    · refine rf_aload_n C (n := 22) (q := 0) dX11_worth_21 rfl rfl rfl ?_
      refine rf_getI C (n := 25) fl_RX11_434 ly_96 rfl dX11_worth_22 rfl ?_
      refine rf_if_ne C (tgt := 31) (n := 28) dX11_worth_25 (by decide) rfl (fun h6 => ?_) (fun h6 => ?_)
      · refine rf_aload_n C (n := 32) (q := 0) dX11_worth_31 rfl rfl rfl ?_
        refine rf_iconst C (n := 33) (v := 0) dX11_worth_32 rfl (by decide) ?_
        refine rf_iload_n C (n := 34) (q := 1) dX11_worth_33 rfl rfl rfl ?_
        refine rf_callVi C (n := 37) (c_X11_endsWith G fu _ _ _) mw_RX11_451 ly_96 rfl ⟨by decide, by decide⟩ rfl (Nat.le_of_ble_eq_true rfl) rfl dX11_worth_34 rfl (fun y7 m8 => ?_)
        refine rf_istore_n C (n := 38) [(2, .int y7), (0, hA G 96), (1, .int x1)] dX11_worth_37 rfl rfl (by decide) rfl ?_
        refine rf_iconst C (n := 39) (v := (-1)) dX11_worth_38 rfl (by decide) ?_
        refine rf_istore_n C (n := 40) [(3, .int (-1)), (2, .int y7), (0, hA G 96), (1, .int x1)] dX11_worth_39 rfl rfl (by decide) rfl ?_
        refine rf_lconst C (n := 41) (v := 0) dX11_worth_40 rfl (by decide) ?_
        refine rf_lstore C (n := 43) [(4, .long 0), (3, .int (-1)), (2, .int y7), (0, hA G 96), (1, .int x1)] dX11_worth_41 rfl (by decide) rfl ?_
        refine rf_aload_n C (n := 44) (q := 3) dX11_worth_43 rfl rfl rfl ?_
        refine rf_iconst C (n := 45) (v := 0) dX11_worth_44 rfl (by decide) ?_
        refine rf_putI C (n := 48) pl_RX11_11 ly_96 rfl ⟨rfl, rfl⟩ dX11_worth_45 rfl ?_
        refine rf_letM (fun m9 => ?_)
        refine rf_iconst C (n := 49) (v := 0) dX11_worth_48 rfl (by decide) ?_
        refine rf_istore C (n := 51) [(6, .int 0), (4, .long 0), (3, .int (-1)), (2, .int y7), (0, hA G 96), (1, .int x1)] dX11_worth_49 rfl (by decide) rfl ?_
        exact rf_lv _ [4, 5, 3, 2, 1, 0] rfl (r_X11_worth_51 C K fu fu _ _ _ _ _ _)
      · refine rf_bipush C (n := 30) (v := (-2)) dX11_worth_28 rfl (by decide) ?_
        exact rf_iret C K dX11_worth_30
    · refine rf_iconst C (n := 20) (v := (-1)) dX11_worth_19 rfl (by decide) ?_
      exact rf_iret C K dX11_worth_20
noncomputable def f_X11_wrong_191 (fu : Nat) (x2 : Int64) (x5 : Int64) (m : hM) : Option (Int32 × hM) :=
  hLet (sI m 96 1 0) fun m10 =>
hBd (f_X11_entersFraction fu x5 x2 m10) fun _ m11 =>
some (0, m11)
set_option maxRecDepth 100000 in
set_option maxHeartbeats 4000000 in
theorem r_X11_wrong_191 {G : hG} {X : hX} (C : Cx G X 3 cX11_wrong 8 RX11 (some .int)) (K : Cr G X) (fu : Nat) (x2 : Int64) (x5 : Int64) (m : hM) : Rf vI G X 191 [(0, hA G 96), (2, .long x2), (5, .long x5)] [] m (f_X11_wrong_191 fu x2 x5 m) := by
  unfold f_X11_wrong_191
  refine rf_aload_n C (n := 192) (q := 0) dX11_wrong_191 rfl rfl rfl ?_
  refine rf_iconst C (n := 193) (v := 0) dX11_wrong_192 rfl (by decide) ?_
  refine rf_putI C (n := 196) pl_RX11_11 ly_96 rfl ⟨rfl, rfl⟩ dX11_wrong_193 rfl ?_
  refine rf_letM (fun m10 => ?_)
  refine rf_aload_n C (n := 197) (q := 0) dX11_wrong_196 rfl rfl rfl ?_
  refine rf_lload C (n := 199) (q := 2) dX11_wrong_197 rfl rfl ?_
  refine rf_lload_n C (n := 200) (q := 1) dX11_wrong_199 rfl rfl rfl ?_
  refine rf_callVv C (n := 203) (c_X11_entersFraction G fu _ _ _) mw_RX11_459 ly_96 rfl ⟨by decide, by decide⟩ rfl (Nat.le_of_ble_eq_true rfl) rfl dX11_wrong_200 rfl (fun _ m11 => ?_)
  refine rf_iconst C (n := 204) (v := 0) dX11_wrong_203 rfl (by decide) ?_
  exact rf_iret C K dX11_wrong_204
noncomputable def s_X11_wrong_166 (fu : Nat) (ih : Int64 → Int64 → Int32 → hM → Option (Int32 × hM)) (x2 : Int64) (x5 : Int64) (x7 : Int32) (m : hM) : Option (Int32 × hM) :=
  if 9 ≤ x7 then (
f_X11_wrong_191 fu x2 x5 m) else (
if hIn x7 9 then (
hLet (x5 + (gL m 132 (Int32.toNatClampNeg x7))) fun y13 =>
hLet (x7 + 1) fun y14 =>
ih x2 y13 y14 m) else none)
noncomputable def f_X11_wrong_166 (fu : Nat) (n : Nat) : Int64 → Int64 → Int32 → hM → Option (Int32 × hM) :=
  Nat.rec (motive := fun _ => Int64 → Int64 → Int32 → hM → Option (Int32 × hM)) (fun _ _ _ _ => none) (fun _ ih => s_X11_wrong_166 fu ih) n
theorem f_X11_wrong_166_s (fu : Nat) (n : Nat) (x2 : Int64) (x5 : Int64) (x7 : Int32) (m : hM) : f_X11_wrong_166 fu (n + 1) x2 x5 x7 m = s_X11_wrong_166 fu (f_X11_wrong_166 fu n) x2 x5 x7 m := rfl
set_option maxRecDepth 100000 in
set_option maxHeartbeats 4000000 in
theorem r_X11_wrong_166 {G : hG} {X : hX} (C : Cx G X 3 cX11_wrong 8 RX11 (some .int)) (K : Cr G X) (fu : Nat) (n : Nat) : ∀ (x2 : Int64) (x5 : Int64) (x7 : Int32) (m : hM), Rf vI G X 166 [(0, hA G 96), (2, .long x2), (5, .long x5), (7, .int x7)] [] m (f_X11_wrong_166 fu n x2 x5 x7 m) := by
  induction n with
  | zero => intros; exact rf_none
  | succ n ih =>
    intro x2 x5 x7 m
    show Rf vI G X 166 [(0, hA G 96), (2, .long x2), (5, .long x5), (7, .int x7)] [] m (s_X11_wrong_166 fu (f_X11_wrong_166 fu n) x2 x5 x7 m)
    unfold s_X11_wrong_166
    refine rf_iload C (n := 168) (q := 3) dX11_wrong_166 rfl rfl ?_
    refine rf_bipush C (n := 170) (v := 9) dX11_wrong_168 rfl (by decide) ?_
    refine rf_icmp_ge C (tgt := 191) (n := 173) dX11_wrong_170 (by decide) rfl (fun h9 => ?_) (fun h9 => ?_)
    · exact rf_lv _ [0, 1, 2] rfl (r_X11_wrong_191 C K fu _ _ _)
    · refine rf_lload C (n := 175) (q := 2) dX11_wrong_173 rfl rfl ?_
      refine rf_aload_n C (n := 176) (q := 0) dX11_wrong_175 rfl rfl rfl ?_
      refine rf_getS C (n := 179) fl_RX11_456 ly_96 rfl dX11_wrong_176 rfl ?_
      refine rf_iload C (n := 181) (q := 3) dX11_wrong_179 rfl rfl ?_
      refine rf_guard (fun h12 => ?_)
      refine rf_lald C (n := 182) ly_132 h12 rfl dX11_wrong_181 rfl ?_
      refine rf_ladd C (n := 183) dX11_wrong_182 rfl ?_
      refine rf_letL (fun y13 => ?_)
      refine rf_lstore C (n := 185) [(5, .long y13), (0, hA G 96), (2, .long x2), (7, .int x7)] dX11_wrong_183 rfl (by decide) rfl ?_
      refine rf_iinc2 C (n := 188) (q := 3) (fun y14 => [(7, .int y14), (5, .long y13), (0, hA G 96), (2, .long x2)]) dX11_wrong_185 rfl rfl (by decide) (by decide) (fun _ => rfl) (fun y14 => ?_)
      refine rf_goto C (n := 166) dX11_wrong_188 (by decide) ?_
      exact rf_lv _ [2, 3, 1, 0] rfl (ih _ _ _ _)
noncomputable def f_X11_wrong_160 (fu : Nat) (x1 : Int32) (x2 : Int64) (m : hM) : Option (Int32 × hM) :=
  f_X11_wrong_166 fu fu x2 0 x1 m
set_option maxRecDepth 100000 in
set_option maxHeartbeats 4000000 in
theorem r_X11_wrong_160 {G : hG} {X : hX} (C : Cx G X 3 cX11_wrong 8 RX11 (some .int)) (K : Cr G X) (fu : Nat) (x1 : Int32) (x2 : Int64) (m : hM) : Rf vI G X 160 [(0, hA G 96), (1, .int x1), (2, .long x2)] [] m (f_X11_wrong_160 fu x1 x2 m) := by
  unfold f_X11_wrong_160
  refine rf_lconst C (n := 161) (v := 0) dX11_wrong_160 rfl (by decide) ?_
  refine rf_lstore C (n := 163) [(5, .long 0), (0, hA G 96), (1, .int x1), (2, .long x2)] dX11_wrong_161 rfl (by decide) rfl ?_
  refine rf_iload_n C (n := 164) (q := 2) dX11_wrong_163 rfl rfl rfl ?_
  refine rf_istore C (n := 166) [(7, .int x1), (5, .long 0), (0, hA G 96), (1, .int x1), (2, .long x2)] dX11_wrong_164 rfl (by decide) rfl ?_
  exact rf_lv _ [2, 4, 1, 0] rfl (r_X11_wrong_166 C K fu fu _ _ _ _)
noncomputable def f_X11_wrong_148 (fu : Nat) (k70 : Int32 → Int64 → Int32 → Int32 → hM → Option (Int32 × hM)) (x1 : Int32) (x2 : Int64) (x4 : Int32) (x5 : Int32) (m : hM) : Option (Int32 × hM) :=
  hLet (x2 * 100) fun y18 =>
hLet (x5 + 1) fun y19 =>
k70 x1 y18 x4 y19 m
set_option maxRecDepth 100000 in
set_option maxHeartbeats 4000000 in
theorem r_X11_wrong_148 {G : hG} {X : hX} (C : Cx G X 3 cX11_wrong 8 RX11 (some .int)) (K : Cr G X) (fu : Nat) (k70 : Int32 → Int64 → Int32 → Int32 → hM → Option (Int32 × hM)) (hk70 : ∀ (x1 : Int32) (x2 : Int64) (x4 : Int32) (x5 : Int32) (m : hM), Rf vI G X 70 [(0, hA G 96), (1, .int x1), (2, .long x2), (4, .int x4), (5, .int x5)] [] m (k70 x1 x2 x4 x5 m)) (x1 : Int32) (x2 : Int64) (x4 : Int32) (x5 : Int32) (m : hM) : Rf vI G X 148 [(0, hA G 96), (1, .int x1), (2, .long x2), (4, .int x4), (5, .int x5)] [] m (f_X11_wrong_148 fu k70 x1 x2 x4 x5 m) := by
  unfold f_X11_wrong_148
  refine rf_lload_n C (n := 149) (q := 2) dX11_wrong_148 rfl rfl rfl ?_
  refine rf_ldc2 C (n := 152) dX11_wrong_149 rfl kl_RX11_106 ?_
  refine rf_lmul C (n := 153) dX11_wrong_152 rfl ?_
  refine rf_letL (fun y18 => ?_)
  refine rf_lstore_n C (n := 154) [(2, .long y18), (0, hA G 96), (1, .int x1), (4, .int x4), (5, .int x5)] dX11_wrong_153 rfl rfl (by decide) rfl ?_
  refine rf_iinc2 C (n := 157) (q := 4) (fun y19 => [(5, .int y19), (2, .long y18), (0, hA G 96), (1, .int x1), (4, .int x4)]) dX11_wrong_154 rfl rfl (by decide) (by decide) (fun _ => rfl) (fun y19 => ?_)
  refine rf_goto C (n := 70) dX11_wrong_157 (by decide) ?_
  exact rf_lv _ [2, 3, 1, 4, 0] rfl (hk70 _ _ _ _ _)
noncomputable def f_X11_wrong_140 (fu : Nat) (k70 : Int32 → Int64 → Int32 → Int32 → hM → Option (Int32 × hM)) (k93 : Int32 → Int64 → Int32 → Int32 → Int32 → Int32 → hM → Option (Int32 × hM)) (x1 : Int32) (x2 : Int64) (x4 : Int32) (x5 : Int32) (x6 : Int32) (x7 : Int32) (s1 : Int32) (s2 : Int64) (s3 : Int64) (m : hM) : Option (Int32 × hM) :=
  if hIn s1 9 then (
hLet (sL m 132 (Int32.toNatClampNeg s1) (s2 + s3)) fun m23 =>
hLet (x7 + (-1)) fun y24 =>
k93 x1 x2 x4 x5 x6 y24 m23) else none
set_option maxRecDepth 100000 in
set_option maxHeartbeats 4000000 in
theorem r_X11_wrong_140 {G : hG} {X : hX} (C : Cx G X 3 cX11_wrong 8 RX11 (some .int)) (K : Cr G X) (fu : Nat) (k70 : Int32 → Int64 → Int32 → Int32 → hM → Option (Int32 × hM)) (hk70 : ∀ (x1 : Int32) (x2 : Int64) (x4 : Int32) (x5 : Int32) (m : hM), Rf vI G X 70 [(0, hA G 96), (1, .int x1), (2, .long x2), (4, .int x4), (5, .int x5)] [] m (k70 x1 x2 x4 x5 m)) (k93 : Int32 → Int64 → Int32 → Int32 → Int32 → Int32 → hM → Option (Int32 × hM)) (hk93 : ∀ (x1 : Int32) (x2 : Int64) (x4 : Int32) (x5 : Int32) (x6 : Int32) (x7 : Int32) (m : hM), Rf vI G X 93 [(0, hA G 96), (1, .int x1), (2, .long x2), (4, .int x4), (5, .int x5), (6, .int x6), (7, .int x7)] [] m (k93 x1 x2 x4 x5 x6 x7 m)) (x1 : Int32) (x2 : Int64) (x4 : Int32) (x5 : Int32) (x6 : Int32) (x7 : Int32) (s1 : Int32) (s2 : Int64) (s3 : Int64) (m : hM) : Rf vI G X 140 [(0, hA G 96), (1, .int x1), (2, .long x2), (4, .int x4), (5, .int x5), (6, .int x6), (7, .int x7)] [.long s3, .long s2, .int s1, hA G 132] m (f_X11_wrong_140 fu k70 k93 x1 x2 x4 x5 x6 x7 s1 s2 s3 m) := by
  unfold f_X11_wrong_140
  refine rf_ladd C (n := 141) dX11_wrong_140 rfl ?_
  refine rf_guard (fun h22 => ?_)
  refine rf_last C (n := 142) ly_132 h22 rfl dX11_wrong_141 rfl ?_
  refine rf_letM (fun m23 => ?_)
  refine rf_iinc2 C (n := 145) (q := 6) (fun y24 => [(7, .int y24), (0, hA G 96), (1, .int x1), (2, .long x2), (4, .int x4), (5, .int x5), (6, .int x6)]) dX11_wrong_142 rfl rfl (by decide) (by decide) (fun _ => rfl) (fun y24 => ?_)
  refine rf_goto C (n := 93) dX11_wrong_145 (by decide) ?_
  exact rf_lv _ [1, 2, 3, 4, 5, 6, 0] rfl (hk93 _ _ _ _ _ _ _)
noncomputable def s_X11_wrong_93 (fu : Nat) (k70 : Int32 → Int64 → Int32 → Int32 → hM → Option (Int32 × hM)) (ih : Int32 → Int64 → Int32 → Int32 → Int32 → Int32 → hM → Option (Int32 × hM)) (x1 : Int32) (x2 : Int64) (x4 : Int32) (x5 : Int32) (x6 : Int32) (x7 : Int32) (m : hM) : Option (Int32 × hM) :=
  if x7 < 0 then (
f_X11_wrong_148 fu k70 x1 x2 x4 x5 m) else (
if hIn x7 9 then (
if x7 ≤ 0 then (
f_X11_wrong_140 fu k70 ih x1 x2 x4 x5 x6 x7 x7 ((gL m 132 (Int32.toNatClampNeg x7)) * (Int32.toInt64 (100 - x6))) 0 m) else (
if hIn (x7 - 1) 9 then (
f_X11_wrong_140 fu k70 ih x1 x2 x4 x5 x6 x7 x7 ((gL m 132 (Int32.toNatClampNeg x7)) * (Int32.toInt64 (100 - x6))) ((gL m 132 (Int32.toNatClampNeg (x7 - 1))) * (Int32.toInt64 x6)) m) else none)) else none)
noncomputable def f_X11_wrong_93 (fu : Nat) (k70 : Int32 → Int64 → Int32 → Int32 → hM → Option (Int32 × hM)) (n : Nat) : Int32 → Int64 → Int32 → Int32 → Int32 → Int32 → hM → Option (Int32 × hM) :=
  Nat.rec (motive := fun _ => Int32 → Int64 → Int32 → Int32 → Int32 → Int32 → hM → Option (Int32 × hM)) (fun _ _ _ _ _ _ _ => none) (fun _ ih => s_X11_wrong_93 fu k70 ih) n
theorem f_X11_wrong_93_s (fu : Nat) (k70 : Int32 → Int64 → Int32 → Int32 → hM → Option (Int32 × hM)) (n : Nat) (x1 : Int32) (x2 : Int64) (x4 : Int32) (x5 : Int32) (x6 : Int32) (x7 : Int32) (m : hM) : f_X11_wrong_93 fu k70 (n + 1) x1 x2 x4 x5 x6 x7 m = s_X11_wrong_93 fu k70 (f_X11_wrong_93 fu k70 n) x1 x2 x4 x5 x6 x7 m := rfl
set_option maxRecDepth 100000 in
set_option maxHeartbeats 4000000 in
theorem r_X11_wrong_93 {G : hG} {X : hX} (C : Cx G X 3 cX11_wrong 8 RX11 (some .int)) (K : Cr G X) (fu : Nat) (k70 : Int32 → Int64 → Int32 → Int32 → hM → Option (Int32 × hM)) (hk70 : ∀ (x1 : Int32) (x2 : Int64) (x4 : Int32) (x5 : Int32) (m : hM), Rf vI G X 70 [(0, hA G 96), (1, .int x1), (2, .long x2), (4, .int x4), (5, .int x5)] [] m (k70 x1 x2 x4 x5 m)) (n : Nat) : ∀ (x1 : Int32) (x2 : Int64) (x4 : Int32) (x5 : Int32) (x6 : Int32) (x7 : Int32) (m : hM), Rf vI G X 93 [(0, hA G 96), (1, .int x1), (2, .long x2), (4, .int x4), (5, .int x5), (6, .int x6), (7, .int x7)] [] m (f_X11_wrong_93 fu k70 n x1 x2 x4 x5 x6 x7 m) := by
  induction n with
  | zero => intros; exact rf_none
  | succ n ih =>
    intro x1 x2 x4 x5 x6 x7 m
    show Rf vI G X 93 [(0, hA G 96), (1, .int x1), (2, .long x2), (4, .int x4), (5, .int x5), (6, .int x6), (7, .int x7)] [] m (s_X11_wrong_93 fu k70 (f_X11_wrong_93 fu k70 n) x1 x2 x4 x5 x6 x7 m)
    unfold s_X11_wrong_93
    refine rf_iload C (n := 95) (q := 6) dX11_wrong_93 rfl rfl ?_
    refine rf_if_lt C (tgt := 148) (n := 98) dX11_wrong_95 (by decide) rfl (fun h17 => ?_) (fun h17 => ?_)
    · exact rf_lv _ [0, 1, 2, 3, 4] rfl (r_X11_wrong_148 C K fu _ hk70 _ _ _ _ _)
    · refine rf_aload_n C (n := 99) (q := 0) dX11_wrong_98 rfl rfl rfl ?_
      refine rf_getS C (n := 102) fl_RX11_456 ly_96 rfl dX11_wrong_99 rfl ?_
      refine rf_iload C (n := 104) (q := 6) dX11_wrong_102 rfl rfl ?_
      refine rf_aload_n C (n := 105) (q := 0) dX11_wrong_104 rfl rfl rfl ?_
      refine rf_getS C (n := 108) fl_RX11_456 ly_96 rfl dX11_wrong_105 rfl ?_
      refine rf_iload C (n := 110) (q := 6) dX11_wrong_108 rfl rfl ?_
      refine rf_guard (fun h20 => ?_)
      refine rf_lald C (n := 111) ly_132 h20 rfl dX11_wrong_110 rfl ?_
      refine rf_bipush C (n := 113) (v := 100) dX11_wrong_111 rfl (by decide) ?_
      refine rf_iload C (n := 115) (q := 5) dX11_wrong_113 rfl rfl ?_
      refine rf_isub C (n := 116) dX11_wrong_115 rfl ?_
      refine rf_i2l C (n := 117) dX11_wrong_116 rfl ?_
      refine rf_lmul C (n := 118) dX11_wrong_117 rfl ?_
      refine rf_iload C (n := 120) (q := 6) dX11_wrong_118 rfl rfl ?_
      refine rf_if_le C (tgt := 139) (n := 123) dX11_wrong_120 (by decide) rfl (fun h21 => ?_) (fun h21 => ?_)
      · refine rf_lconst C (n := 140) (v := 0) dX11_wrong_139 rfl (by decide) ?_
        exact rf_lv _ [0, 1, 2, 3, 4, 5, 6] rfl (r_X11_wrong_140 C K fu _ hk70 _ ih _ _ _ _ _ _ _ _ _ _)
      · refine rf_aload_n C (n := 124) (q := 0) dX11_wrong_123 rfl rfl rfl ?_
        refine rf_getS C (n := 127) fl_RX11_456 ly_96 rfl dX11_wrong_124 rfl ?_
        refine rf_iload C (n := 129) (q := 6) dX11_wrong_127 rfl rfl ?_
        refine rf_iconst C (n := 130) (v := 1) dX11_wrong_129 rfl (by decide) ?_
        refine rf_isub C (n := 131) dX11_wrong_130 rfl ?_
        refine rf_guard (fun h25 => ?_)
        refine rf_lald C (n := 132) ly_132 h25 rfl dX11_wrong_131 rfl ?_
        refine rf_iload C (n := 134) (q := 5) dX11_wrong_132 rfl rfl ?_
        refine rf_i2l C (n := 135) dX11_wrong_134 rfl ?_
        refine rf_lmul C (n := 136) dX11_wrong_135 rfl ?_
        refine rf_goto C (n := 140) dX11_wrong_136 (by decide) ?_
        exact rf_lv _ [0, 1, 2, 3, 4, 5, 6] rfl (r_X11_wrong_140 C K fu _ hk70 _ ih _ _ _ _ _ _ _ _ _ _)
noncomputable def s_X11_wrong_70 (fu : Nat) (ih : Int32 → Int64 → Int32 → Int32 → hM → Option (Int32 × hM)) (x1 : Int32) (x2 : Int64) (x4 : Int32) (x5 : Int32) (m : hM) : Option (Int32 × hM) :=
  if x4 ≤ x5 then (
f_X11_wrong_160 fu x1 x2 m) else (
if hIn (67 + x5) 127 then (
hLet (gI m 114 (Int32.toNatClampNeg (67 + x5))) fun y16 =>
f_X11_wrong_93 fu ih fu x1 x2 x4 x5 y16 8 m) else none)
noncomputable def f_X11_wrong_70 (fu : Nat) (n : Nat) : Int32 → Int64 → Int32 → Int32 → hM → Option (Int32 × hM) :=
  Nat.rec (motive := fun _ => Int32 → Int64 → Int32 → Int32 → hM → Option (Int32 × hM)) (fun _ _ _ _ _ => none) (fun _ ih => s_X11_wrong_70 fu ih) n
theorem f_X11_wrong_70_s (fu : Nat) (n : Nat) (x1 : Int32) (x2 : Int64) (x4 : Int32) (x5 : Int32) (m : hM) : f_X11_wrong_70 fu (n + 1) x1 x2 x4 x5 m = s_X11_wrong_70 fu (f_X11_wrong_70 fu n) x1 x2 x4 x5 m := rfl
set_option maxRecDepth 100000 in
set_option maxHeartbeats 4000000 in
theorem r_X11_wrong_70 {G : hG} {X : hX} (C : Cx G X 3 cX11_wrong 8 RX11 (some .int)) (K : Cr G X) (fu : Nat) (n : Nat) : ∀ (x1 : Int32) (x2 : Int64) (x4 : Int32) (x5 : Int32) (m : hM), Rf vI G X 70 [(0, hA G 96), (1, .int x1), (2, .long x2), (4, .int x4), (5, .int x5)] [] m (f_X11_wrong_70 fu n x1 x2 x4 x5 m) := by
  induction n with
  | zero => intros; exact rf_none
  | succ n ih =>
    intro x1 x2 x4 x5 m
    show Rf vI G X 70 [(0, hA G 96), (1, .int x1), (2, .long x2), (4, .int x4), (5, .int x5)] [] m (s_X11_wrong_70 fu (f_X11_wrong_70 fu n) x1 x2 x4 x5 m)
    unfold s_X11_wrong_70
    refine rf_iload C (n := 72) (q := 4) dX11_wrong_70 rfl rfl ?_
    refine rf_iload C (n := 74) (q := 3) dX11_wrong_72 rfl rfl ?_
    refine rf_icmp_ge C (tgt := 160) (n := 77) dX11_wrong_74 (by decide) rfl (fun h8 => ?_) (fun h8 => ?_)
    · exact rf_lv _ [0, 1, 2] rfl (r_X11_wrong_160 C K fu _ _ _)
    · refine rf_aload_n C (n := 78) (q := 0) dX11_wrong_77 rfl rfl rfl ?_
      refine rf_getS C (n := 81) fl_RX11_140 ly_96 rfl dX11_wrong_78 rfl ?_
      refine rf_bipush C (n := 83) (v := 67) dX11_wrong_81 rfl (by decide) ?_
      refine rf_iload C (n := 85) (q := 4) dX11_wrong_83 rfl rfl ?_
      refine rf_iadd C (n := 86) dX11_wrong_85 rfl ?_
      refine rf_guard (fun h15 => ?_)
      refine rf_iald C (n := 87) ly_114 h15 rfl dX11_wrong_86 rfl ?_
      refine rf_letI (fun y16 => ?_)
      refine rf_istore C (n := 89) [(6, .int y16), (0, hA G 96), (1, .int x1), (2, .long x2), (4, .int x4), (5, .int x5)] dX11_wrong_87 rfl (by decide) rfl ?_
      refine rf_bipush C (n := 91) (v := 8) dX11_wrong_89 rfl (by decide) ?_
      refine rf_istore C (n := 93) [(7, .int 8), (6, .int y16), (0, hA G 96), (1, .int x1), (2, .long x2), (4, .int x4), (5, .int x5)] dX11_wrong_91 rfl (by decide) rfl ?_
      exact rf_lv _ [2, 3, 4, 5, 6, 1, 0] rfl (r_X11_wrong_93 C K fu _ ih fu _ _ _ _ _ _ _)
noncomputable def f_X11_wrong_52 (fu : Nat) (x1 : Int32) (m : hM) : Option (Int32 × hM) :=
  hBd (f_J9_min_7cf53 fu 8 (gI m 114 2) m) fun y6 m7 =>
f_X11_wrong_70 fu fu x1 1 y6 0 m7
set_option maxRecDepth 100000 in
set_option maxHeartbeats 4000000 in
theorem r_X11_wrong_52 {G : hG} {X : hX} (C : Cx G X 3 cX11_wrong 8 RX11 (some .int)) (K : Cr G X) (fu : Nat) (x1 : Int32) (m : hM) : Rf vI G X 52 [(0, hA G 96), (1, .int x1)] [] m (f_X11_wrong_52 fu x1 m) := by
  unfold f_X11_wrong_52
  refine rf_lconst C (n := 53) (v := 1) dX11_wrong_52 rfl (by decide) ?_
  refine rf_lstore_n C (n := 54) [(2, .long 1), (0, hA G 96), (1, .int x1)] dX11_wrong_53 rfl rfl (by decide) rfl ?_
  refine rf_bipush C (n := 56) (v := 8) dX11_wrong_54 rfl (by decide) ?_
  refine rf_aload_n C (n := 57) (q := 1) dX11_wrong_56 rfl rfl rfl ?_
  refine rf_getS C (n := 60) fl_RX11_140 ly_96 rfl dX11_wrong_57 rfl ?_
  refine rf_iconst C (n := 61) (v := 2) dX11_wrong_60 rfl (by decide) ?_
  refine rf_iald C (n := 62) (j := 2) ly_114 (by decide) (by decide) dX11_wrong_61 rfl ?_
  refine rf_callSi C (n := 65) (c_J9_min_7cf53 G fu _ _ _) sw_RX11_95 ⟨by decide, by decide⟩ rfl (Nat.le_of_ble_eq_true rfl) rfl dX11_wrong_62 rfl (fun y6 m7 => ?_)
  refine rf_istore C (n := 67) [(4, .int y6), (2, .long 1), (0, hA G 96), (1, .int x1)] dX11_wrong_65 rfl (by decide) rfl ?_
  refine rf_iconst C (n := 68) (v := 0) dX11_wrong_67 rfl (by decide) ?_
  refine rf_istore C (n := 70) [(5, .int 0), (4, .int y6), (2, .long 1), (0, hA G 96), (1, .int x1)] dX11_wrong_68 rfl (by decide) rfl ?_
  exact rf_lv _ [3, 4, 2, 1, 0] rfl (r_X11_wrong_70 C K fu fu _ _ _ _ _)
noncomputable def f_X11_wrong_41 (fu : Nat) (k21 : Int32 → Int32 → hM → Option (Int32 × hM)) (x1 : Int32) (x2 : Int32) (s1 : Int32) (s2 : Int32) (m : hM) : Option (Int32 × hM) :=
  hBd (f_X11_flag fu s2 m) fun y27 m28 =>
if hIn s1 9 then (
hLet (sL m28 132 (Int32.toNatClampNeg s1) (Int32.toInt64 y27)) fun m30 =>
hLet (x2 + 1) fun y31 =>
k21 x1 y31 m30) else none
set_option maxRecDepth 100000 in
set_option maxHeartbeats 4000000 in
theorem r_X11_wrong_41 {G : hG} {X : hX} (C : Cx G X 3 cX11_wrong 8 RX11 (some .int)) (K : Cr G X) (fu : Nat) (k21 : Int32 → Int32 → hM → Option (Int32 × hM)) (hk21 : ∀ (x1 : Int32) (x2 : Int32) (m : hM), Rf vI G X 21 [(0, hA G 96), (1, .int x1), (2, .int x2)] [] m (k21 x1 x2 m)) (x1 : Int32) (x2 : Int32) (s1 : Int32) (s2 : Int32) (m : hM) : Rf vI G X 41 [(0, hA G 96), (1, .int x1), (2, .int x2)] [.int s2, .int s1, hA G 132] m (f_X11_wrong_41 fu k21 x1 x2 s1 s2 m) := by
  unfold f_X11_wrong_41
  refine rf_callSi C (n := 44) (c_X11_flag G fu _ _) sw_RX11_124 ⟨by decide, by decide⟩ rfl (Nat.le_of_ble_eq_true rfl) rfl dX11_wrong_41 rfl (fun y27 m28 => ?_)
  refine rf_i2l C (n := 45) dX11_wrong_44 rfl ?_
  refine rf_guard (fun h29 => ?_)
  refine rf_last C (n := 46) ly_132 h29 rfl dX11_wrong_45 rfl ?_
  refine rf_letM (fun m30 => ?_)
  refine rf_iinc2 C (n := 49) (q := 2) (fun y31 => [(2, .int y31), (0, hA G 96), (1, .int x1)]) dX11_wrong_46 rfl rfl (by decide) (by decide) (fun _ => rfl) (fun y31 => ?_)
  refine rf_goto C (n := 21) dX11_wrong_49 (by decide) ?_
  exact rf_lv _ [1, 2, 0] rfl (hk21 _ _ _)
noncomputable def s_X11_wrong_21 (fu : Nat) (ih : Int32 → Int32 → hM → Option (Int32 × hM)) (x1 : Int32) (x2 : Int32) (m : hM) : Option (Int32 × hM) :=
  if 9 ≤ x2 then (
f_X11_wrong_52 fu x1 m) else (
if ¬ x2 = 0 then (
f_X11_wrong_41 fu ih x1 x2 x2 0 m) else (
f_X11_wrong_41 fu ih x1 x2 x2 1 m))
noncomputable def f_X11_wrong_21 (fu : Nat) (n : Nat) : Int32 → Int32 → hM → Option (Int32 × hM) :=
  Nat.rec (motive := fun _ => Int32 → Int32 → hM → Option (Int32 × hM)) (fun _ _ _ => none) (fun _ ih => s_X11_wrong_21 fu ih) n
theorem f_X11_wrong_21_s (fu : Nat) (n : Nat) (x1 : Int32) (x2 : Int32) (m : hM) : f_X11_wrong_21 fu (n + 1) x1 x2 m = s_X11_wrong_21 fu (f_X11_wrong_21 fu n) x1 x2 m := rfl
set_option maxRecDepth 100000 in
set_option maxHeartbeats 4000000 in
theorem r_X11_wrong_21 {G : hG} {X : hX} (C : Cx G X 3 cX11_wrong 8 RX11 (some .int)) (K : Cr G X) (fu : Nat) (n : Nat) : ∀ (x1 : Int32) (x2 : Int32) (m : hM), Rf vI G X 21 [(0, hA G 96), (1, .int x1), (2, .int x2)] [] m (f_X11_wrong_21 fu n x1 x2 m) := by
  induction n with
  | zero => intros; exact rf_none
  | succ n ih =>
    intro x1 x2 m
    show Rf vI G X 21 [(0, hA G 96), (1, .int x1), (2, .int x2)] [] m (s_X11_wrong_21 fu (f_X11_wrong_21 fu n) x1 x2 m)
    unfold s_X11_wrong_21
    refine rf_iload_n C (n := 22) (q := 2) dX11_wrong_21 rfl rfl rfl ?_
    refine rf_bipush C (n := 24) (v := 9) dX11_wrong_22 rfl (by decide) ?_
    refine rf_icmp_ge C (tgt := 52) (n := 27) dX11_wrong_24 (by decide) rfl (fun h5 => ?_) (fun h5 => ?_)
    · exact rf_lv _ [0, 1] rfl (r_X11_wrong_52 C K fu _ _)
    · refine rf_aload_n C (n := 28) (q := 0) dX11_wrong_27 rfl rfl rfl ?_
      refine rf_getS C (n := 31) fl_RX11_456 ly_96 rfl dX11_wrong_28 rfl ?_
      refine rf_iload_n C (n := 32) (q := 2) dX11_wrong_31 rfl rfl rfl ?_
      refine rf_iload_n C (n := 33) (q := 2) dX11_wrong_32 rfl rfl rfl ?_
      refine rf_if_ne C (tgt := 40) (n := 36) dX11_wrong_33 (by decide) rfl (fun h26 => ?_) (fun h26 => ?_)
      · refine rf_iconst C (n := 41) (v := 0) dX11_wrong_40 rfl (by decide) ?_
        exact rf_lv _ [0, 1, 2] rfl (r_X11_wrong_41 C K fu _ ih _ _ _ _ _)
      · refine rf_iconst C (n := 37) (v := 1) dX11_wrong_36 rfl (by decide) ?_
        refine rf_goto C (n := 41) dX11_wrong_37 (by decide) ?_
        exact rf_lv _ [0, 1, 2] rfl (r_X11_wrong_41 C K fu _ ih _ _ _ _ _)
noncomputable def f_X11_wrong (fu : Nat) (x1 : Int32) (m : hM) : Option (Int32 × hM) :=
  hLet (sI m 96 0 0) fun m1 =>
hBd (f_X11_in fu (Int32.toInt64 x1) 0 8 m1) fun y2 m3 =>
if ¬ y2 = 0 then (
f_X11_wrong_21 fu fu x1 0 m3) else (
some ((-1), m3))
set_option maxRecDepth 100000 in
set_option maxHeartbeats 4000000 in
theorem c_X11_wrong (G : hG) (fu : Nat) (x1 : Int32) (m : hM) : Mt vI G 3 yX11_wrong cX11_wrong 8 (some .int) [hA G 96, .int x1] m (f_X11_wrong fu x1 m) := by
  refine mt_of (by decide +kernel) (Nat.le_of_ble_eq_true rfl) (fun X C K => ?_)
  have C : Cx G X 3 cX11_wrong 8 RX11 (some .int) := C
  show Rf vI G X 0 [(0, hA G 96), (1, .int x1)] [] m _
  unfold f_X11_wrong
  refine rf_aload_n C (n := 1) (q := 0) dX11_wrong_0 rfl rfl rfl ?_
  refine rf_iconst C (n := 2) (v := 0) dX11_wrong_1 rfl (by decide) ?_
  refine rf_putI C (n := 5) pl_RX11_3 ly_96 rfl ⟨rfl, rfl⟩ dX11_wrong_2 rfl ?_
  refine rf_letM (fun m1 => ?_)
  refine rf_iload_n C (n := 6) (q := 1) dX11_wrong_5 rfl rfl rfl ?_
  refine rf_i2l C (n := 7) dX11_wrong_6 rfl ?_
  refine rf_lconst C (n := 8) (v := 0) dX11_wrong_7 rfl (by decide) ?_
  refine rf_ldc2 C (n := 11) dX11_wrong_8 rfl kl_RX11_311 ?_
  refine rf_callSi C (n := 14) (c_X11_in G fu _ _ _ _) sw_RX11_25 ⟨by decide, by decide⟩ rfl (Nat.le_of_ble_eq_true rfl) rfl dX11_wrong_11 rfl (fun y2 m3 => ?_)
  refine rf_if_ne C (tgt := 19) (n := 17) dX11_wrong_14 (by decide) rfl (fun h4 => ?_) (fun h4 => ?_)
  · refine rf_iconst C (n := 20) (v := 0) dX11_wrong_19 rfl (by decide) ?_
    refine rf_istore_n C (n := 21) [(2, .int 0), (0, hA G 96), (1, .int x1)] dX11_wrong_20 rfl rfl (by decide) rfl ?_
    exact rf_lv _ [1, 2, 0] rfl (r_X11_wrong_21 C K fu fu _ _ _)
  · refine rf_iconst C (n := 18) (v := (-1)) dX11_wrong_17 rfl (by decide) ?_
    exact rf_iret C K dX11_wrong_18
noncomputable def f_X11_mean_55 (fu : Nat) (x1 : Int32) (x2 : Int64) (m : hM) : Option (Int32 × hM) :=
  hLet (sI m 96 1 0) fun m6 =>
hBd (f_X11_entersFraction fu (x2 * (Int32.toInt64 x1)) 100 m6) fun _ m7 =>
some (gI m7 114 2, m7)
set_option maxRecDepth 100000 in
set_option maxHeartbeats 4000000 in
theorem r_X11_mean_55 {G : hG} {X : hX} (C : Cx G X 3 cX11_mean 5 RX11 (some .int)) (K : Cr G X) (fu : Nat) (x1 : Int32) (x2 : Int64) (m : hM) : Rf vI G X 55 [(0, hA G 96), (1, .int x1), (2, .long x2)] [] m (f_X11_mean_55 fu x1 x2 m) := by
  unfold f_X11_mean_55
  refine rf_aload_n C (n := 56) (q := 0) dX11_mean_55 rfl rfl rfl ?_
  refine rf_iconst C (n := 57) (v := 0) dX11_mean_56 rfl (by decide) ?_
  refine rf_putI C (n := 60) pl_RX11_11 ly_96 rfl ⟨rfl, rfl⟩ dX11_mean_57 rfl ?_
  refine rf_letM (fun m6 => ?_)
  refine rf_aload_n C (n := 61) (q := 0) dX11_mean_60 rfl rfl rfl ?_
  refine rf_lload_n C (n := 62) (q := 2) dX11_mean_61 rfl rfl rfl ?_
  refine rf_iload_n C (n := 63) (q := 1) dX11_mean_62 rfl rfl rfl ?_
  refine rf_i2l C (n := 64) dX11_mean_63 rfl ?_
  refine rf_lmul C (n := 65) dX11_mean_64 rfl ?_
  refine rf_ldc2 C (n := 68) dX11_mean_65 rfl kl_RX11_106 ?_
  refine rf_callVv C (n := 71) (c_X11_entersFraction G fu _ _ _) mw_RX11_459 ly_96 rfl ⟨by decide, by decide⟩ rfl (Nat.le_of_ble_eq_true rfl) rfl dX11_mean_68 rfl (fun _ m7 => ?_)
  refine rf_aload_n C (n := 72) (q := 0) dX11_mean_71 rfl rfl rfl ?_
  refine rf_getS C (n := 75) fl_RX11_140 ly_96 rfl dX11_mean_72 rfl ?_
  refine rf_iconst C (n := 76) (v := 2) dX11_mean_75 rfl (by decide) ?_
  refine rf_iald C (n := 77) (j := 2) ly_114 (by decide) (by decide) dX11_mean_76 rfl ?_
  exact rf_iret C K dX11_mean_77
noncomputable def s_X11_mean_24 (fu : Nat) (ih : Int32 → Int64 → Int32 → hM → Option (Int32 × hM)) (x1 : Int32) (x2 : Int64) (x4 : Int32) (m : hM) : Option (Int32 × hM) :=
  if (gI m 114 2) ≤ x4 then (
f_X11_mean_55 fu x1 x2 m) else (
if hIn (67 + x4) 127 then (
hLet (x2 + (Int32.toInt64 (gI m 114 (Int32.toNatClampNeg (67 + x4))))) fun y9 =>
hLet (x4 + 1) fun y10 =>
ih x1 y9 y10 m) else none)
noncomputable def f_X11_mean_24 (fu : Nat) (n : Nat) : Int32 → Int64 → Int32 → hM → Option (Int32 × hM) :=
  Nat.rec (motive := fun _ => Int32 → Int64 → Int32 → hM → Option (Int32 × hM)) (fun _ _ _ _ => none) (fun _ ih => s_X11_mean_24 fu ih) n
theorem f_X11_mean_24_s (fu : Nat) (n : Nat) (x1 : Int32) (x2 : Int64) (x4 : Int32) (m : hM) : f_X11_mean_24 fu (n + 1) x1 x2 x4 m = s_X11_mean_24 fu (f_X11_mean_24 fu n) x1 x2 x4 m := rfl
set_option maxRecDepth 100000 in
set_option maxHeartbeats 4000000 in
theorem r_X11_mean_24 {G : hG} {X : hX} (C : Cx G X 3 cX11_mean 5 RX11 (some .int)) (K : Cr G X) (fu : Nat) (n : Nat) : ∀ (x1 : Int32) (x2 : Int64) (x4 : Int32) (m : hM), Rf vI G X 24 [(0, hA G 96), (1, .int x1), (2, .long x2), (4, .int x4)] [] m (f_X11_mean_24 fu n x1 x2 x4 m) := by
  induction n with
  | zero => intros; exact rf_none
  | succ n ih =>
    intro x1 x2 x4 m
    show Rf vI G X 24 [(0, hA G 96), (1, .int x1), (2, .long x2), (4, .int x4)] [] m (s_X11_mean_24 fu (f_X11_mean_24 fu n) x1 x2 x4 m)
    unfold s_X11_mean_24
    refine rf_iload C (n := 26) (q := 3) dX11_mean_24 rfl rfl ?_
    refine rf_aload_n C (n := 27) (q := 0) dX11_mean_26 rfl rfl rfl ?_
    refine rf_getS C (n := 30) fl_RX11_140 ly_96 rfl dX11_mean_27 rfl ?_
    refine rf_iconst C (n := 31) (v := 2) dX11_mean_30 rfl (by decide) ?_
    refine rf_iald C (n := 32) (j := 2) ly_114 (by decide) (by decide) dX11_mean_31 rfl ?_
    refine rf_icmp_ge C (tgt := 55) (n := 35) dX11_mean_32 (by decide) rfl (fun h5 => ?_) (fun h5 => ?_)
    · exact rf_lv _ [0, 1, 2] rfl (r_X11_mean_55 C K fu _ _ _)
    · refine rf_lload_n C (n := 36) (q := 2) dX11_mean_35 rfl rfl rfl ?_
      refine rf_aload_n C (n := 37) (q := 0) dX11_mean_36 rfl rfl rfl ?_
      refine rf_getS C (n := 40) fl_RX11_140 ly_96 rfl dX11_mean_37 rfl ?_
      refine rf_bipush C (n := 42) (v := 67) dX11_mean_40 rfl (by decide) ?_
      refine rf_iload C (n := 44) (q := 3) dX11_mean_42 rfl rfl ?_
      refine rf_iadd C (n := 45) dX11_mean_44 rfl ?_
      refine rf_guard (fun h8 => ?_)
      refine rf_iald C (n := 46) ly_114 h8 rfl dX11_mean_45 rfl ?_
      refine rf_i2l C (n := 47) dX11_mean_46 rfl ?_
      refine rf_ladd C (n := 48) dX11_mean_47 rfl ?_
      refine rf_letL (fun y9 => ?_)
      refine rf_lstore_n C (n := 49) [(2, .long y9), (0, hA G 96), (1, .int x1), (4, .int x4)] dX11_mean_48 rfl rfl (by decide) rfl ?_
      refine rf_iinc2 C (n := 52) (q := 3) (fun y10 => [(4, .int y10), (2, .long y9), (0, hA G 96), (1, .int x1)]) dX11_mean_49 rfl rfl (by decide) (by decide) (fun _ => rfl) (fun y10 => ?_)
      refine rf_goto C (n := 24) dX11_mean_52 (by decide) ?_
      exact rf_lv _ [2, 3, 1, 0] rfl (ih _ _ _ _)
noncomputable def f_X11_mean (fu : Nat) (x1 : Int32) (m : hM) : Option (Int32 × hM) :=
  hLet (sI m 96 0 0) fun m1 =>
hBd (f_X11_in fu (Int32.toInt64 x1) 1 99 m1) fun y2 m3 =>
if ¬ y2 = 0 then (
f_X11_mean_24 fu fu x1 0 0 m3) else (
some ((-1), m3))
set_option maxRecDepth 100000 in
set_option maxHeartbeats 4000000 in
theorem c_X11_mean (G : hG) (fu : Nat) (x1 : Int32) (m : hM) : Mt vI G 3 yX11_mean cX11_mean 5 (some .int) [hA G 96, .int x1] m (f_X11_mean fu x1 m) := by
  refine mt_of (by decide +kernel) (Nat.le_of_ble_eq_true rfl) (fun X C K => ?_)
  have C : Cx G X 3 cX11_mean 5 RX11 (some .int) := C
  show Rf vI G X 0 [(0, hA G 96), (1, .int x1)] [] m _
  unfold f_X11_mean
  refine rf_aload_n C (n := 1) (q := 0) dX11_mean_0 rfl rfl rfl ?_
  refine rf_iconst C (n := 2) (v := 0) dX11_mean_1 rfl (by decide) ?_
  refine rf_putI C (n := 5) pl_RX11_3 ly_96 rfl ⟨rfl, rfl⟩ dX11_mean_2 rfl ?_
  refine rf_letM (fun m1 => ?_)
  refine rf_iload_n C (n := 6) (q := 1) dX11_mean_5 rfl rfl rfl ?_
  refine rf_i2l C (n := 7) dX11_mean_6 rfl ?_
  refine rf_lconst C (n := 8) (v := 1) dX11_mean_7 rfl (by decide) ?_
  refine rf_ldc2 C (n := 11) dX11_mean_8 rfl kl_RX11_67 ?_
  refine rf_callSi C (n := 14) (c_X11_in G fu _ _ _ _) sw_RX11_25 ⟨by decide, by decide⟩ rfl (Nat.le_of_ble_eq_true rfl) rfl dX11_mean_11 rfl (fun y2 m3 => ?_)
  refine rf_if_ne C (tgt := 19) (n := 17) dX11_mean_14 (by decide) rfl (fun h4 => ?_) (fun h4 => ?_)
  · refine rf_lconst C (n := 20) (v := 0) dX11_mean_19 rfl (by decide) ?_
    refine rf_lstore_n C (n := 21) [(2, .long 0), (0, hA G 96), (1, .int x1)] dX11_mean_20 rfl rfl (by decide) rfl ?_
    refine rf_iconst C (n := 22) (v := 0) dX11_mean_21 rfl (by decide) ?_
    refine rf_istore C (n := 24) [(4, .int 0), (2, .long 0), (0, hA G 96), (1, .int x1)] dX11_mean_22 rfl (by decide) rfl ?_
    exact rf_lv _ [2, 3, 1, 0] rfl (r_X11_mean_24 C K fu fu _ _ _ _)
  · refine rf_iconst C (n := 18) (v := (-1)) dX11_mean_17 rfl (by decide) ?_
    exact rf_iret C K dX11_mean_18
noncomputable def f_X11_riskiest_64 (fu : Nat) (x1 : Int32) (m : hM) : Option (Int32 × hM) :=
  hLet (sI m 96 1 0) fun m4 =>
if hIn (67 + x1) 127 then (
hBd (f_X11_enters fu (Int32.toInt64 (gI m4 114 (Int32.toNatClampNeg (67 + x1)))) m4) fun _ m6 =>
some (x1, m6)) else none
set_option maxRecDepth 100000 in
set_option maxHeartbeats 4000000 in
theorem r_X11_riskiest_64 {G : hG} {X : hX} (C : Cx G X 2 cX11_riskiest 3 RX11 (some .int)) (K : Cr G X) (fu : Nat) (x1 : Int32) (m : hM) : Rf vI G X 64 [(0, hA G 96), (1, .int x1)] [] m (f_X11_riskiest_64 fu x1 m) := by
  unfold f_X11_riskiest_64
  refine rf_aload_n C (n := 65) (q := 0) dX11_riskiest_64 rfl rfl rfl ?_
  refine rf_iconst C (n := 66) (v := 0) dX11_riskiest_65 rfl (by decide) ?_
  refine rf_putI C (n := 69) pl_RX11_11 ly_96 rfl ⟨rfl, rfl⟩ dX11_riskiest_66 rfl ?_
  refine rf_letM (fun m4 => ?_)
  refine rf_aload_n C (n := 70) (q := 0) dX11_riskiest_69 rfl rfl rfl ?_
  refine rf_aload_n C (n := 71) (q := 0) dX11_riskiest_70 rfl rfl rfl ?_
  refine rf_getS C (n := 74) fl_RX11_140 ly_96 rfl dX11_riskiest_71 rfl ?_
  refine rf_bipush C (n := 76) (v := 67) dX11_riskiest_74 rfl (by decide) ?_
  refine rf_iload_n C (n := 77) (q := 1) dX11_riskiest_76 rfl rfl rfl ?_
  refine rf_iadd C (n := 78) dX11_riskiest_77 rfl ?_
  refine rf_guard (fun h5 => ?_)
  refine rf_iald C (n := 79) ly_114 h5 rfl dX11_riskiest_78 rfl ?_
  refine rf_i2l C (n := 80) dX11_riskiest_79 rfl ?_
  refine rf_callVv C (n := 83) (c_X11_enters G fu _ _) mw_RX11_18 ly_96 rfl ⟨by decide, by decide⟩ rfl (Nat.le_of_ble_eq_true rfl) rfl dX11_riskiest_80 rfl (fun _ m6 => ?_)
  refine rf_iload_n C (n := 84) (q := 1) dX11_riskiest_83 rfl rfl rfl ?_
  exact rf_iret C K dX11_riskiest_84
noncomputable def f_X11_riskiest_57 (fu : Nat) (k21 : Int32 → Int32 → hM → Option (Int32 × hM)) (x2 : Int32) (s0 : Int32) (m : hM) : Option (Int32 × hM) :=
  hLet (x2 + 1) fun y10 =>
k21 s0 y10 m
set_option maxRecDepth 100000 in
set_option maxHeartbeats 4000000 in
theorem r_X11_riskiest_57 {G : hG} {X : hX} (C : Cx G X 2 cX11_riskiest 3 RX11 (some .int)) (K : Cr G X) (fu : Nat) (k21 : Int32 → Int32 → hM → Option (Int32 × hM)) (hk21 : ∀ (x1 : Int32) (x2 : Int32) (m : hM), Rf vI G X 21 [(0, hA G 96), (1, .int x1), (2, .int x2)] [] m (k21 x1 x2 m)) (x2 : Int32) (s0 : Int32) (m : hM) : Rf vI G X 57 [(0, hA G 96), (2, .int x2)] [.int s0] m (f_X11_riskiest_57 fu k21 x2 s0 m) := by
  unfold f_X11_riskiest_57
  refine rf_istore_n C (n := 58) [(1, .int s0), (0, hA G 96), (2, .int x2)] dX11_riskiest_57 rfl rfl (by decide) rfl ?_
  refine rf_iinc2 C (n := 61) (q := 2) (fun y10 => [(2, .int y10), (1, .int s0), (0, hA G 96)]) dX11_riskiest_58 rfl rfl (by decide) (by decide) (fun _ => rfl) (fun y10 => ?_)
  refine rf_goto C (n := 21) dX11_riskiest_61 (by decide) ?_
  exact rf_lv _ [2, 1, 0] rfl (hk21 _ _ _)
noncomputable def s_X11_riskiest_21 (fu : Nat) (ih : Int32 → Int32 → hM → Option (Int32 × hM)) (x1 : Int32) (x2 : Int32) (m : hM) : Option (Int32 × hM) :=
  if (gI m 114 2) ≤ x2 then (
f_X11_riskiest_64 fu x1 m) else (
if hIn (67 + x2) 127 then (
if hIn (67 + x1) 127 then (
if (gI m 114 (Int32.toNatClampNeg (67 + x2))) ≤ (gI m 114 (Int32.toNatClampNeg (67 + x1))) then (
f_X11_riskiest_57 fu ih x2 x1 m) else (
f_X11_riskiest_57 fu ih x2 x2 m)) else none) else none)
noncomputable def f_X11_riskiest_21 (fu : Nat) (n : Nat) : Int32 → Int32 → hM → Option (Int32 × hM) :=
  Nat.rec (motive := fun _ => Int32 → Int32 → hM → Option (Int32 × hM)) (fun _ _ _ => none) (fun _ ih => s_X11_riskiest_21 fu ih) n
theorem f_X11_riskiest_21_s (fu : Nat) (n : Nat) (x1 : Int32) (x2 : Int32) (m : hM) : f_X11_riskiest_21 fu (n + 1) x1 x2 m = s_X11_riskiest_21 fu (f_X11_riskiest_21 fu n) x1 x2 m := rfl
set_option maxRecDepth 100000 in
set_option maxHeartbeats 4000000 in
theorem r_X11_riskiest_21 {G : hG} {X : hX} (C : Cx G X 2 cX11_riskiest 3 RX11 (some .int)) (K : Cr G X) (fu : Nat) (n : Nat) : ∀ (x1 : Int32) (x2 : Int32) (m : hM), Rf vI G X 21 [(0, hA G 96), (1, .int x1), (2, .int x2)] [] m (f_X11_riskiest_21 fu n x1 x2 m) := by
  induction n with
  | zero => intros; exact rf_none
  | succ n ih =>
    intro x1 x2 m
    show Rf vI G X 21 [(0, hA G 96), (1, .int x1), (2, .int x2)] [] m (s_X11_riskiest_21 fu (f_X11_riskiest_21 fu n) x1 x2 m)
    unfold s_X11_riskiest_21
    refine rf_iload_n C (n := 22) (q := 2) dX11_riskiest_21 rfl rfl rfl ?_
    refine rf_aload_n C (n := 23) (q := 0) dX11_riskiest_22 rfl rfl rfl ?_
    refine rf_getS C (n := 26) fl_RX11_140 ly_96 rfl dX11_riskiest_23 rfl ?_
    refine rf_iconst C (n := 27) (v := 2) dX11_riskiest_26 rfl (by decide) ?_
    refine rf_iald C (n := 28) (j := 2) ly_114 (by decide) (by decide) dX11_riskiest_27 rfl ?_
    refine rf_icmp_ge C (tgt := 64) (n := 31) dX11_riskiest_28 (by decide) rfl (fun h3 => ?_) (fun h3 => ?_)
    · exact rf_lv _ [0, 1] rfl (r_X11_riskiest_64 C K fu _ _)
    · refine rf_aload_n C (n := 32) (q := 0) dX11_riskiest_31 rfl rfl rfl ?_
      refine rf_getS C (n := 35) fl_RX11_140 ly_96 rfl dX11_riskiest_32 rfl ?_
      refine rf_bipush C (n := 37) (v := 67) dX11_riskiest_35 rfl (by decide) ?_
      refine rf_iload_n C (n := 38) (q := 2) dX11_riskiest_37 rfl rfl rfl ?_
      refine rf_iadd C (n := 39) dX11_riskiest_38 rfl ?_
      refine rf_guard (fun h7 => ?_)
      refine rf_iald C (n := 40) ly_114 h7 rfl dX11_riskiest_39 rfl ?_
      refine rf_aload_n C (n := 41) (q := 0) dX11_riskiest_40 rfl rfl rfl ?_
      refine rf_getS C (n := 44) fl_RX11_140 ly_96 rfl dX11_riskiest_41 rfl ?_
      refine rf_bipush C (n := 46) (v := 67) dX11_riskiest_44 rfl (by decide) ?_
      refine rf_iload_n C (n := 47) (q := 1) dX11_riskiest_46 rfl rfl rfl ?_
      refine rf_iadd C (n := 48) dX11_riskiest_47 rfl ?_
      refine rf_guard (fun h8 => ?_)
      refine rf_iald C (n := 49) ly_114 h8 rfl dX11_riskiest_48 rfl ?_
      refine rf_icmp_le C (tgt := 56) (n := 52) dX11_riskiest_49 (by decide) rfl (fun h9 => ?_) (fun h9 => ?_)
      · refine rf_iload_n C (n := 57) (q := 1) dX11_riskiest_56 rfl rfl rfl ?_
        exact rf_lv _ [0, 2] rfl (r_X11_riskiest_57 C K fu _ ih _ _ _)
      · refine rf_iload_n C (n := 53) (q := 2) dX11_riskiest_52 rfl rfl rfl ?_
        refine rf_goto C (n := 57) dX11_riskiest_53 (by decide) ?_
        exact rf_lv _ [0, 2] rfl (r_X11_riskiest_57 C K fu _ ih _ _ _)
noncomputable def f_X11_riskiest (fu : Nat) (m : hM) : Option (Int32 × hM) :=
  hLet (sI m 96 0 0) fun m1 =>
if ¬ (gI m1 114 2) = 0 then (
f_X11_riskiest_21 fu fu 0 1 m1) else (
some ((-2), m1))
set_option maxRecDepth 100000 in
set_option maxHeartbeats 4000000 in
theorem c_X11_riskiest (G : hG) (fu : Nat) (m : hM) : Mt vI G 2 yX11_riskiest cX11_riskiest 3 (some .int) [hA G 96] m (f_X11_riskiest fu m) := by
  refine mt_of (by decide +kernel) (Nat.le_of_ble_eq_true rfl) (fun X C K => ?_)
  have C : Cx G X 2 cX11_riskiest 3 RX11 (some .int) := C
  show Rf vI G X 0 [(0, hA G 96)] [] m _
  unfold f_X11_riskiest
  refine rf_aload_n C (n := 1) (q := 0) dX11_riskiest_0 rfl rfl rfl ?_
  refine rf_iconst C (n := 2) (v := 0) dX11_riskiest_1 rfl (by decide) ?_
  refine rf_putI C (n := 5) pl_RX11_3 ly_96 rfl ⟨rfl, rfl⟩ dX11_riskiest_2 rfl ?_
  refine rf_letM (fun m1 => ?_)
  refine rf_aload_n C (n := 6) (q := 0) dX11_riskiest_5 rfl rfl rfl ?_
  refine rf_getS C (n := 9) fl_RX11_140 ly_96 rfl dX11_riskiest_6 rfl ?_
  refine rf_iconst C (n := 10) (v := 2) dX11_riskiest_9 rfl (by decide) ?_
  refine rf_iald C (n := 11) (j := 2) ly_114 (by decide) (by decide) dX11_riskiest_10 rfl ?_
  refine rf_if_ne C (tgt := 17) (n := 14) dX11_riskiest_11 (by decide) rfl (fun h2 => ?_) (fun h2 => ?_)
  · refine rf_iconst C (n := 18) (v := 0) dX11_riskiest_17 rfl (by decide) ?_
    refine rf_istore_n C (n := 19) [(1, .int 0), (0, hA G 96)] dX11_riskiest_18 rfl rfl (by decide) rfl ?_
    refine rf_iconst C (n := 20) (v := 1) dX11_riskiest_19 rfl (by decide) ?_
    refine rf_istore_n C (n := 21) [(2, .int 1), (1, .int 0), (0, hA G 96)] dX11_riskiest_20 rfl rfl (by decide) rfl ?_
    exact rf_lv _ [2, 1, 0] rfl (r_X11_riskiest_21 C K fu fu _ _ _)
  · refine rf_bipush C (n := 16) (v := (-2)) dX11_riskiest_14 rfl (by decide) ?_
    exact rf_iret C K dX11_riskiest_16
noncomputable def f_X11_site_226 (fu : Nat) (x6 : Int32) (x7 : Int32) (x8 : Int32) (m : hM) : Option (Int32 × hM) :=
  if x7 < 0 then (
some (x7, m)) else (
hLet (sI m 96 1 0) fun m12 =>
hBd (f_X11_enters fu (Int32.toInt64 x8) m12) fun _ m13 =>
hBd (f_X11_enters fu (Int32.toInt64 x6) m13) fun _ m14 =>
some (x7, m14))
set_option maxRecDepth 100000 in
set_option maxHeartbeats 4000000 in
theorem r_X11_site_226 {G : hG} {X : hX} (C : Cx G X 12 cX11_site 11 RX11 (some .int)) (K : Cr G X) (fu : Nat) (x6 : Int32) (x7 : Int32) (x8 : Int32) (m : hM) : Rf vI G X 226 [(0, hA G 96), (6, .int x6), (7, .int x7), (8, .int x8)] [] m (f_X11_site_226 fu x6 x7 x8 m) := by
  unfold f_X11_site_226
  refine rf_iload C (n := 228) (q := 2) dX11_site_226 rfl rfl ?_
  refine rf_if_lt C (tgt := 250) (n := 231) dX11_site_228 (by decide) rfl (fun h11 => ?_) (fun h11 => ?_)
  · refine rf_iload C (n := 252) (q := 2) dX11_site_250 rfl rfl ?_
    exact rf_iret C K dX11_site_252
  · refine rf_aload_n C (n := 232) (q := 0) dX11_site_231 rfl rfl rfl ?_
    refine rf_iconst C (n := 233) (v := 0) dX11_site_232 rfl (by decide) ?_
    refine rf_putI C (n := 236) pl_RX11_11 ly_96 rfl ⟨rfl, rfl⟩ dX11_site_233 rfl ?_
    refine rf_letM (fun m12 => ?_)
    refine rf_aload_n C (n := 237) (q := 0) dX11_site_236 rfl rfl rfl ?_
    refine rf_iload C (n := 239) (q := 3) dX11_site_237 rfl rfl ?_
    refine rf_i2l C (n := 240) dX11_site_239 rfl ?_
    refine rf_callVv C (n := 243) (c_X11_enters G fu _ _) mw_RX11_18 ly_96 rfl ⟨by decide, by decide⟩ rfl (Nat.le_of_ble_eq_true rfl) rfl dX11_site_240 rfl (fun _ m13 => ?_)
    refine rf_aload_n C (n := 244) (q := 0) dX11_site_243 rfl rfl rfl ?_
    refine rf_iload C (n := 246) (q := 1) dX11_site_244 rfl rfl ?_
    refine rf_i2l C (n := 247) dX11_site_246 rfl ?_
    refine rf_callVv C (n := 250) (c_X11_enters G fu _ _) mw_RX11_18 ly_96 rfl ⟨by decide, by decide⟩ rfl (Nat.le_of_ble_eq_true rfl) rfl dX11_site_247 rfl (fun _ m14 => ?_)
    refine rf_iload C (n := 252) (q := 2) dX11_site_250 rfl rfl ?_
    exact rf_iret C K dX11_site_252
noncomputable def f_X11_site_220 (fu : Nat) (k119 : Int32 → Int32 → Int32 → Int32 → Int32 → Int32 → Int32 → Int32 → hM → Option (Int32 × hM)) (x1 : Int32) (x2 : Int32) (x3 : Int32) (x4 : Int32) (x6 : Int32) (x7 : Int32) (x8 : Int32) (x9 : Int32) (m : hM) : Option (Int32 × hM) :=
  hLet (x9 + 1) fun y21 =>
k119 x1 x2 x3 x4 x6 x7 x8 y21 m
set_option maxRecDepth 100000 in
set_option maxHeartbeats 4000000 in
theorem r_X11_site_220 {G : hG} {X : hX} (C : Cx G X 12 cX11_site 11 RX11 (some .int)) (K : Cr G X) (fu : Nat) (k119 : Int32 → Int32 → Int32 → Int32 → Int32 → Int32 → Int32 → Int32 → hM → Option (Int32 × hM)) (hk119 : ∀ (x1 : Int32) (x2 : Int32) (x3 : Int32) (x4 : Int32) (x6 : Int32) (x7 : Int32) (x8 : Int32) (x9 : Int32) (m : hM), Rf vI G X 119 [(0, hA G 96), (1, .int x1), (2, .int x2), (3, .int x3), (4, .int x4), (6, .int x6), (7, .int x7), (8, .int x8), (9, .int x9)] [] m (k119 x1 x2 x3 x4 x6 x7 x8 x9 m)) (x1 : Int32) (x2 : Int32) (x3 : Int32) (x4 : Int32) (x6 : Int32) (x7 : Int32) (x8 : Int32) (x9 : Int32) (m : hM) : Rf vI G X 220 [(0, hA G 96), (1, .int x1), (2, .int x2), (3, .int x3), (4, .int x4), (6, .int x6), (7, .int x7), (8, .int x8), (9, .int x9)] [] m (f_X11_site_220 fu k119 x1 x2 x3 x4 x6 x7 x8 x9 m) := by
  unfold f_X11_site_220
  refine rf_iinc2 C (n := 223) (q := 8) (fun y21 => [(9, .int y21), (0, hA G 96), (1, .int x1), (2, .int x2), (3, .int x3), (4, .int x4), (6, .int x6), (7, .int x7), (8, .int x8)]) dX11_site_220 rfl rfl (by decide) (by decide) (fun _ => rfl) (fun y21 => ?_)
  refine rf_goto C (n := 119) dX11_site_223 (by decide) ?_
  exact rf_lv _ [1, 2, 3, 4, 5, 6, 7, 8, 0] rfl (hk119 _ _ _ _ _ _ _ _ _)
noncomputable def f_X11_site_212 (fu : Nat) (k119 : Int32 → Int32 → Int32 → Int32 → Int32 → Int32 → Int32 → Int32 → hM → Option (Int32 × hM)) (x1 : Int32) (x2 : Int32) (x3 : Int32) (x4 : Int32) (x6 : Int32) (x9 : Int32) (x10 : Int32) (m : hM) : Option (Int32 × hM) :=
  f_X11_site_220 fu k119 x1 x2 x3 x4 x6 x9 x10 x9 m
set_option maxRecDepth 100000 in
set_option maxHeartbeats 4000000 in
theorem r_X11_site_212 {G : hG} {X : hX} (C : Cx G X 12 cX11_site 11 RX11 (some .int)) (K : Cr G X) (fu : Nat) (k119 : Int32 → Int32 → Int32 → Int32 → Int32 → Int32 → Int32 → Int32 → hM → Option (Int32 × hM)) (hk119 : ∀ (x1 : Int32) (x2 : Int32) (x3 : Int32) (x4 : Int32) (x6 : Int32) (x7 : Int32) (x8 : Int32) (x9 : Int32) (m : hM), Rf vI G X 119 [(0, hA G 96), (1, .int x1), (2, .int x2), (3, .int x3), (4, .int x4), (6, .int x6), (7, .int x7), (8, .int x8), (9, .int x9)] [] m (k119 x1 x2 x3 x4 x6 x7 x8 x9 m)) (x1 : Int32) (x2 : Int32) (x3 : Int32) (x4 : Int32) (x6 : Int32) (x9 : Int32) (x10 : Int32) (m : hM) : Rf vI G X 212 [(0, hA G 96), (1, .int x1), (2, .int x2), (3, .int x3), (4, .int x4), (6, .int x6), (9, .int x9), (10, .int x10)] [] m (f_X11_site_212 fu k119 x1 x2 x3 x4 x6 x9 x10 m) := by
  unfold f_X11_site_212
  refine rf_iload C (n := 214) (q := 6) dX11_site_212 rfl rfl ?_
  refine rf_istore C (n := 216) [(7, .int x9), (0, hA G 96), (1, .int x1), (2, .int x2), (3, .int x3), (4, .int x4), (6, .int x6), (9, .int x9), (10, .int x10)] dX11_site_214 rfl (by decide) rfl ?_
  refine rf_iload C (n := 218) (q := 8) dX11_site_216 rfl rfl ?_
  refine rf_istore C (n := 220) [(8, .int x10), (7, .int x9), (0, hA G 96), (1, .int x1), (2, .int x2), (3, .int x3), (4, .int x4), (6, .int x6), (9, .int x9), (10, .int x10)] dX11_site_218 rfl (by decide) rfl ?_
  exact rf_lv _ [2, 3, 4, 5, 6, 7, 1, 0, 8] rfl (r_X11_site_220 C K fu _ hk119 _ _ _ _ _ _ _ _ _)
noncomputable def f_X11_site_177 (fu : Nat) (k119 : Int32 → Int32 → Int32 → Int32 → Int32 → Int32 → Int32 → Int32 → hM → Option (Int32 × hM)) (x1 : Int32) (x2 : Int32) (x3 : Int32) (x4 : Int32) (x6 : Int32) (x7 : Int32) (x8 : Int32) (x9 : Int32) (m : hM) : Option (Int32 × hM) :=
  hBd (f_X11_endsFrom fu x4 m) fun y17 m18 =>
hLet (sI m18 96 3 ((gI m18 96 3) - 1)) fun m19 =>
if y17 < 0 then (
f_X11_site_220 fu k119 x1 x2 x3 x4 x6 x7 x8 x9 m19) else (
if x7 < 0 then (
f_X11_site_212 fu k119 x1 x2 x3 x4 x6 x9 y17 m19) else (
if x8 ≤ y17 then (
f_X11_site_220 fu k119 x1 x2 x3 x4 x6 x7 x8 x9 m19) else (
f_X11_site_212 fu k119 x1 x2 x3 x4 x6 x9 y17 m19)))
set_option maxRecDepth 100000 in
set_option maxHeartbeats 4000000 in
theorem r_X11_site_177 {G : hG} {X : hX} (C : Cx G X 12 cX11_site 11 RX11 (some .int)) (K : Cr G X) (fu : Nat) (k119 : Int32 → Int32 → Int32 → Int32 → Int32 → Int32 → Int32 → Int32 → hM → Option (Int32 × hM)) (hk119 : ∀ (x1 : Int32) (x2 : Int32) (x3 : Int32) (x4 : Int32) (x6 : Int32) (x7 : Int32) (x8 : Int32) (x9 : Int32) (m : hM), Rf vI G X 119 [(0, hA G 96), (1, .int x1), (2, .int x2), (3, .int x3), (4, .int x4), (6, .int x6), (7, .int x7), (8, .int x8), (9, .int x9)] [] m (k119 x1 x2 x3 x4 x6 x7 x8 x9 m)) (x1 : Int32) (x2 : Int32) (x3 : Int32) (x4 : Int32) (x6 : Int32) (x7 : Int32) (x8 : Int32) (x9 : Int32) (m : hM) : Rf vI G X 177 [(0, hA G 96), (1, .int x1), (2, .int x2), (3, .int x3), (4, .int x4), (6, .int x6), (7, .int x7), (8, .int x8), (9, .int x9)] [] m (f_X11_site_177 fu k119 x1 x2 x3 x4 x6 x7 x8 x9 m) := by
  unfold f_X11_site_177
  refine rf_aload_n C (n := 178) (q := 0) dX11_site_177 rfl rfl rfl ?_
  refine rf_iload C (n := 180) (q := 4) dX11_site_178 rfl rfl ?_
  refine rf_callVi C (n := 183) (c_X11_endsFrom G fu _ _) mw_RX11_422 ly_96 rfl ⟨by decide, by decide⟩ rfl (Nat.le_of_ble_eq_true rfl) rfl dX11_site_180 rfl (fun y17 m18 => ?_)
  refine rf_istore C (n := 185) [(10, .int y17), (0, hA G 96), (1, .int x1), (2, .int x2), (3, .int x3), (4, .int x4), (6, .int x6), (7, .int x7), (8, .int x8), (9, .int x9)] dX11_site_183 rfl (by decide) rfl ?_
  refine rf_aload_n C (n := 186) (q := 1) dX11_site_185 rfl rfl rfl ?_
  refine rf_dup C (n := 187) dX11_site_186 rfl rfl ?_
  refine rf_getI C (n := 190) fl_RX11_22 ly_96 rfl dX11_site_187 rfl ?_
  refine rf_iconst C (n := 191) (v := 1) dX11_site_190 rfl (by decide) ?_
  refine rf_isub C (n := 192) dX11_site_191 rfl ?_
  refine rf_putI C (n := 195) pl_RX11_22 ly_96 rfl ⟨rfl, rfl⟩ dX11_site_192 rfl ?_
  refine rf_letM (fun m19 => ?_)
  refine rf_iload C (n := 197) (q := 0) dX11_site_195 rfl rfl ?_
  refine rf_if_lt C (tgt := 220) (n := 200) dX11_site_197 (by decide) rfl (fun h20 => ?_) (fun h20 => ?_)
  · exact rf_lv _ [1, 2, 3, 4, 5, 6, 7, 8, 9] rfl (r_X11_site_220 C K fu _ hk119 _ _ _ _ _ _ _ _ _)
  · refine rf_iload C (n := 202) (q := 7) dX11_site_200 rfl rfl ?_
    refine rf_if_lt C (tgt := 212) (n := 205) dX11_site_202 (by decide) rfl (fun h22 => ?_) (fun h22 => ?_)
    · exact rf_lv _ [1, 2, 3, 4, 5, 6, 9, 0] rfl (r_X11_site_212 C K fu _ hk119 _ _ _ _ _ _ _ _)
    · refine rf_iload C (n := 207) (q := 0) dX11_site_205 rfl rfl ?_
      refine rf_iload C (n := 209) (q := 8) dX11_site_207 rfl rfl ?_
      refine rf_icmp_ge C (tgt := 220) (n := 212) dX11_site_209 (by decide) rfl (fun h23 => ?_) (fun h23 => ?_)
      · exact rf_lv _ [1, 2, 3, 4, 5, 6, 7, 8, 9] rfl (r_X11_site_220 C K fu _ hk119 _ _ _ _ _ _ _ _ _)
      · exact rf_lv _ [1, 2, 3, 4, 5, 6, 9, 0] rfl (r_X11_site_212 C K fu _ hk119 _ _ _ _ _ _ _ _)
noncomputable def s_X11_site_147 (fu : Nat) (k119 : Int32 → Int32 → Int32 → Int32 → Int32 → Int32 → Int32 → Int32 → hM → Option (Int32 × hM)) (ih : Int32 → Int32 → Int32 → Int32 → Int32 → Int32 → Int32 → Int32 → Int32 → hM → Option (Int32 × hM)) (x1 : Int32) (x2 : Int32) (x3 : Int32) (x4 : Int32) (x6 : Int32) (x7 : Int32) (x8 : Int32) (x9 : Int32) (x10 : Int32) (m : hM) : Option (Int32 × hM) :=
  if (gI m 96 3) ≤ (x10 + 1) then (
f_X11_site_177 fu k119 x1 x2 x3 x4 x6 x7 x8 x9 m) else (
hBd (f_X11_knows fu x10 ((gI m 96 3) - 1) x3 m) fun _ m24 =>
hLet (x10 + 1) fun y25 =>
ih x1 x2 x3 x4 x6 x7 x8 x9 y25 m24)
noncomputable def f_X11_site_147 (fu : Nat) (k119 : Int32 → Int32 → Int32 → Int32 → Int32 → Int32 → Int32 → Int32 → hM → Option (Int32 × hM)) (n : Nat) : Int32 → Int32 → Int32 → Int32 → Int32 → Int32 → Int32 → Int32 → Int32 → hM → Option (Int32 × hM) :=
  Nat.rec (motive := fun _ => Int32 → Int32 → Int32 → Int32 → Int32 → Int32 → Int32 → Int32 → Int32 → hM → Option (Int32 × hM)) (fun _ _ _ _ _ _ _ _ _ _ => none) (fun _ ih => s_X11_site_147 fu k119 ih) n
theorem f_X11_site_147_s (fu : Nat) (k119 : Int32 → Int32 → Int32 → Int32 → Int32 → Int32 → Int32 → Int32 → hM → Option (Int32 × hM)) (n : Nat) (x1 : Int32) (x2 : Int32) (x3 : Int32) (x4 : Int32) (x6 : Int32) (x7 : Int32) (x8 : Int32) (x9 : Int32) (x10 : Int32) (m : hM) : f_X11_site_147 fu k119 (n + 1) x1 x2 x3 x4 x6 x7 x8 x9 x10 m = s_X11_site_147 fu k119 (f_X11_site_147 fu k119 n) x1 x2 x3 x4 x6 x7 x8 x9 x10 m := rfl
set_option maxRecDepth 100000 in
set_option maxHeartbeats 4000000 in
theorem r_X11_site_147 {G : hG} {X : hX} (C : Cx G X 12 cX11_site 11 RX11 (some .int)) (K : Cr G X) (fu : Nat) (k119 : Int32 → Int32 → Int32 → Int32 → Int32 → Int32 → Int32 → Int32 → hM → Option (Int32 × hM)) (hk119 : ∀ (x1 : Int32) (x2 : Int32) (x3 : Int32) (x4 : Int32) (x6 : Int32) (x7 : Int32) (x8 : Int32) (x9 : Int32) (m : hM), Rf vI G X 119 [(0, hA G 96), (1, .int x1), (2, .int x2), (3, .int x3), (4, .int x4), (6, .int x6), (7, .int x7), (8, .int x8), (9, .int x9)] [] m (k119 x1 x2 x3 x4 x6 x7 x8 x9 m)) (n : Nat) : ∀ (x1 : Int32) (x2 : Int32) (x3 : Int32) (x4 : Int32) (x6 : Int32) (x7 : Int32) (x8 : Int32) (x9 : Int32) (x10 : Int32) (m : hM), Rf vI G X 147 [(0, hA G 96), (1, .int x1), (2, .int x2), (3, .int x3), (4, .int x4), (6, .int x6), (7, .int x7), (8, .int x8), (9, .int x9), (10, .int x10)] [] m (f_X11_site_147 fu k119 n x1 x2 x3 x4 x6 x7 x8 x9 x10 m) := by
  induction n with
  | zero => intros; exact rf_none
  | succ n ih =>
    intro x1 x2 x3 x4 x6 x7 x8 x9 x10 m
    show Rf vI G X 147 [(0, hA G 96), (1, .int x1), (2, .int x2), (3, .int x3), (4, .int x4), (6, .int x6), (7, .int x7), (8, .int x8), (9, .int x9), (10, .int x10)] [] m (s_X11_site_147 fu k119 (f_X11_site_147 fu k119 n) x1 x2 x3 x4 x6 x7 x8 x9 x10 m)
    unfold s_X11_site_147
    refine rf_iload C (n := 149) (q := 9) dX11_site_147 rfl rfl ?_
    refine rf_iconst C (n := 150) (v := 1) dX11_site_149 rfl (by decide) ?_
    refine rf_iadd C (n := 151) dX11_site_150 rfl ?_
    refine rf_aload_n C (n := 152) (q := 0) dX11_site_151 rfl rfl rfl ?_
    refine rf_getI C (n := 155) fl_RX11_22 ly_96 rfl dX11_site_152 rfl ?_
    refine rf_icmp_ge C (tgt := 177) (n := 158) dX11_site_155 (by decide) rfl (fun h16 => ?_) (fun h16 => ?_)
    · exact rf_lv _ [0, 1, 2, 3, 4, 5, 6, 7, 8] rfl (r_X11_site_177 C K fu _ hk119 _ _ _ _ _ _ _ _ _)
    · refine rf_aload_n C (n := 159) (q := 0) dX11_site_158 rfl rfl rfl ?_
      refine rf_iload C (n := 161) (q := 9) dX11_site_159 rfl rfl ?_
      refine rf_aload_n C (n := 162) (q := 0) dX11_site_161 rfl rfl rfl ?_
      refine rf_getI C (n := 165) fl_RX11_22 ly_96 rfl dX11_site_162 rfl ?_
      refine rf_iconst C (n := 166) (v := 1) dX11_site_165 rfl (by decide) ?_
      refine rf_isub C (n := 167) dX11_site_166 rfl ?_
      refine rf_iload_n C (n := 168) (q := 3) dX11_site_167 rfl rfl rfl ?_
      refine rf_callVv C (n := 171) (c_X11_knows G fu _ _ _ _) mw_RX11_89 ly_96 rfl ⟨by decide, by decide⟩ rfl (Nat.le_of_ble_eq_true rfl) rfl dX11_site_168 rfl (fun _ m24 => ?_)
      refine rf_iinc2 C (n := 174) (q := 9) (fun y25 => [(10, .int y25), (0, hA G 96), (1, .int x1), (2, .int x2), (3, .int x3), (4, .int x4), (6, .int x6), (7, .int x7), (8, .int x8), (9, .int x9)]) dX11_site_171 rfl rfl (by decide) (by decide) (fun _ => rfl) (fun y25 => ?_)
      refine rf_goto C (n := 147) dX11_site_174 (by decide) ?_
      exact rf_lv _ [1, 2, 3, 4, 5, 6, 7, 8, 9, 0] rfl (ih _ _ _ _ _ _ _ _ _ _)
noncomputable def s_X11_site_119 (fu : Nat) (ih : Int32 → Int32 → Int32 → Int32 → Int32 → Int32 → Int32 → Int32 → hM → Option (Int32 × hM)) (x1 : Int32) (x2 : Int32) (x3 : Int32) (x4 : Int32) (x6 : Int32) (x7 : Int32) (x8 : Int32) (x9 : Int32) (m : hM) : Option (Int32 × hM) :=
  if 24 ≤ x9 then (
f_X11_site_226 fu x6 x7 x8 m) else (
hBd (f_X11_opens fu x9 9 x1 1 (x2 / 64) (x2 - x2 / 64 * 64) m) fun _ m15 =>
f_X11_site_147 fu ih fu x1 x2 x3 x4 x6 x7 x8 x9 0 m15)
noncomputable def f_X11_site_119 (fu : Nat) (n : Nat) : Int32 → Int32 → Int32 → Int32 → Int32 → Int32 → Int32 → Int32 → hM → Option (Int32 × hM) :=
  Nat.rec (motive := fun _ => Int32 → Int32 → Int32 → Int32 → Int32 → Int32 → Int32 → Int32 → hM → Option (Int32 × hM)) (fun _ _ _ _ _ _ _ _ _ => none) (fun _ ih => s_X11_site_119 fu ih) n
theorem f_X11_site_119_s (fu : Nat) (n : Nat) (x1 : Int32) (x2 : Int32) (x3 : Int32) (x4 : Int32) (x6 : Int32) (x7 : Int32) (x8 : Int32) (x9 : Int32) (m : hM) : f_X11_site_119 fu (n + 1) x1 x2 x3 x4 x6 x7 x8 x9 m = s_X11_site_119 fu (f_X11_site_119 fu n) x1 x2 x3 x4 x6 x7 x8 x9 m := rfl
set_option maxRecDepth 100000 in
set_option maxHeartbeats 4000000 in
theorem r_X11_site_119 {G : hG} {X : hX} (C : Cx G X 12 cX11_site 11 RX11 (some .int)) (K : Cr G X) (fu : Nat) (n : Nat) : ∀ (x1 : Int32) (x2 : Int32) (x3 : Int32) (x4 : Int32) (x6 : Int32) (x7 : Int32) (x8 : Int32) (x9 : Int32) (m : hM), Rf vI G X 119 [(0, hA G 96), (1, .int x1), (2, .int x2), (3, .int x3), (4, .int x4), (6, .int x6), (7, .int x7), (8, .int x8), (9, .int x9)] [] m (f_X11_site_119 fu n x1 x2 x3 x4 x6 x7 x8 x9 m) := by
  induction n with
  | zero => intros; exact rf_none
  | succ n ih =>
    intro x1 x2 x3 x4 x6 x7 x8 x9 m
    show Rf vI G X 119 [(0, hA G 96), (1, .int x1), (2, .int x2), (3, .int x3), (4, .int x4), (6, .int x6), (7, .int x7), (8, .int x8), (9, .int x9)] [] m (s_X11_site_119 fu (f_X11_site_119 fu n) x1 x2 x3 x4 x6 x7 x8 x9 m)
    unfold s_X11_site_119
    refine rf_iload C (n := 121) (q := 8) dX11_site_119 rfl rfl ?_
    refine rf_bipush C (n := 123) (v := 24) dX11_site_121 rfl (by decide) ?_
    refine rf_icmp_ge C (tgt := 226) (n := 126) dX11_site_123 (by decide) rfl (fun h10 => ?_) (fun h10 => ?_)
    · exact rf_lv _ [0, 5, 6, 7] rfl (r_X11_site_226 C K fu _ _ _ _)
    · refine rf_aload_n C (n := 127) (q := 0) dX11_site_126 rfl rfl rfl ?_
      refine rf_iload C (n := 129) (q := 8) dX11_site_127 rfl rfl ?_
      refine rf_bipush C (n := 131) (v := 9) dX11_site_129 rfl (by decide) ?_
      refine rf_iload_n C (n := 132) (q := 1) dX11_site_131 rfl rfl rfl ?_
      refine rf_iconst C (n := 133) (v := 1) dX11_site_132 rfl (by decide) ?_
      refine rf_iload_n C (n := 134) (q := 2) dX11_site_133 rfl rfl rfl ?_
      refine rf_bipush C (n := 136) (v := 64) dX11_site_134 rfl (by decide) ?_
      refine rf_idiv C (n := 137) dX11_site_136 rfl (by decide) ?_
      refine rf_iload_n C (n := 138) (q := 2) dX11_site_137 rfl rfl rfl ?_
      refine rf_bipush C (n := 140) (v := 64) dX11_site_138 rfl (by decide) ?_
      refine rf_irem C (n := 141) dX11_site_140 rfl (by decide) ?_
      refine rf_callVv C (n := 144) (c_X11_opens G fu _ _ _ _ _ _ _) mw_RX11_73 ly_96 rfl ⟨by decide, by decide⟩ rfl (Nat.le_of_ble_eq_true rfl) rfl dX11_site_141 rfl (fun _ m15 => ?_)
      refine rf_iconst C (n := 145) (v := 0) dX11_site_144 rfl (by decide) ?_
      refine rf_istore C (n := 147) [(10, .int 0), (0, hA G 96), (1, .int x1), (2, .int x2), (3, .int x3), (4, .int x4), (6, .int x6), (7, .int x7), (8, .int x8), (9, .int x9)] dX11_site_145 rfl (by decide) rfl ?_
      exact rf_lv _ [1, 2, 3, 4, 5, 6, 7, 8, 9, 0] rfl (r_X11_site_147 C K fu _ ih fu _ _ _ _ _ _ _ _ _ _)
noncomputable def f_X11_site_76 (fu : Nat) (x1 : Int32) (x2 : Int32) (x3 : Int32) (x4 : Int32) (s0 : Int32) (m : hM) : Option (Int32 × hM) :=
  if s0 = 0 then (
some ((-1), m)) else (
if (gI m 96 3) = 6 then (
some ((-1), m)) else (
if ¬ (gI m 96 16) = 0 then (
hBd (f_X11_endsFrom fu x4 m) fun y8 m9 =>
f_X11_site_119 fu fu x1 x2 x3 x4 y8 (-2) 0 0 m9) else (
some ((-1), m))))
set_option maxRecDepth 100000 in
set_option maxHeartbeats 4000000 in
theorem r_X11_site_76 {G : hG} {X : hX} (C : Cx G X 12 cX11_site 11 RX11 (some .int)) (K : Cr G X) (fu : Nat) (x1 : Int32) (x2 : Int32) (x3 : Int32) (x4 : Int32) (s0 : Int32) (m : hM) : Rf vI G X 76 [(0, hA G 96), (1, .int x1), (2, .int x2), (3, .int x3), (4, .int x4)] [.int s0] m (f_X11_site_76 fu x1 x2 x3 x4 s0 m) := by
  unfold f_X11_site_76
  refine rf_istore C (n := 78) [(5, .int s0), (0, hA G 96), (1, .int x1), (2, .int x2), (3, .int x3), (4, .int x4)] dX11_site_76 rfl (by decide) rfl ?_
  refine rf_iload C (n := 80) (q := 0) dX11_site_78 rfl rfl ?_
  refine rf_if_eq C (tgt := 99) (n := 83) dX11_site_80 (by decide) rfl (fun h5 => ?_) (fun h5 => ?_)
  · refine rf_iconst C (n := 100) (v := (-1)) dX11_site_99 rfl (by decide) ?_
    exact rf_iret C K dX11_site_100
  · refine rf_aload_n C (n := 84) (q := 1) dX11_site_83 rfl rfl rfl ?_
    refine rf_getI C (n := 87) fl_RX11_22 ly_96 rfl dX11_site_84 rfl ?_
    refine rf_bipush C (n := 89) (v := 6) dX11_site_87 rfl (by decide) ?_
    refine rf_icmp_eq C (tgt := 99) (n := 92) dX11_site_89 (by decide) rfl (fun h6 => ?_) (fun h6 => ?_)
    · refine rf_iconst C (n := 100) (v := (-1)) dX11_site_99 rfl (by decide) ?_
      exact rf_iret C K dX11_site_100
    · refine rf_aload_n C (n := 93) (q := 1) dX11_site_92 rfl rfl rfl ?_
      refine rf_getI C (n := 96) fl_RX11_151 ly_96 rfl dX11_site_93 rfl ?_
      refine rf_if_ne C (tgt := 101) (n := 99) dX11_site_96 (by decide) rfl (fun h7 => ?_) (fun h7 => ?_)
      · refine rf_aload_n C (n := 102) (q := 1) dX11_site_101 rfl rfl rfl ?_
        refine rf_iload C (n := 104) (q := 5) dX11_site_102 rfl rfl ?_
        refine rf_callVi C (n := 107) (c_X11_endsFrom G fu _ _) mw_RX11_422 ly_96 rfl ⟨by decide, by decide⟩ rfl (Nat.le_of_ble_eq_true rfl) rfl dX11_site_104 rfl (fun y8 m9 => ?_)
        refine rf_istore C (n := 109) [(6, .int y8), (5, .int s0), (0, hA G 96), (1, .int x1), (2, .int x2), (3, .int x3), (4, .int x4)] dX11_site_107 rfl (by decide) rfl ?_
        refine rf_bipush C (n := 111) (v := (-2)) dX11_site_109 rfl (by decide) ?_
        refine rf_istore C (n := 113) [(7, .int (-2)), (6, .int y8), (5, .int s0), (0, hA G 96), (1, .int x1), (2, .int x2), (3, .int x3), (4, .int x4)] dX11_site_111 rfl (by decide) rfl ?_
        refine rf_iconst C (n := 114) (v := 0) dX11_site_113 rfl (by decide) ?_
        refine rf_istore C (n := 116) [(8, .int 0), (7, .int (-2)), (6, .int y8), (5, .int s0), (0, hA G 96), (1, .int x1), (2, .int x2), (3, .int x3), (4, .int x4)] dX11_site_114 rfl (by decide) rfl ?_
        refine rf_iconst C (n := 117) (v := 0) dX11_site_116 rfl (by decide) ?_
        refine rf_istore C (n := 119) [(9, .int 0), (8, .int 0), (7, .int (-2)), (6, .int y8), (5, .int s0), (0, hA G 96), (1, .int x1), (2, .int x2), (3, .int x3), (4, .int x4)] dX11_site_117 rfl (by decide) rfl ?_
        exact rf_lv _ [5, 6, 7, 8, 9, 3, 2, 1, 0] rfl (r_X11_site_119 C K fu fu _ _ _ _ _ _ _ _ _)
      · refine rf_iconst C (n := 100) (v := (-1)) dX11_site_99 rfl (by decide) ?_
        exact rf_iret C K dX11_site_100
noncomputable def f_X11_site_75 (fu : Nat) (x1 : Int32) (x2 : Int32) (x3 : Int32) (x4 : Int32) (m : hM) : Option (Int32 × hM) :=
  f_X11_site_76 fu x1 x2 x3 x4 0 m
set_option maxRecDepth 100000 in
set_option maxHeartbeats 4000000 in
theorem r_X11_site_75 {G : hG} {X : hX} (C : Cx G X 12 cX11_site 11 RX11 (some .int)) (K : Cr G X) (fu : Nat) (x1 : Int32) (x2 : Int32) (x3 : Int32) (x4 : Int32) (m : hM) : Rf vI G X 75 [(0, hA G 96), (1, .int x1), (2, .int x2), (3, .int x3), (4, .int x4)] [] m (f_X11_site_75 fu x1 x2 x3 x4 m) := by
  unfold f_X11_site_75
  refine rf_iconst C (n := 76) (v := 0) dX11_site_75 rfl (by decide) ?_
  exact rf_lv _ [0, 1, 2, 3, 4] rfl (r_X11_site_76 C K fu _ _ _ _ _ _)
noncomputable def f_X11_site (fu : Nat) (x1 : Int32) (x2 : Int32) (x3 : Int32) (x4 : Int32) (m : hM) : Option (Int32 × hM) :=
  hLet (sI m 96 0 0) fun m1 =>
hBd (f_X11_in fu (Int32.toInt64 x1) 1 16 m1) fun y2 m3 =>
if y2 = 0 then (
f_X11_site_75 fu x1 x2 x3 x4 m3) else (
if x2 < 0 then (
f_X11_site_75 fu x1 x2 x3 x4 m3) else (
hBd (f_X11_in fu (Int32.toInt64 (x2 / 64)) 1 9 m3) fun y27 m28 =>
if y27 = 0 then (
f_X11_site_75 fu x1 x2 x3 x4 m28) else (
hBd (f_X11_in fu (Int32.toInt64 (x2 - x2 / 64 * 64)) 1 63 m28) fun y30 m31 =>
if y30 = 0 then (
f_X11_site_75 fu x1 x2 x3 x4 m31) else (
hBd (f_X11_in fu (Int32.toInt64 x3) 0 9 m31) fun y33 m34 =>
if y33 = 0 then (
f_X11_site_75 fu x1 x2 x3 x4 m34) else (
hBd (f_X11_isHour fu x4 m34) fun y36 m37 =>
if y36 = 0 then (
f_X11_site_75 fu x1 x2 x3 x4 m37) else (
f_X11_site_76 fu x1 x2 x3 x4 1 m37))))))
set_option maxRecDepth 100000 in
set_option maxHeartbeats 4000000 in
theorem c_X11_site (G : hG) (fu : Nat) (x1 : Int32) (x2 : Int32) (x3 : Int32) (x4 : Int32) (m : hM) : Mt vI G 12 yX11_site cX11_site 11 (some .int) [hA G 96, .int x1, .int x2, .int x3, .int x4] m (f_X11_site fu x1 x2 x3 x4 m) := by
  refine mt_of (by decide +kernel) (Nat.le_of_ble_eq_true rfl) (fun X C K => ?_)
  have C : Cx G X 12 cX11_site 11 RX11 (some .int) := C
  show Rf vI G X 0 [(0, hA G 96), (1, .int x1), (2, .int x2), (3, .int x3), (4, .int x4)] [] m _
  unfold f_X11_site
  refine rf_aload_n C (n := 1) (q := 0) dX11_site_0 rfl rfl rfl ?_
  refine rf_iconst C (n := 2) (v := 0) dX11_site_1 rfl (by decide) ?_
  refine rf_putI C (n := 5) pl_RX11_3 ly_96 rfl ⟨rfl, rfl⟩ dX11_site_2 rfl ?_
  refine rf_letM (fun m1 => ?_)
  refine rf_iload_n C (n := 6) (q := 1) dX11_site_5 rfl rfl rfl ?_
  refine rf_i2l C (n := 7) dX11_site_6 rfl ?_
  refine rf_lconst C (n := 8) (v := 1) dX11_site_7 rfl (by decide) ?_
  refine rf_ldc2 C (n := 11) dX11_site_8 rfl kl_RX11_65 ?_
  refine rf_callSi C (n := 14) (c_X11_in G fu _ _ _ _) sw_RX11_25 ⟨by decide, by decide⟩ rfl (Nat.le_of_ble_eq_true rfl) rfl dX11_site_11 rfl (fun y2 m3 => ?_)
  refine rf_if_eq C (tgt := 75) (n := 17) dX11_site_14 (by decide) rfl (fun h4 => ?_) (fun h4 => ?_)
  · exact rf_lv _ [0, 1, 2, 3, 4] rfl (r_X11_site_75 C K fu _ _ _ _ _)
  · refine rf_iload_n C (n := 18) (q := 2) dX11_site_17 rfl rfl rfl ?_
    refine rf_if_lt C (tgt := 75) (n := 21) dX11_site_18 (by decide) rfl (fun h26 => ?_) (fun h26 => ?_)
    · exact rf_lv _ [0, 1, 2, 3, 4] rfl (r_X11_site_75 C K fu _ _ _ _ _)
    · refine rf_iload_n C (n := 22) (q := 2) dX11_site_21 rfl rfl rfl ?_
      refine rf_bipush C (n := 24) (v := 64) dX11_site_22 rfl (by decide) ?_
      refine rf_idiv C (n := 25) dX11_site_24 rfl (by decide) ?_
      refine rf_i2l C (n := 26) dX11_site_25 rfl ?_
      refine rf_lconst C (n := 27) (v := 1) dX11_site_26 rfl (by decide) ?_
      refine rf_ldc2 C (n := 30) dX11_site_27 rfl kl_RX11_69 ?_
      refine rf_callSi C (n := 33) (c_X11_in G fu _ _ _ _) sw_RX11_25 ⟨by decide, by decide⟩ rfl (Nat.le_of_ble_eq_true rfl) rfl dX11_site_30 rfl (fun y27 m28 => ?_)
      refine rf_if_eq C (tgt := 75) (n := 36) dX11_site_33 (by decide) rfl (fun h29 => ?_) (fun h29 => ?_)
      · exact rf_lv _ [0, 1, 2, 3, 4] rfl (r_X11_site_75 C K fu _ _ _ _ _)
      · refine rf_iload_n C (n := 37) (q := 2) dX11_site_36 rfl rfl rfl ?_
        refine rf_bipush C (n := 39) (v := 64) dX11_site_37 rfl (by decide) ?_
        refine rf_irem C (n := 40) dX11_site_39 rfl (by decide) ?_
        refine rf_i2l C (n := 41) dX11_site_40 rfl ?_
        refine rf_lconst C (n := 42) (v := 1) dX11_site_41 rfl (by decide) ?_
        refine rf_ldc2 C (n := 45) dX11_site_42 rfl kl_RX11_71 ?_
        refine rf_callSi C (n := 48) (c_X11_in G fu _ _ _ _) sw_RX11_25 ⟨by decide, by decide⟩ rfl (Nat.le_of_ble_eq_true rfl) rfl dX11_site_45 rfl (fun y30 m31 => ?_)
        refine rf_if_eq C (tgt := 75) (n := 51) dX11_site_48 (by decide) rfl (fun h32 => ?_) (fun h32 => ?_)
        · exact rf_lv _ [0, 1, 2, 3, 4] rfl (r_X11_site_75 C K fu _ _ _ _ _)
        · refine rf_iload_n C (n := 52) (q := 3) dX11_site_51 rfl rfl rfl ?_
          refine rf_i2l C (n := 53) dX11_site_52 rfl ?_
          refine rf_lconst C (n := 54) (v := 0) dX11_site_53 rfl (by decide) ?_
          refine rf_ldc2 C (n := 57) dX11_site_54 rfl kl_RX11_69 ?_
          refine rf_callSi C (n := 60) (c_X11_in G fu _ _ _ _) sw_RX11_25 ⟨by decide, by decide⟩ rfl (Nat.le_of_ble_eq_true rfl) rfl dX11_site_57 rfl (fun y33 m34 => ?_)
          refine rf_if_eq C (tgt := 75) (n := 63) dX11_site_60 (by decide) rfl (fun h35 => ?_) (fun h35 => ?_)
          · exact rf_lv _ [0, 1, 2, 3, 4] rfl (r_X11_site_75 C K fu _ _ _ _ _)
          · refine rf_iload C (n := 65) (q := 4) dX11_site_63 rfl rfl ?_
            refine rf_callSi C (n := 68) (c_X11_isHour G fu _ _) sw_RX11_81 ⟨by decide, by decide⟩ rfl (Nat.le_of_ble_eq_true rfl) rfl dX11_site_65 rfl (fun y36 m37 => ?_)
            refine rf_if_eq C (tgt := 75) (n := 71) dX11_site_68 (by decide) rfl (fun h38 => ?_) (fun h38 => ?_)
            · exact rf_lv _ [0, 1, 2, 3, 4] rfl (r_X11_site_75 C K fu _ _ _ _ _)
            · refine rf_iconst C (n := 72) (v := 1) dX11_site_71 rfl (by decide) ?_
              refine rf_goto C (n := 76) dX11_site_72 (by decide) ?_
              exact rf_lv _ [0, 1, 2, 3, 4] rfl (r_X11_site_76 C K fu _ _ _ _ _ _)
noncomputable def f_X11_together_115 (fu : Nat) (x1 : Int32) (x2 : Int32) (x3 : Int32) (x4 : Int32) (x5 : Int32) (x6 : Int32) (m : hM) : Option (Int32 × hM) :=
  hLet (sI m 117 0 0) fun m17 =>
if hIn x1 6 then (
hLet (sI m17 103 (Int32.toNatClampNeg x1) 63) fun m19 =>
hBd (f_J9_min_7cf53 fu 9 x6 m19) fun y20 m21 =>
if hIn x1 6 then (
hLet (sI m21 102 (Int32.toNatClampNeg x1) y20) fun m23 =>
hLet (sI m23 96 37 1) fun m24 =>
hBd (f_X11_putsBy fu m24) fun _ m25 =>
hBd (f_X11_begins fu x2 m25) fun _ m26 =>
hBd (f_X11_tellsEnd fu m26) fun y27 m28 =>
hBd (f_X11_takesBack fu m28) fun _ m29 =>
hLet (sI m29 96 37 0) fun m30 =>
if hIn x1 6 then (
hLet (sI m30 102 (Int32.toNatClampNeg x1) x5) fun m32 =>
if hIn x1 6 then (
hLet (sI m32 103 (Int32.toNatClampNeg x1) x4) fun m34 =>
hLet (sI m34 117 0 x3) fun m35 =>
hBd (f_X11_givesBorn fu m35) fun _ m36 =>
some (y27, m36)) else none) else none) else none) else none
set_option maxRecDepth 100000 in
set_option maxHeartbeats 4000000 in
theorem r_X11_together_115 {G : hG} {X : hX} (C : Cx G X 12 cX11_together 8 RX11 (some .int)) (K : Cr G X) (fu : Nat) (x1 : Int32) (x2 : Int32) (x3 : Int32) (x4 : Int32) (x5 : Int32) (x6 : Int32) (m : hM) : Rf vI G X 115 [(0, hA G 96), (1, .int x1), (2, .int x2), (3, .int x3), (4, .int x4), (5, .int x5), (6, .int x6)] [] m (f_X11_together_115 fu x1 x2 x3 x4 x5 x6 m) := by
  unfold f_X11_together_115
  refine rf_aload_n C (n := 116) (q := 0) dX11_together_115 rfl rfl rfl ?_
  refine rf_getS C (n := 119) fl_RX11_199 ly_96 rfl dX11_together_116 rfl ?_
  refine rf_iconst C (n := 120) (v := 0) dX11_together_119 rfl (by decide) ?_
  refine rf_iconst C (n := 121) (v := 0) dX11_together_120 rfl (by decide) ?_
  refine rf_iast C (n := 122) (j0 := 0) ly_117 (by decide) (by decide) dX11_together_121 rfl ?_
  refine rf_letM (fun m17 => ?_)
  refine rf_aload_n C (n := 123) (q := 0) dX11_together_122 rfl rfl rfl ?_
  refine rf_getS C (n := 126) fl_RX11_47 ly_96 rfl dX11_together_123 rfl ?_
  refine rf_iload_n C (n := 127) (q := 1) dX11_together_126 rfl rfl rfl ?_
  refine rf_bipush C (n := 129) (v := 63) dX11_together_127 rfl (by decide) ?_
  refine rf_guard (fun h18 => ?_)
  refine rf_iast C (n := 130) ly_103 h18 rfl dX11_together_129 rfl ?_
  refine rf_letM (fun m19 => ?_)
  refine rf_aload_n C (n := 131) (q := 0) dX11_together_130 rfl rfl rfl ?_
  refine rf_getS C (n := 134) fl_RX11_44 ly_96 rfl dX11_together_131 rfl ?_
  refine rf_iload_n C (n := 135) (q := 1) dX11_together_134 rfl rfl rfl ?_
  refine rf_bipush C (n := 137) (v := 9) dX11_together_135 rfl (by decide) ?_
  refine rf_iload C (n := 139) (q := 6) dX11_together_137 rfl rfl ?_
  refine rf_callSi C (n := 142) (c_J9_min_7cf53 G fu _ _ _) sw_RX11_95 ⟨by decide, by decide⟩ rfl (Nat.le_of_ble_eq_true rfl) rfl dX11_together_139 rfl (fun y20 m21 => ?_)
  refine rf_guard (fun h22 => ?_)
  refine rf_iast C (n := 143) ly_102 h22 rfl dX11_together_142 rfl ?_
  refine rf_letM (fun m23 => ?_)
  refine rf_aload_n C (n := 144) (q := 0) dX11_together_143 rfl rfl rfl ?_
  refine rf_iconst C (n := 145) (v := 1) dX11_together_144 rfl (by decide) ?_
  refine rf_putI C (n := 148) pl_RX11_271 ly_96 rfl ⟨rfl, rfl⟩ dX11_together_145 rfl ?_
  refine rf_letM (fun m24 => ?_)
  refine rf_aload_n C (n := 149) (q := 0) dX11_together_148 rfl rfl rfl ?_
  refine rf_aload_n C (n := 150) (q := 0) dX11_together_149 rfl rfl rfl ?_
  refine rf_getS C (n := 153) fl_RX11_322 ly_96 rfl dX11_together_150 rfl ?_
  refine rf_callVv C (n := 156) (c_X11_putsBy G fu _) mw_RX11_325 ly_96 rfl ⟨by decide, by decide⟩ rfl (Nat.le_of_ble_eq_true rfl) rfl dX11_together_153 rfl (fun _ m25 => ?_)
  refine rf_aload_n C (n := 157) (q := 0) dX11_together_156 rfl rfl rfl ?_
  refine rf_iload_n C (n := 158) (q := 2) dX11_together_157 rfl rfl rfl ?_
  refine rf_callVv C (n := 161) (c_X11_begins G fu _ _) mw_RX11_303 ly_96 rfl ⟨by decide, by decide⟩ rfl (Nat.le_of_ble_eq_true rfl) rfl dX11_together_158 rfl (fun _ m26 => ?_)
  refine rf_aload_n C (n := 162) (q := 0) dX11_together_161 rfl rfl rfl ?_
  refine rf_callVi C (n := 165) (c_X11_tellsEnd G fu _) mw_RX11_329 ly_96 rfl ⟨by decide, by decide⟩ rfl (Nat.le_of_ble_eq_true rfl) rfl dX11_together_162 rfl (fun y27 m28 => ?_)
  refine rf_istore C (n := 167) [(7, .int y27), (0, hA G 96), (1, .int x1), (2, .int x2), (3, .int x3), (4, .int x4), (5, .int x5), (6, .int x6)] dX11_together_165 rfl (by decide) rfl ?_
  refine rf_aload_n C (n := 168) (q := 1) dX11_together_167 rfl rfl rfl ?_
  refine rf_aload_n C (n := 169) (q := 1) dX11_together_168 rfl rfl rfl ?_
  refine rf_getS C (n := 172) fl_RX11_322 ly_96 rfl dX11_together_169 rfl ?_
  refine rf_callVv C (n := 175) (c_X11_takesBack G fu _) mw_RX11_332 ly_96 rfl ⟨by decide, by decide⟩ rfl (Nat.le_of_ble_eq_true rfl) rfl dX11_together_172 rfl (fun _ m29 => ?_)
  refine rf_aload_n C (n := 176) (q := 1) dX11_together_175 rfl rfl rfl ?_
  refine rf_iconst C (n := 177) (v := 0) dX11_together_176 rfl (by decide) ?_
  refine rf_putI C (n := 180) pl_RX11_271 ly_96 rfl ⟨rfl, rfl⟩ dX11_together_177 rfl ?_
  refine rf_letM (fun m30 => ?_)
  refine rf_aload_n C (n := 181) (q := 1) dX11_together_180 rfl rfl rfl ?_
  refine rf_getS C (n := 184) fl_RX11_44 ly_96 rfl dX11_together_181 rfl ?_
  refine rf_iload_n C (n := 185) (q := 2) dX11_together_184 rfl rfl rfl ?_
  refine rf_iload C (n := 187) (q := 6) dX11_together_185 rfl rfl ?_
  refine rf_guard (fun h31 => ?_)
  refine rf_iast C (n := 188) ly_102 h31 rfl dX11_together_187 rfl ?_
  refine rf_letM (fun m32 => ?_)
  refine rf_aload_n C (n := 189) (q := 1) dX11_together_188 rfl rfl rfl ?_
  refine rf_getS C (n := 192) fl_RX11_47 ly_96 rfl dX11_together_189 rfl ?_
  refine rf_iload_n C (n := 193) (q := 2) dX11_together_192 rfl rfl rfl ?_
  refine rf_iload C (n := 195) (q := 5) dX11_together_193 rfl rfl ?_
  refine rf_guard (fun h33 => ?_)
  refine rf_iast C (n := 196) ly_103 h33 rfl dX11_together_195 rfl ?_
  refine rf_letM (fun m34 => ?_)
  refine rf_aload_n C (n := 197) (q := 1) dX11_together_196 rfl rfl rfl ?_
  refine rf_getS C (n := 200) fl_RX11_199 ly_96 rfl dX11_together_197 rfl ?_
  refine rf_iconst C (n := 201) (v := 0) dX11_together_200 rfl (by decide) ?_
  refine rf_iload_n C (n := 202) (q := 4) dX11_together_201 rfl rfl rfl ?_
  refine rf_iast C (n := 203) (j0 := 0) ly_117 (by decide) (by decide) dX11_together_202 rfl ?_
  refine rf_letM (fun m35 => ?_)
  refine rf_aload_n C (n := 204) (q := 1) dX11_together_203 rfl rfl rfl ?_
  refine rf_callVv C (n := 207) (c_X11_givesBorn G fu _) mw_RX11_431 ly_96 rfl ⟨by decide, by decide⟩ rfl (Nat.le_of_ble_eq_true rfl) rfl dX11_together_204 rfl (fun _ m36 => ?_)
  refine rf_iload C (n := 209) (q := 0) dX11_together_207 rfl rfl ?_
  exact rf_iret C K dX11_together_209
noncomputable def s_X11_together_92 (fu : Nat) (ih : Int32 → Int32 → Int32 → Int32 → Int32 → Int32 → Int32 → hM → Option (Int32 × hM)) (x1 : Int32) (x2 : Int32) (x3 : Int32) (x4 : Int32) (x5 : Int32) (x6 : Int32) (x7 : Int32) (m : hM) : Option (Int32 × hM) :=
  if (gI m 96 16) ≤ x7 then (
f_X11_together_115 fu x1 x2 x3 x4 x5 x6 m) else (
if hIn x7 8 then (
hLet (sI m 111 (Int32.toNatClampNeg x7) x1) fun m38 =>
hLet (x7 + 1) fun y39 =>
ih x1 x2 x3 x4 x5 x6 y39 m38) else none)
noncomputable def f_X11_together_92 (fu : Nat) (n : Nat) : Int32 → Int32 → Int32 → Int32 → Int32 → Int32 → Int32 → hM → Option (Int32 × hM) :=
  Nat.rec (motive := fun _ => Int32 → Int32 → Int32 → Int32 → Int32 → Int32 → Int32 → hM → Option (Int32 × hM)) (fun _ _ _ _ _ _ _ _ => none) (fun _ ih => s_X11_together_92 fu ih) n
theorem f_X11_together_92_s (fu : Nat) (n : Nat) (x1 : Int32) (x2 : Int32) (x3 : Int32) (x4 : Int32) (x5 : Int32) (x6 : Int32) (x7 : Int32) (m : hM) : f_X11_together_92 fu (n + 1) x1 x2 x3 x4 x5 x6 x7 m = s_X11_together_92 fu (f_X11_together_92 fu n) x1 x2 x3 x4 x5 x6 x7 m := rfl
set_option maxRecDepth 100000 in
set_option maxHeartbeats 4000000 in
theorem r_X11_together_92 {G : hG} {X : hX} (C : Cx G X 12 cX11_together 8 RX11 (some .int)) (K : Cr G X) (fu : Nat) (n : Nat) : ∀ (x1 : Int32) (x2 : Int32) (x3 : Int32) (x4 : Int32) (x5 : Int32) (x6 : Int32) (x7 : Int32) (m : hM), Rf vI G X 92 [(0, hA G 96), (1, .int x1), (2, .int x2), (3, .int x3), (4, .int x4), (5, .int x5), (6, .int x6), (7, .int x7)] [] m (f_X11_together_92 fu n x1 x2 x3 x4 x5 x6 x7 m) := by
  induction n with
  | zero => intros; exact rf_none
  | succ n ih =>
    intro x1 x2 x3 x4 x5 x6 x7 m
    show Rf vI G X 92 [(0, hA G 96), (1, .int x1), (2, .int x2), (3, .int x3), (4, .int x4), (5, .int x5), (6, .int x6), (7, .int x7)] [] m (s_X11_together_92 fu (f_X11_together_92 fu n) x1 x2 x3 x4 x5 x6 x7 m)
    unfold s_X11_together_92
    refine rf_iload C (n := 94) (q := 7) dX11_together_92 rfl rfl ?_
    refine rf_aload_n C (n := 95) (q := 0) dX11_together_94 rfl rfl rfl ?_
    refine rf_getI C (n := 98) fl_RX11_151 ly_96 rfl dX11_together_95 rfl ?_
    refine rf_icmp_ge C (tgt := 115) (n := 101) dX11_together_98 (by decide) rfl (fun h16 => ?_) (fun h16 => ?_)
    · exact rf_lv _ [0, 1, 2, 3, 4, 5, 6] rfl (r_X11_together_115 C K fu _ _ _ _ _ _ _)
    · refine rf_aload_n C (n := 102) (q := 0) dX11_together_101 rfl rfl rfl ?_
      refine rf_getS C (n := 105) fl_RX11_143 ly_96 rfl dX11_together_102 rfl ?_
      refine rf_iload C (n := 107) (q := 7) dX11_together_105 rfl rfl ?_
      refine rf_iload_n C (n := 108) (q := 1) dX11_together_107 rfl rfl rfl ?_
      refine rf_guard (fun h37 => ?_)
      refine rf_iast C (n := 109) ly_111 h37 rfl dX11_together_108 rfl ?_
      refine rf_letM (fun m38 => ?_)
      refine rf_iinc2 C (n := 112) (q := 7) (fun y39 => [(7, .int y39), (0, hA G 96), (1, .int x1), (2, .int x2), (3, .int x3), (4, .int x4), (5, .int x5), (6, .int x6)]) dX11_together_109 rfl rfl (by decide) (by decide) (fun _ => rfl) (fun y39 => ?_)
      refine rf_goto C (n := 92) dX11_together_112 (by decide) ?_
      exact rf_lv _ [1, 2, 3, 4, 5, 6, 7, 0] rfl (ih _ _ _ _ _ _ _ _)
noncomputable def f_X11_together_85 (fu : Nat) (x1 : Int32) (x2 : Int32) (x3 : Int32) (x4 : Int32) (x5 : Int32) (x6 : Int32) (m : hM) : Option (Int32 × hM) :=
  hBd (f_X11_keepsBorn fu m) fun _ m15 =>
f_X11_together_92 fu fu x1 x2 x3 x4 x5 x6 0 m15
set_option maxRecDepth 100000 in
set_option maxHeartbeats 4000000 in
theorem r_X11_together_85 {G : hG} {X : hX} (C : Cx G X 12 cX11_together 8 RX11 (some .int)) (K : Cr G X) (fu : Nat) (x1 : Int32) (x2 : Int32) (x3 : Int32) (x4 : Int32) (x5 : Int32) (x6 : Int32) (m : hM) : Rf vI G X 85 [(0, hA G 96), (1, .int x1), (2, .int x2), (3, .int x3), (4, .int x4), (5, .int x5), (6, .int x6)] [] m (f_X11_together_85 fu x1 x2 x3 x4 x5 x6 m) := by
  unfold f_X11_together_85
  refine rf_aload_n C (n := 86) (q := 0) dX11_together_85 rfl rfl rfl ?_
  refine rf_callVv C (n := 89) (c_X11_keepsBorn G fu _) mw_RX11_419 ly_96 rfl ⟨by decide, by decide⟩ rfl (Nat.le_of_ble_eq_true rfl) rfl dX11_together_86 rfl (fun _ m15 => ?_)
  refine rf_iconst C (n := 90) (v := 0) dX11_together_89 rfl (by decide) ?_
  refine rf_istore C (n := 92) [(7, .int 0), (0, hA G 96), (1, .int x1), (2, .int x2), (3, .int x3), (4, .int x4), (5, .int x5), (6, .int x6)] dX11_together_90 rfl (by decide) rfl ?_
  exact rf_lv _ [1, 2, 3, 4, 5, 6, 7, 0] rfl (r_X11_together_92 C K fu fu _ _ _ _ _ _ _ _)
noncomputable def s_X11_together_58 (fu : Nat) (ih : Int32 → Int32 → Int32 → Int32 → Int32 → Int32 → Int32 → hM → Option (Int32 × hM)) (x1 : Int32) (x2 : Int32) (x3 : Int32) (x4 : Int32) (x5 : Int32) (x6 : Int32) (x7 : Int32) (m : hM) : Option (Int32 × hM) :=
  if (gI m 96 3) ≤ x7 then (
f_X11_together_85 fu x1 x2 x3 x4 x5 x6 m) else (
if hIn x7 6 then (
hLet (x6 + (gI m 102 (Int32.toNatClampNeg x7))) fun y41 =>
hLet (x7 + 1) fun y42 =>
ih x1 x2 x3 x4 x5 y41 y42 m) else none)
noncomputable def f_X11_together_58 (fu : Nat) (n : Nat) : Int32 → Int32 → Int32 → Int32 → Int32 → Int32 → Int32 → hM → Option (Int32 × hM) :=
  Nat.rec (motive := fun _ => Int32 → Int32 → Int32 → Int32 → Int32 → Int32 → Int32 → hM → Option (Int32 × hM)) (fun _ _ _ _ _ _ _ _ => none) (fun _ ih => s_X11_together_58 fu ih) n
theorem f_X11_together_58_s (fu : Nat) (n : Nat) (x1 : Int32) (x2 : Int32) (x3 : Int32) (x4 : Int32) (x5 : Int32) (x6 : Int32) (x7 : Int32) (m : hM) : f_X11_together_58 fu (n + 1) x1 x2 x3 x4 x5 x6 x7 m = s_X11_together_58 fu (f_X11_together_58 fu n) x1 x2 x3 x4 x5 x6 x7 m := rfl
set_option maxRecDepth 100000 in
set_option maxHeartbeats 4000000 in
theorem r_X11_together_58 {G : hG} {X : hX} (C : Cx G X 12 cX11_together 8 RX11 (some .int)) (K : Cr G X) (fu : Nat) (n : Nat) : ∀ (x1 : Int32) (x2 : Int32) (x3 : Int32) (x4 : Int32) (x5 : Int32) (x6 : Int32) (x7 : Int32) (m : hM), Rf vI G X 58 [(0, hA G 96), (1, .int x1), (2, .int x2), (3, .int x3), (4, .int x4), (5, .int x5), (6, .int x6), (7, .int x7)] [] m (f_X11_together_58 fu n x1 x2 x3 x4 x5 x6 x7 m) := by
  induction n with
  | zero => intros; exact rf_none
  | succ n ih =>
    intro x1 x2 x3 x4 x5 x6 x7 m
    show Rf vI G X 58 [(0, hA G 96), (1, .int x1), (2, .int x2), (3, .int x3), (4, .int x4), (5, .int x5), (6, .int x6), (7, .int x7)] [] m (s_X11_together_58 fu (f_X11_together_58 fu n) x1 x2 x3 x4 x5 x6 x7 m)
    unfold s_X11_together_58
    refine rf_iload C (n := 60) (q := 7) dX11_together_58 rfl rfl ?_
    refine rf_aload_n C (n := 61) (q := 0) dX11_together_60 rfl rfl rfl ?_
    refine rf_getI C (n := 64) fl_RX11_22 ly_96 rfl dX11_together_61 rfl ?_
    refine rf_icmp_ge C (tgt := 85) (n := 67) dX11_together_64 (by decide) rfl (fun h14 => ?_) (fun h14 => ?_)
    · exact rf_lv _ [0, 1, 2, 3, 4, 5, 6] rfl (r_X11_together_85 C K fu _ _ _ _ _ _ _)
    · refine rf_iload C (n := 69) (q := 6) dX11_together_67 rfl rfl ?_
      refine rf_aload_n C (n := 70) (q := 0) dX11_together_69 rfl rfl rfl ?_
      refine rf_getS C (n := 73) fl_RX11_44 ly_96 rfl dX11_together_70 rfl ?_
      refine rf_iload C (n := 75) (q := 7) dX11_together_73 rfl rfl ?_
      refine rf_guard (fun h40 => ?_)
      refine rf_iald C (n := 76) ly_102 h40 rfl dX11_together_75 rfl ?_
      refine rf_iadd C (n := 77) dX11_together_76 rfl ?_
      refine rf_letI (fun y41 => ?_)
      refine rf_istore C (n := 79) [(6, .int y41), (0, hA G 96), (1, .int x1), (2, .int x2), (3, .int x3), (4, .int x4), (5, .int x5), (7, .int x7)] dX11_together_77 rfl (by decide) rfl ?_
      refine rf_iinc2 C (n := 82) (q := 7) (fun y42 => [(7, .int y42), (6, .int y41), (0, hA G 96), (1, .int x1), (2, .int x2), (3, .int x3), (4, .int x4), (5, .int x5)]) dX11_together_79 rfl rfl (by decide) (by decide) (fun _ => rfl) (fun y42 => ?_)
      refine rf_goto C (n := 58) dX11_together_82 (by decide) ?_
      exact rf_lv _ [2, 3, 4, 5, 6, 7, 1, 0] rfl (ih _ _ _ _ _ _ _ _)
noncomputable def f_X11_together (fu : Nat) (x1 : Int32) (x2 : Int32) (m : hM) : Option (Int32 × hM) :=
  hLet (sI m 96 0 0) fun m1 =>
hBd (f_X11_isOffice fu x1 m1) fun y2 m3 =>
if y2 = 0 then (
some ((-1), m3)) else (
hBd (f_X11_isHour fu x2 m3) fun y5 m6 =>
if y5 = 0 then (
some ((-1), m6)) else (
if ¬ (gI m6 96 16) = 0 then (
hLet (gI m6 117 0) fun y9 =>
if hIn x1 6 then (
hLet (gI m6 103 (Int32.toNatClampNeg x1)) fun y11 =>
if hIn x1 6 then (
hLet (gI m6 102 (Int32.toNatClampNeg x1)) fun y13 =>
f_X11_together_58 fu fu x1 x2 y9 y11 y13 0 0 m6) else none) else none) else (
some ((-1), m6))))
set_option maxRecDepth 100000 in
set_option maxHeartbeats 4000000 in
theorem c_X11_together (G : hG) (fu : Nat) (x1 : Int32) (x2 : Int32) (m : hM) : Mt vI G 12 yX11_together cX11_together 8 (some .int) [hA G 96, .int x1, .int x2] m (f_X11_together fu x1 x2 m) := by
  refine mt_of (by decide +kernel) (Nat.le_of_ble_eq_true rfl) (fun X C K => ?_)
  have C : Cx G X 12 cX11_together 8 RX11 (some .int) := C
  show Rf vI G X 0 [(0, hA G 96), (1, .int x1), (2, .int x2)] [] m _
  unfold f_X11_together
  refine rf_aload_n C (n := 1) (q := 0) dX11_together_0 rfl rfl rfl ?_
  refine rf_iconst C (n := 2) (v := 0) dX11_together_1 rfl (by decide) ?_
  refine rf_putI C (n := 5) pl_RX11_3 ly_96 rfl ⟨rfl, rfl⟩ dX11_together_2 rfl ?_
  refine rf_letM (fun m1 => ?_)
  refine rf_aload_n C (n := 6) (q := 0) dX11_together_5 rfl rfl rfl ?_
  refine rf_iload_n C (n := 7) (q := 1) dX11_together_6 rfl rfl rfl ?_
  refine rf_callVi C (n := 10) (c_X11_isOffice G fu _ _) mw_RX11_77 ly_96 rfl ⟨by decide, by decide⟩ rfl (Nat.le_of_ble_eq_true rfl) rfl dX11_together_7 rfl (fun y2 m3 => ?_)
  refine rf_if_eq C (tgt := 27) (n := 13) dX11_together_10 (by decide) rfl (fun h4 => ?_) (fun h4 => ?_)
  · refine rf_iconst C (n := 28) (v := (-1)) dX11_together_27 rfl (by decide) ?_
    exact rf_iret C K dX11_together_28
  · refine rf_iload_n C (n := 14) (q := 2) dX11_together_13 rfl rfl rfl ?_
    refine rf_callSi C (n := 17) (c_X11_isHour G fu _ _) sw_RX11_81 ⟨by decide, by decide⟩ rfl (Nat.le_of_ble_eq_true rfl) rfl dX11_together_14 rfl (fun y5 m6 => ?_)
    refine rf_if_eq C (tgt := 27) (n := 20) dX11_together_17 (by decide) rfl (fun h7 => ?_) (fun h7 => ?_)
    · refine rf_iconst C (n := 28) (v := (-1)) dX11_together_27 rfl (by decide) ?_
      exact rf_iret C K dX11_together_28
    · refine rf_aload_n C (n := 21) (q := 0) dX11_together_20 rfl rfl rfl ?_
      refine rf_getI C (n := 24) fl_RX11_151 ly_96 rfl dX11_together_21 rfl ?_
      refine rf_if_ne C (tgt := 29) (n := 27) dX11_together_24 (by decide) rfl (fun h8 => ?_) (fun h8 => ?_)
      · refine rf_aload_n C (n := 30) (q := 0) dX11_together_29 rfl rfl rfl ?_
        refine rf_getS C (n := 33) fl_RX11_199 ly_96 rfl dX11_together_30 rfl ?_
        refine rf_iconst C (n := 34) (v := 0) dX11_together_33 rfl (by decide) ?_
        refine rf_iald C (n := 35) (j := 0) ly_117 (by decide) (by decide) dX11_together_34 rfl ?_
        refine rf_letI (fun y9 => ?_)
        refine rf_istore_n C (n := 36) [(3, .int y9), (0, hA G 96), (1, .int x1), (2, .int x2)] dX11_together_35 rfl rfl (by decide) rfl ?_
        refine rf_aload_n C (n := 37) (q := 1) dX11_together_36 rfl rfl rfl ?_
        refine rf_getS C (n := 40) fl_RX11_47 ly_96 rfl dX11_together_37 rfl ?_
        refine rf_iload_n C (n := 41) (q := 2) dX11_together_40 rfl rfl rfl ?_
        refine rf_guard (fun h10 => ?_)
        refine rf_iald C (n := 42) ly_103 h10 rfl dX11_together_41 rfl ?_
        refine rf_letI (fun y11 => ?_)
        refine rf_istore C (n := 44) [(4, .int y11), (3, .int y9), (0, hA G 96), (1, .int x1), (2, .int x2)] dX11_together_42 rfl (by decide) rfl ?_
        refine rf_aload_n C (n := 45) (q := 2) dX11_together_44 rfl rfl rfl ?_
        refine rf_getS C (n := 48) fl_RX11_44 ly_96 rfl dX11_together_45 rfl ?_
        refine rf_iload_n C (n := 49) (q := 3) dX11_together_48 rfl rfl rfl ?_
        refine rf_guard (fun h12 => ?_)
        refine rf_iald C (n := 50) ly_102 h12 rfl dX11_together_49 rfl ?_
        refine rf_letI (fun y13 => ?_)
        refine rf_istore C (n := 52) [(5, .int y13), (4, .int y11), (3, .int y9), (0, hA G 96), (1, .int x1), (2, .int x2)] dX11_together_50 rfl (by decide) rfl ?_
        refine rf_iconst C (n := 53) (v := 0) dX11_together_52 rfl (by decide) ?_
        refine rf_istore C (n := 55) [(6, .int 0), (5, .int y13), (4, .int y11), (3, .int y9), (0, hA G 96), (1, .int x1), (2, .int x2)] dX11_together_53 rfl (by decide) rfl ?_
        refine rf_iconst C (n := 56) (v := 0) dX11_together_55 rfl (by decide) ?_
        refine rf_istore C (n := 58) [(7, .int 0), (6, .int 0), (5, .int y13), (4, .int y11), (3, .int y9), (0, hA G 96), (1, .int x1), (2, .int x2)] dX11_together_56 rfl (by decide) rfl ?_
        exact rf_lv _ [5, 6, 7, 4, 3, 2, 1, 0] rfl (r_X11_together_58 C K fu fu _ _ _ _ _ _ _ _)
      · refine rf_iconst C (n := 28) (v := (-1)) dX11_together_27 rfl (by decide) ?_
        exact rf_iret C K dX11_together_28
noncomputable def f_X11_endsOn (fu : Nat) (x1 : Int32) (x2 : Int32) (m : hM) : Option (Int32 × hM) :=
  if hIn ((100 * x1) + x2) 600 then (
hLet (sI m 106 (Int32.toNatClampNeg ((100 * x1) + x2)) (vp_nar .boolean 1)) fun m2 =>
hBd (f_X11_endsNow fu m2) fun y3 m4 =>
if hIn ((100 * x1) + x2) 600 then (
hLet (sI m4 106 (Int32.toNatClampNeg ((100 * x1) + x2)) (vp_nar .boolean 0)) fun m6 =>
some (y3, m6)) else none) else none
set_option maxRecDepth 100000 in
set_option maxHeartbeats 4000000 in
theorem c_X11_endsOn (G : hG) (fu : Nat) (x1 : Int32) (x2 : Int32) (m : hM) : Mt vI G 12 yX11_endsOn cX11_endsOn 4 (some .int) [hA G 96, .int x1, .int x2] m (f_X11_endsOn fu x1 x2 m) := by
  refine mt_of (by decide +kernel) (Nat.le_of_ble_eq_true rfl) (fun X C K => ?_)
  have C : Cx G X 12 cX11_endsOn 4 RX11 (some .int) := C
  show Rf vI G X 0 [(0, hA G 96), (1, .int x1), (2, .int x2)] [] m _
  unfold f_X11_endsOn
  refine rf_aload_n C (n := 1) (q := 0) dX11_endsOn_0 rfl rfl rfl ?_
  refine rf_getS C (n := 4) fl_RX11_56 ly_96 rfl dX11_endsOn_1 rfl ?_
  refine rf_bipush C (n := 6) (v := 100) dX11_endsOn_4 rfl (by decide) ?_
  refine rf_iload_n C (n := 7) (q := 1) dX11_endsOn_6 rfl rfl rfl ?_
  refine rf_imul C (n := 8) dX11_endsOn_7 rfl ?_
  refine rf_iload_n C (n := 9) (q := 2) dX11_endsOn_8 rfl rfl rfl ?_
  refine rf_iadd C (n := 10) dX11_endsOn_9 rfl ?_
  refine rf_iconst C (n := 11) (v := 1) dX11_endsOn_10 rfl (by decide) ?_
  refine rf_guard (fun h1 => ?_)
  refine rf_zast C (n := 12) ly_106 h1 rfl dX11_endsOn_11 rfl ?_
  refine rf_letM (fun m2 => ?_)
  refine rf_aload_n C (n := 13) (q := 0) dX11_endsOn_12 rfl rfl rfl ?_
  refine rf_callVi C (n := 16) (c_X11_endsNow G fu _) mw_RX11_463 ly_96 rfl ⟨by decide, by decide⟩ rfl (Nat.le_of_ble_eq_true rfl) rfl dX11_endsOn_13 rfl (fun y3 m4 => ?_)
  refine rf_istore_n C (n := 17) [(3, .int y3), (0, hA G 96), (1, .int x1), (2, .int x2)] dX11_endsOn_16 rfl rfl (by decide) rfl ?_
  refine rf_aload_n C (n := 18) (q := 1) dX11_endsOn_17 rfl rfl rfl ?_
  refine rf_getS C (n := 21) fl_RX11_56 ly_96 rfl dX11_endsOn_18 rfl ?_
  refine rf_bipush C (n := 23) (v := 100) dX11_endsOn_21 rfl (by decide) ?_
  refine rf_iload_n C (n := 24) (q := 2) dX11_endsOn_23 rfl rfl rfl ?_
  refine rf_imul C (n := 25) dX11_endsOn_24 rfl ?_
  refine rf_iload_n C (n := 26) (q := 3) dX11_endsOn_25 rfl rfl rfl ?_
  refine rf_iadd C (n := 27) dX11_endsOn_26 rfl ?_
  refine rf_iconst C (n := 28) (v := 0) dX11_endsOn_27 rfl (by decide) ?_
  refine rf_guard (fun h5 => ?_)
  refine rf_zast C (n := 29) ly_106 h5 rfl dX11_endsOn_28 rfl ?_
  refine rf_letM (fun m6 => ?_)
  refine rf_iload_n C (n := 30) (q := 0) dX11_endsOn_29 rfl rfl rfl ?_
  exact rf_iret C K dX11_endsOn_30
noncomputable def f_X11_sleeps (fu : Nat) (x1 : Int32) (x2 : Int32) (m : hM) : Option (Int32 × hM) :=
  hLet (sI m 96 0 0) fun m1 =>
hBd (f_X11_isOffice fu x1 m1) fun y2 m3 =>
if y2 = 0 then (
some ((-1), m3)) else (
hBd (f_X11_isDay fu x2 m3) fun y5 m6 =>
if y5 = 0 then (
some ((-1), m6)) else (
if ¬ (gI m6 96 16) = 0 then (
if hIn ((100 * x1) + x2) 600 then (
if (gI m6 106 (Int32.toNatClampNeg ((100 * x1) + x2))) = 0 then (
hBd (f_X11_endsNow fu m6) fun y11 m12 =>
hBd (f_X11_endsOn fu x1 x2 m12) fun y13 m14 =>
if y13 < 0 then (
some ((-9999), m14)) else (
if 0 ≤ y11 then (
some (y13 - y11, m14)) else (
some ((-9999), m14)))) else (
some ((-9998), m6))) else none) else (
some ((-1), m6))))
set_option maxRecDepth 100000 in
set_option maxHeartbeats 4000000 in
theorem c_X11_sleeps (G : hG) (fu : Nat) (x1 : Int32) (x2 : Int32) (m : hM) : Mt vI G 13 yX11_sleeps cX11_sleeps 5 (some .int) [hA G 96, .int x1, .int x2] m (f_X11_sleeps fu x1 x2 m) := by
  refine mt_of (by decide +kernel) (Nat.le_of_ble_eq_true rfl) (fun X C K => ?_)
  have C : Cx G X 13 cX11_sleeps 5 RX11 (some .int) := C
  show Rf vI G X 0 [(0, hA G 96), (1, .int x1), (2, .int x2)] [] m _
  unfold f_X11_sleeps
  refine rf_aload_n C (n := 1) (q := 0) dX11_sleeps_0 rfl rfl rfl ?_
  refine rf_iconst C (n := 2) (v := 0) dX11_sleeps_1 rfl (by decide) ?_
  refine rf_putI C (n := 5) pl_RX11_3 ly_96 rfl ⟨rfl, rfl⟩ dX11_sleeps_2 rfl ?_
  refine rf_letM (fun m1 => ?_)
  refine rf_aload_n C (n := 6) (q := 0) dX11_sleeps_5 rfl rfl rfl ?_
  refine rf_iload_n C (n := 7) (q := 1) dX11_sleeps_6 rfl rfl rfl ?_
  refine rf_callVi C (n := 10) (c_X11_isOffice G fu _ _) mw_RX11_77 ly_96 rfl ⟨by decide, by decide⟩ rfl (Nat.le_of_ble_eq_true rfl) rfl dX11_sleeps_7 rfl (fun y2 m3 => ?_)
  refine rf_if_eq C (tgt := 27) (n := 13) dX11_sleeps_10 (by decide) rfl (fun h4 => ?_) (fun h4 => ?_)
  · refine rf_iconst C (n := 28) (v := (-1)) dX11_sleeps_27 rfl (by decide) ?_
    exact rf_iret C K dX11_sleeps_28
  · refine rf_iload_n C (n := 14) (q := 2) dX11_sleeps_13 rfl rfl rfl ?_
    refine rf_callSi C (n := 17) (c_X11_isDay G fu _ _) sw_RX11_86 ⟨by decide, by decide⟩ rfl (Nat.le_of_ble_eq_true rfl) rfl dX11_sleeps_14 rfl (fun y5 m6 => ?_)
    refine rf_if_eq C (tgt := 27) (n := 20) dX11_sleeps_17 (by decide) rfl (fun h7 => ?_) (fun h7 => ?_)
    · refine rf_iconst C (n := 28) (v := (-1)) dX11_sleeps_27 rfl (by decide) ?_
      exact rf_iret C K dX11_sleeps_28
    · refine rf_aload_n C (n := 21) (q := 0) dX11_sleeps_20 rfl rfl rfl ?_
      refine rf_getI C (n := 24) fl_RX11_151 ly_96 rfl dX11_sleeps_21 rfl ?_
      refine rf_if_ne C (tgt := 29) (n := 27) dX11_sleeps_24 (by decide) rfl (fun h8 => ?_) (fun h8 => ?_)
      · refine rf_aload_n C (n := 30) (q := 0) dX11_sleeps_29 rfl rfl rfl ?_
        refine rf_getS C (n := 33) fl_RX11_56 ly_96 rfl dX11_sleeps_30 rfl ?_
        refine rf_bipush C (n := 35) (v := 100) dX11_sleeps_33 rfl (by decide) ?_
        refine rf_iload_n C (n := 36) (q := 1) dX11_sleeps_35 rfl rfl rfl ?_
        refine rf_imul C (n := 37) dX11_sleeps_36 rfl ?_
        refine rf_iload_n C (n := 38) (q := 2) dX11_sleeps_37 rfl rfl rfl ?_
        refine rf_iadd C (n := 39) dX11_sleeps_38 rfl ?_
        refine rf_guard (fun h9 => ?_)
        refine rf_zald C (n := 40) ly_106 h9 rfl dX11_sleeps_39 rfl ?_
        refine rf_if_eq C (tgt := 47) (n := 43) dX11_sleeps_40 (by decide) rfl (fun h10 => ?_) (fun h10 => ?_)
        · refine rf_aload_n C (n := 48) (q := 0) dX11_sleeps_47 rfl rfl rfl ?_
          refine rf_callVi C (n := 51) (c_X11_endsNow G fu _) mw_RX11_463 ly_96 rfl ⟨by decide, by decide⟩ rfl (Nat.le_of_ble_eq_true rfl) rfl dX11_sleeps_48 rfl (fun y11 m12 => ?_)
          refine rf_istore_n C (n := 52) [(3, .int y11), (0, hA G 96), (1, .int x1), (2, .int x2)] dX11_sleeps_51 rfl rfl (by decide) rfl ?_
          refine rf_aload_n C (n := 53) (q := 1) dX11_sleeps_52 rfl rfl rfl ?_
          refine rf_iload_n C (n := 54) (q := 2) dX11_sleeps_53 rfl rfl rfl ?_
          refine rf_iload_n C (n := 55) (q := 3) dX11_sleeps_54 rfl rfl rfl ?_
          refine rf_callVi C (n := 58) (c_X11_endsOn G fu _ _ _) mw_RX11_466 ly_96 rfl ⟨by decide, by decide⟩ rfl (Nat.le_of_ble_eq_true rfl) rfl dX11_sleeps_55 rfl (fun y13 m14 => ?_)
          refine rf_istore C (n := 60) [(4, .int y13), (3, .int y11), (0, hA G 96), (1, .int x1), (2, .int x2)] dX11_sleeps_58 rfl (by decide) rfl ?_
          refine rf_iload C (n := 62) (q := 0) dX11_sleeps_60 rfl rfl ?_
          refine rf_if_lt C (tgt := 69) (n := 65) dX11_sleeps_62 (by decide) rfl (fun h15 => ?_) (fun h15 => ?_)
          · refine rf_sipush C (n := 72) (v := (-9999)) dX11_sleeps_69 rfl (by decide) ?_
            refine rf_goto C (n := 79) dX11_sleeps_72 (by decide) ?_
            exact rf_iret C K dX11_sleeps_79
          · refine rf_iload_n C (n := 66) (q := 1) dX11_sleeps_65 rfl rfl rfl ?_
            refine rf_if_ge C (tgt := 75) (n := 69) dX11_sleeps_66 (by decide) rfl (fun h16 => ?_) (fun h16 => ?_)
            · refine rf_iload C (n := 77) (q := 0) dX11_sleeps_75 rfl rfl ?_
              refine rf_iload_n C (n := 78) (q := 1) dX11_sleeps_77 rfl rfl rfl ?_
              refine rf_isub C (n := 79) dX11_sleeps_78 rfl ?_
              exact rf_iret C K dX11_sleeps_79
            · refine rf_sipush C (n := 72) (v := (-9999)) dX11_sleeps_69 rfl (by decide) ?_
              refine rf_goto C (n := 79) dX11_sleeps_72 (by decide) ?_
              exact rf_iret C K dX11_sleeps_79
        · refine rf_sipush C (n := 46) (v := (-9998)) dX11_sleeps_43 rfl (by decide) ?_
          exact rf_iret C K dX11_sleeps_46
      · refine rf_iconst C (n := 28) (v := (-1)) dX11_sleeps_27 rfl (by decide) ?_
        exact rf_iret C K dX11_sleeps_28
