theorem dX10_riskiest_0 : decode cX10_riskiest 0 = .ok (.aload_n 0, 1) := by decide +kernel
theorem dX10_riskiest_1 : decode cX10_riskiest 1 = .ok (.getfield 65, 3) := by decide +kernel
theorem dX10_riskiest_4 : decode cX10_riskiest 4 = .ok (.getfield 361, 3) := by decide +kernel
theorem dX10_riskiest_7 : decode cX10_riskiest 7 = .ok (.ifCond .ne 6, 3) := by decide +kernel
theorem dX10_riskiest_10 : decode cX10_riskiest 10 = .ok (.bipush (-2), 2) := by decide +kernel
theorem dX10_riskiest_12 : decode cX10_riskiest 12 = .ok (.ireturn, 1) := by decide +kernel
theorem dX10_riskiest_13 : decode cX10_riskiest 13 = .ok (.iconst 0, 1) := by decide +kernel
theorem dX10_riskiest_14 : decode cX10_riskiest 14 = .ok (.istore_n 1, 1) := by decide +kernel
theorem dX10_riskiest_15 : decode cX10_riskiest 15 = .ok (.iconst 1, 1) := by decide +kernel
theorem dX10_riskiest_16 : decode cX10_riskiest 16 = .ok (.istore_n 2, 1) := by decide +kernel
theorem dX10_riskiest_17 : decode cX10_riskiest 17 = .ok (.iload_n 2, 1) := by decide +kernel
theorem dX10_riskiest_18 : decode cX10_riskiest 18 = .ok (.aload_n 0, 1) := by decide +kernel
theorem dX10_riskiest_19 : decode cX10_riskiest 19 = .ok (.getfield 65, 3) := by decide +kernel
theorem dX10_riskiest_22 : decode cX10_riskiest 22 = .ok (.getfield 361, 3) := by decide +kernel
theorem dX10_riskiest_25 : decode cX10_riskiest 25 = .ok (.if_icmp .ge 32, 3) := by decide +kernel
theorem dX10_riskiest_28 : decode cX10_riskiest 28 = .ok (.aload_n 0, 1) := by decide +kernel
theorem dX10_riskiest_29 : decode cX10_riskiest 29 = .ok (.getfield 65, 3) := by decide +kernel
theorem dX10_riskiest_32 : decode cX10_riskiest 32 = .ok (.getfield 369, 3) := by decide +kernel
theorem dX10_riskiest_35 : decode cX10_riskiest 35 = .ok (.iload_n 2, 1) := by decide +kernel
theorem dX10_riskiest_36 : decode cX10_riskiest 36 = .ok (.iaload, 1) := by decide +kernel
theorem dX10_riskiest_37 : decode cX10_riskiest 37 = .ok (.aload_n 0, 1) := by decide +kernel
theorem dX10_riskiest_38 : decode cX10_riskiest 38 = .ok (.getfield 65, 3) := by decide +kernel
theorem dX10_riskiest_41 : decode cX10_riskiest 41 = .ok (.getfield 369, 3) := by decide +kernel
theorem dX10_riskiest_44 : decode cX10_riskiest 44 = .ok (.iload_n 1, 1) := by decide +kernel
theorem dX10_riskiest_45 : decode cX10_riskiest 45 = .ok (.iaload, 1) := by decide +kernel
theorem dX10_riskiest_46 : decode cX10_riskiest 46 = .ok (.if_icmp .le 5, 3) := by decide +kernel
theorem dX10_riskiest_49 : decode cX10_riskiest 49 = .ok (.iload_n 2, 1) := by decide +kernel
theorem dX10_riskiest_50 : decode cX10_riskiest 50 = .ok (.istore_n 1, 1) := by decide +kernel
theorem dX10_riskiest_51 : decode cX10_riskiest 51 = .ok (.iinc 2 1, 3) := by decide +kernel
theorem dX10_riskiest_54 : decode cX10_riskiest 54 = .ok (.goto (-37), 3) := by decide +kernel
theorem dX10_riskiest_57 : decode cX10_riskiest 57 = .ok (.aload_n 0, 1) := by decide +kernel
theorem dX10_riskiest_58 : decode cX10_riskiest 58 = .ok (.getfield 83, 3) := by decide +kernel
theorem dX10_riskiest_61 : decode cX10_riskiest 61 = .ok (.invokevirtual 170, 3) := by decide +kernel
theorem dX10_riskiest_64 : decode cX10_riskiest 64 = .ok (.aload_n 0, 1) := by decide +kernel
theorem dX10_riskiest_65 : decode cX10_riskiest 65 = .ok (.getfield 83, 3) := by decide +kernel
theorem dX10_riskiest_68 : decode cX10_riskiest 68 = .ok (.aload_n 0, 1) := by decide +kernel
theorem dX10_riskiest_69 : decode cX10_riskiest 69 = .ok (.getfield 65, 3) := by decide +kernel
theorem dX10_riskiest_72 : decode cX10_riskiest 72 = .ok (.getfield 369, 3) := by decide +kernel
theorem dX10_riskiest_75 : decode cX10_riskiest 75 = .ok (.iload_n 1, 1) := by decide +kernel
theorem dX10_riskiest_76 : decode cX10_riskiest 76 = .ok (.iaload, 1) := by decide +kernel
theorem dX10_riskiest_77 : decode cX10_riskiest 77 = .ok (.i2l, 1) := by decide +kernel
theorem dX10_riskiest_78 : decode cX10_riskiest 78 = .ok (.invokevirtual 173, 3) := by decide +kernel
theorem dX10_riskiest_81 : decode cX10_riskiest 81 = .ok (.iload_n 1, 1) := by decide +kernel
theorem dX10_riskiest_82 : decode cX10_riskiest 82 = .ok (.ireturn, 1) := by decide +kernel
theorem dX10_site_0 : decode cX10_site 0 = .ok (.iload_n 1, 1) := by decide +kernel
theorem dX10_site_1 : decode cX10_site 1 = .ok (.iconst 1, 1) := by decide +kernel
theorem dX10_site_2 : decode cX10_site 2 = .ok (.if_icmp .lt 26, 3) := by decide +kernel
theorem dX10_site_5 : decode cX10_site 5 = .ok (.iload_n 1, 1) := by decide +kernel
theorem dX10_site_6 : decode cX10_site 6 = .ok (.bipush 16, 2) := by decide +kernel
theorem dX10_site_8 : decode cX10_site 8 = .ok (.if_icmp .gt 20, 3) := by decide +kernel
theorem dX10_site_11 : decode cX10_site 11 = .ok (.iload_n 2, 1) := by decide +kernel
theorem dX10_site_12 : decode cX10_site 12 = .ok (.invokestatic 98, 3) := by decide +kernel
theorem dX10_site_15 : decode cX10_site 15 = .ok (.ifCond .eq 13, 3) := by decide +kernel
theorem dX10_site_18 : decode cX10_site 18 = .ok (.iload_n 3, 1) := by decide +kernel
theorem dX10_site_19 : decode cX10_site 19 = .ok (.ifCond .lt 9, 3) := by decide +kernel
theorem dX10_site_22 : decode cX10_site 22 = .ok (.iload_n 3, 1) := by decide +kernel
theorem dX10_site_23 : decode cX10_site 23 = .ok (.bipush 9, 2) := by decide +kernel
theorem dX10_site_25 : decode cX10_site 25 = .ok (.if_icmp .le 5, 3) := by decide +kernel
theorem dX10_site_28 : decode cX10_site 28 = .ok (.iconst (-1), 1) := by decide +kernel
theorem dX10_site_29 : decode cX10_site 29 = .ok (.ireturn, 1) := by decide +kernel
theorem dX10_site_30 : decode cX10_site 30 = .ok (.iload 4, 2) := by decide +kernel
theorem dX10_site_32 : decode cX10_site 32 = .ok (.invokestatic 119, 3) := by decide +kernel
theorem dX10_site_35 : decode cX10_site 35 = .ok (.ifCond .eq 25, 3) := by decide +kernel
theorem dX10_site_38 : decode cX10_site 38 = .ok (.aload_n 0, 1) := by decide +kernel
theorem dX10_site_39 : decode cX10_site 39 = .ok (.getfield 12, 3) := by decide +kernel
theorem dX10_site_42 : decode cX10_site 42 = .ok (.getfield 95, 3) := by decide +kernel
theorem dX10_site_45 : decode cX10_site 45 = .ok (.bipush 6, 2) := by decide +kernel
theorem dX10_site_47 : decode cX10_site 47 = .ok (.if_icmp .ge 13, 3) := by decide +kernel
theorem dX10_site_50 : decode cX10_site 50 = .ok (.aload_n 0, 1) := by decide +kernel
theorem dX10_site_51 : decode cX10_site 51 = .ok (.getfield 19, 3) := by decide +kernel
theorem dX10_site_54 : decode cX10_site 54 = .ok (.getfield 177, 3) := by decide +kernel
theorem dX10_site_57 : decode cX10_site 57 = .ok (.ifCond .ne 5, 3) := by decide +kernel
theorem dX10_site_60 : decode cX10_site 60 = .ok (.iconst (-1), 1) := by decide +kernel
theorem dX10_site_61 : decode cX10_site 61 = .ok (.ireturn, 1) := by decide +kernel
theorem dX10_site_62 : decode cX10_site 62 = .ok (.aload_n 0, 1) := by decide +kernel
theorem dX10_site_63 : decode cX10_site 63 = .ok (.getfield 42, 3) := by decide +kernel
theorem dX10_site_66 : decode cX10_site 66 = .ok (.aload_n 0, 1) := by decide +kernel
theorem dX10_site_67 : decode cX10_site 67 = .ok (.iload 4, 2) := by decide +kernel
theorem dX10_site_69 : decode cX10_site 69 = .ok (.invokevirtual 323, 3) := by decide +kernel
theorem dX10_site_72 : decode cX10_site 72 = .ok (.sipush 2399, 3) := by decide +kernel
theorem dX10_site_75 : decode cX10_site 75 = .ok (.invokevirtual 270, 3) := by decide +kernel
theorem dX10_site_78 : decode cX10_site 78 = .ok (.istore 5, 2) := by decide +kernel
theorem dX10_site_80 : decode cX10_site 80 = .ok (.aload_n 0, 1) := by decide +kernel
theorem dX10_site_81 : decode cX10_site 81 = .ok (.getfield 12, 3) := by decide +kernel
theorem dX10_site_84 : decode cX10_site 84 = .ok (.getfield 95, 3) := by decide +kernel
theorem dX10_site_87 : decode cX10_site 87 = .ok (.istore 6, 2) := by decide +kernel
theorem dX10_site_89 : decode cX10_site 89 = .ok (.aload_n 0, 1) := by decide +kernel
theorem dX10_site_90 : decode cX10_site 90 = .ok (.getfield 12, 3) := by decide +kernel
theorem dX10_site_93 : decode cX10_site 93 = .ok (.iload 6, 2) := by decide +kernel
theorem dX10_site_95 : decode cX10_site 95 = .ok (.iconst 1, 1) := by decide +kernel
theorem dX10_site_96 : decode cX10_site 96 = .ok (.iadd, 1) := by decide +kernel
theorem dX10_site_97 : decode cX10_site 97 = .ok (.putfield 95, 3) := by decide +kernel
theorem dX10_site_100 : decode cX10_site 100 = .ok (.aload_n 0, 1) := by decide +kernel
theorem dX10_site_101 : decode cX10_site 101 = .ok (.getfield 12, 3) := by decide +kernel
theorem dX10_site_104 : decode cX10_site 104 = .ok (.iload 6, 2) := by decide +kernel
theorem dX10_site_106 : decode cX10_site 106 = .ok (.iload_n 3, 1) := by decide +kernel
theorem dX10_site_107 : decode cX10_site 107 = .ok (.invokevirtual 378, 3) := by decide +kernel
theorem dX10_site_110 : decode cX10_site 110 = .ok (.bipush (-2), 2) := by decide +kernel
theorem dX10_site_112 : decode cX10_site 112 = .ok (.istore 7, 2) := by decide +kernel
theorem dX10_site_114 : decode cX10_site 114 = .ok (.sipush 2400, 3) := by decide +kernel
theorem dX10_site_117 : decode cX10_site 117 = .ok (.istore 8, 2) := by decide +kernel
theorem dX10_site_119 : decode cX10_site 119 = .ok (.iconst 0, 1) := by decide +kernel
theorem dX10_site_120 : decode cX10_site 120 = .ok (.istore 9, 2) := by decide +kernel
theorem dX10_site_122 : decode cX10_site 122 = .ok (.iload 9, 2) := by decide +kernel
theorem dX10_site_124 : decode cX10_site 124 = .ok (.bipush 24, 2) := by decide +kernel
theorem dX10_site_126 : decode cX10_site 126 = .ok (.if_icmp .ge 80, 3) := by decide +kernel
theorem dX10_site_129 : decode cX10_site 129 = .ok (.aload_n 0, 1) := by decide +kernel
theorem dX10_site_130 : decode cX10_site 130 = .ok (.getfield 12, 3) := by decide +kernel
theorem dX10_site_133 : decode cX10_site 133 = .ok (.getfield 102, 3) := by decide +kernel
theorem dX10_site_136 : decode cX10_site 136 = .ok (.iload 6, 2) := by decide +kernel
theorem dX10_site_138 : decode cX10_site 138 = .ok (.aaload, 1) := by decide +kernel
theorem dX10_site_139 : decode cX10_site 139 = .ok (.iload 9, 2) := by decide +kernel
theorem dX10_site_141 : decode cX10_site 141 = .ok (.bipush 24, 2) := by decide +kernel
theorem dX10_site_143 : decode cX10_site 143 = .ok (.imul, 1) := by decide +kernel
theorem dX10_site_144 : decode cX10_site 144 = .ok (.bipush 9, 2) := by decide +kernel
theorem dX10_site_146 : decode cX10_site 146 = .ok (.iadd, 1) := by decide +kernel
theorem dX10_site_147 : decode cX10_site 147 = .ok (.iload_n 1, 1) := by decide +kernel
theorem dX10_site_148 : decode cX10_site 148 = .ok (.iconst 1, 1) := by decide +kernel
theorem dX10_site_149 : decode cX10_site 149 = .ok (.iload_n 2, 1) := by decide +kernel
theorem dX10_site_150 : decode cX10_site 150 = .ok (.invokevirtual 106, 3) := by decide +kernel
theorem dX10_site_153 : decode cX10_site 153 = .ok (.aload_n 0, 1) := by decide +kernel
theorem dX10_site_154 : decode cX10_site 154 = .ok (.getfield 12, 3) := by decide +kernel
theorem dX10_site_157 : decode cX10_site 157 = .ok (.iload 6, 2) := by decide +kernel
theorem dX10_site_159 : decode cX10_site 159 = .ok (.iconst 0, 1) := by decide +kernel
theorem dX10_site_160 : decode cX10_site 160 = .ok (.sipush 2500, 3) := by decide +kernel
theorem dX10_site_163 : decode cX10_site 163 = .ok (.invokevirtual 112, 3) := by decide +kernel
theorem dX10_site_166 : decode cX10_site 166 = .ok (.aload_n 0, 1) := by decide +kernel
theorem dX10_site_167 : decode cX10_site 167 = .ok (.getfield 42, 3) := by decide +kernel
theorem dX10_site_170 : decode cX10_site 170 = .ok (.aload_n 0, 1) := by decide +kernel
theorem dX10_site_171 : decode cX10_site 171 = .ok (.iload 4, 2) := by decide +kernel
theorem dX10_site_173 : decode cX10_site 173 = .ok (.invokevirtual 323, 3) := by decide +kernel
theorem dX10_site_176 : decode cX10_site 176 = .ok (.iload 8, 2) := by decide +kernel
theorem dX10_site_178 : decode cX10_site 178 = .ok (.iconst 1, 1) := by decide +kernel
theorem dX10_site_179 : decode cX10_site 179 = .ok (.isub, 1) := by decide +kernel
theorem dX10_site_180 : decode cX10_site 180 = .ok (.invokevirtual 270, 3) := by decide +kernel
theorem dX10_site_183 : decode cX10_site 183 = .ok (.istore 10, 2) := by decide +kernel
theorem dX10_site_185 : decode cX10_site 185 = .ok (.iload 10, 2) := by decide +kernel
theorem dX10_site_187 : decode cX10_site 187 = .ok (.bipush (-2), 2) := by decide +kernel
theorem dX10_site_189 : decode cX10_site 189 = .ok (.if_icmp .eq 11, 3) := by decide +kernel
theorem dX10_site_192 : decode cX10_site 192 = .ok (.iload 9, 2) := by decide +kernel
theorem dX10_site_194 : decode cX10_site 194 = .ok (.istore 7, 2) := by decide +kernel
theorem dX10_site_196 : decode cX10_site 196 = .ok (.iload 10, 2) := by decide +kernel
theorem dX10_site_198 : decode cX10_site 198 = .ok (.istore 8, 2) := by decide +kernel
theorem dX10_site_200 : decode cX10_site 200 = .ok (.iinc 9 1, 3) := by decide +kernel
theorem dX10_site_203 : decode cX10_site 203 = .ok (.goto (-81), 3) := by decide +kernel
theorem dX10_site_206 : decode cX10_site 206 = .ok (.aload_n 0, 1) := by decide +kernel
theorem dX10_site_207 : decode cX10_site 207 = .ok (.getfield 12, 3) := by decide +kernel
theorem dX10_site_210 : decode cX10_site 210 = .ok (.iload 6, 2) := by decide +kernel
theorem dX10_site_212 : decode cX10_site 212 = .ok (.iconst 0, 1) := by decide +kernel
theorem dX10_site_213 : decode cX10_site 213 = .ok (.invokevirtual 378, 3) := by decide +kernel
theorem dX10_site_216 : decode cX10_site 216 = .ok (.aload_n 0, 1) := by decide +kernel
theorem dX10_site_217 : decode cX10_site 217 = .ok (.getfield 12, 3) := by decide +kernel
theorem dX10_site_220 : decode cX10_site 220 = .ok (.iload 6, 2) := by decide +kernel
theorem dX10_site_222 : decode cX10_site 222 = .ok (.putfield 95, 3) := by decide +kernel
theorem dX10_site_225 : decode cX10_site 225 = .ok (.iload 7, 2) := by decide +kernel
theorem dX10_site_227 : decode cX10_site 227 = .ok (.bipush (-2), 2) := by decide +kernel
theorem dX10_site_229 : decode cX10_site 229 = .ok (.if_icmp .eq 43, 3) := by decide +kernel
theorem dX10_site_232 : decode cX10_site 232 = .ok (.aload_n 0, 1) := by decide +kernel
theorem dX10_site_233 : decode cX10_site 233 = .ok (.getfield 83, 3) := by decide +kernel
theorem dX10_site_236 : decode cX10_site 236 = .ok (.invokevirtual 170, 3) := by decide +kernel
theorem dX10_site_239 : decode cX10_site 239 = .ok (.aload_n 0, 1) := by decide +kernel
theorem dX10_site_240 : decode cX10_site 240 = .ok (.getfield 83, 3) := by decide +kernel
theorem dX10_site_243 : decode cX10_site 243 = .ok (.iload 8, 2) := by decide +kernel
theorem dX10_site_245 : decode cX10_site 245 = .ok (.i2l, 1) := by decide +kernel
theorem dX10_site_246 : decode cX10_site 246 = .ok (.invokevirtual 173, 3) := by decide +kernel
theorem dX10_site_249 : decode cX10_site 249 = .ok (.aload_n 0, 1) := by decide +kernel
theorem dX10_site_250 : decode cX10_site 250 = .ok (.getfield 83, 3) := by decide +kernel
theorem dX10_site_253 : decode cX10_site 253 = .ok (.iload 5, 2) := by decide +kernel
theorem dX10_site_255 : decode cX10_site 255 = .ok (.bipush (-2), 2) := by decide +kernel
theorem dX10_site_257 : decode cX10_site 257 = .ok (.if_icmp .ne 9, 3) := by decide +kernel
theorem dX10_site_260 : decode cX10_site 260 = .ok (.ldc2_w 381, 3) := by decide +kernel
theorem dX10_site_263 : decode cX10_site 263 = .ok (.goto 6, 3) := by decide +kernel
theorem dX10_site_266 : decode cX10_site 266 = .ok (.iload 5, 2) := by decide +kernel
theorem dX10_site_268 : decode cX10_site 268 = .ok (.i2l, 1) := by decide +kernel
theorem dX10_site_269 : decode cX10_site 269 = .ok (.invokevirtual 173, 3) := by decide +kernel
theorem dX10_site_272 : decode cX10_site 272 = .ok (.iload 7, 2) := by decide +kernel
theorem dX10_site_274 : decode cX10_site 274 = .ok (.ireturn, 1) := by decide +kernel
theorem dX10_together_0 : decode cX10_together 0 = .ok (.aload_n 0, 1) := by decide +kernel
theorem dX10_together_1 : decode cX10_together 1 = .ok (.getfield 12, 3) := by decide +kernel
theorem dX10_together_4 : decode cX10_together 4 = .ok (.iload_n 1, 1) := by decide +kernel
theorem dX10_together_5 : decode cX10_together 5 = .ok (.invokevirtual 116, 3) := by decide +kernel
theorem dX10_together_8 : decode cX10_together 8 = .ok (.ifCond .eq 20, 3) := by decide +kernel
theorem dX10_together_11 : decode cX10_together 11 = .ok (.iload_n 2, 1) := by decide +kernel
theorem dX10_together_12 : decode cX10_together 12 = .ok (.invokestatic 119, 3) := by decide +kernel
theorem dX10_together_15 : decode cX10_together 15 = .ok (.ifCond .eq 13, 3) := by decide +kernel
theorem dX10_together_18 : decode cX10_together 18 = .ok (.aload_n 0, 1) := by decide +kernel
theorem dX10_together_19 : decode cX10_together 19 = .ok (.getfield 19, 3) := by decide +kernel
theorem dX10_together_22 : decode cX10_together 22 = .ok (.getfield 177, 3) := by decide +kernel
theorem dX10_together_25 : decode cX10_together 25 = .ok (.ifCond .ne 5, 3) := by decide +kernel
theorem dX10_together_28 : decode cX10_together 28 = .ok (.iconst (-1), 1) := by decide +kernel
theorem dX10_together_29 : decode cX10_together 29 = .ok (.ireturn, 1) := by decide +kernel
theorem dX10_together_30 : decode cX10_together 30 = .ok (.aload_n 0, 1) := by decide +kernel
theorem dX10_together_31 : decode cX10_together 31 = .ok (.getfield 12, 3) := by decide +kernel
theorem dX10_together_34 : decode cX10_together 34 = .ok (.getfield 102, 3) := by decide +kernel
theorem dX10_together_37 : decode cX10_together 37 = .ok (.iload_n 1, 1) := by decide +kernel
theorem dX10_together_38 : decode cX10_together 38 = .ok (.aaload, 1) := by decide +kernel
theorem dX10_together_39 : decode cX10_together 39 = .ok (.astore_n 3, 1) := by decide +kernel
theorem dX10_together_40 : decode cX10_together 40 = .ok (.aload_n 3, 1) := by decide +kernel
theorem dX10_together_41 : decode cX10_together 41 = .ok (.getfield 383, 3) := by decide +kernel
theorem dX10_together_44 : decode cX10_together 44 = .ok (.istore 4, 2) := by decide +kernel
theorem dX10_together_46 : decode cX10_together 46 = .ok (.aload_n 3, 1) := by decide +kernel
theorem dX10_together_47 : decode cX10_together 47 = .ok (.getfield 386, 3) := by decide +kernel
theorem dX10_together_50 : decode cX10_together 50 = .ok (.istore 5, 2) := by decide +kernel
theorem dX10_together_52 : decode cX10_together 52 = .ok (.aload_n 3, 1) := by decide +kernel
theorem dX10_together_53 : decode cX10_together 53 = .ok (.aload_n 0, 1) := by decide +kernel
theorem dX10_together_54 : decode cX10_together 54 = .ok (.getfield 12, 3) := by decide +kernel
theorem dX10_together_57 : decode cX10_together 57 = .ok (.invokevirtual 389, 3) := by decide +kernel
theorem dX10_together_60 : decode cX10_together 60 = .ok (.bipush 9, 2) := by decide +kernel
theorem dX10_together_62 : decode cX10_together 62 = .ok (.invokestatic 364, 3) := by decide +kernel
theorem dX10_together_65 : decode cX10_together 65 = .ok (.putfield 386, 3) := by decide +kernel
theorem dX10_together_68 : decode cX10_together 68 = .ok (.aload_n 3, 1) := by decide +kernel
theorem dX10_together_69 : decode cX10_together 69 = .ok (.bipush 63, 2) := by decide +kernel
theorem dX10_together_71 : decode cX10_together 71 = .ok (.putfield 383, 3) := by decide +kernel
theorem dX10_together_74 : decode cX10_together 74 = .ok (.aload_n 0, 1) := by decide +kernel
theorem dX10_together_75 : decode cX10_together 75 = .ok (.getfield 42, 3) := by decide +kernel
theorem dX10_together_78 : decode cX10_together 78 = .ok (.iconst 0, 1) := by decide +kernel
theorem dX10_together_79 : decode cX10_together 79 = .ok (.putfield 319, 3) := by decide +kernel
theorem dX10_together_82 : decode cX10_together 82 = .ok (.aload_n 0, 1) := by decide +kernel
theorem dX10_together_83 : decode cX10_together 83 = .ok (.getfield 42, 3) := by decide +kernel
theorem dX10_together_86 : decode cX10_together 86 = .ok (.iconst 0, 1) := by decide +kernel
theorem dX10_together_87 : decode cX10_together 87 = .ok (.putfield 392, 3) := by decide +kernel
theorem dX10_together_90 : decode cX10_together 90 = .ok (.aload_n 0, 1) := by decide +kernel
theorem dX10_together_91 : decode cX10_together 91 = .ok (.iload_n 2, 1) := by decide +kernel
theorem dX10_together_92 : decode cX10_together 92 = .ok (.invokevirtual 323, 3) := by decide +kernel
theorem dX10_together_95 : decode cX10_together 95 = .ok (.pop, 1) := by decide +kernel
theorem dX10_together_96 : decode cX10_together 96 = .ok (.aload_n 0, 1) := by decide +kernel
theorem dX10_together_97 : decode cX10_together 97 = .ok (.getfield 69, 3) := by decide +kernel
theorem dX10_together_100 : decode cX10_together 100 = .ok (.getfield 232, 3) := by decide +kernel
theorem dX10_together_103 : decode cX10_together 103 = .ok (.iload_n 1, 1) := by decide +kernel
theorem dX10_together_104 : decode cX10_together 104 = .ok (.invokestatic 395, 3) := by decide +kernel
theorem dX10_together_107 : decode cX10_together 107 = .ok (.aload_n 0, 1) := by decide +kernel
theorem dX10_together_108 : decode cX10_together 108 = .ok (.getfield 42, 3) := by decide +kernel
theorem dX10_together_111 : decode cX10_together 111 = .ok (.aload_n 0, 1) := by decide +kernel
theorem dX10_together_112 : decode cX10_together 112 = .ok (.getfield 69, 3) := by decide +kernel
theorem dX10_together_115 : decode cX10_together 115 = .ok (.sipush 2399, 3) := by decide +kernel
theorem dX10_together_118 : decode cX10_together 118 = .ok (.invokevirtual 270, 3) := by decide +kernel
theorem dX10_together_121 : decode cX10_together 121 = .ok (.istore 6, 2) := by decide +kernel
theorem dX10_together_123 : decode cX10_together 123 = .ok (.aload_n 0, 1) := by decide +kernel
theorem dX10_together_124 : decode cX10_together 124 = .ok (.getfield 42, 3) := by decide +kernel
theorem dX10_together_127 : decode cX10_together 127 = .ok (.iconst 1, 1) := by decide +kernel
theorem dX10_together_128 : decode cX10_together 128 = .ok (.putfield 392, 3) := by decide +kernel
theorem dX10_together_131 : decode cX10_together 131 = .ok (.aload_n 0, 1) := by decide +kernel
theorem dX10_together_132 : decode cX10_together 132 = .ok (.getfield 42, 3) := by decide +kernel
theorem dX10_together_135 : decode cX10_together 135 = .ok (.iconst 1, 1) := by decide +kernel
theorem dX10_together_136 : decode cX10_together 136 = .ok (.putfield 319, 3) := by decide +kernel
theorem dX10_together_139 : decode cX10_together 139 = .ok (.aload_n 3, 1) := by decide +kernel
theorem dX10_together_140 : decode cX10_together 140 = .ok (.iload 4, 2) := by decide +kernel
theorem dX10_together_142 : decode cX10_together 142 = .ok (.putfield 383, 3) := by decide +kernel
theorem dX10_together_145 : decode cX10_together 145 = .ok (.aload_n 3, 1) := by decide +kernel
theorem dX10_together_146 : decode cX10_together 146 = .ok (.iload 5, 2) := by decide +kernel
theorem dX10_together_148 : decode cX10_together 148 = .ok (.putfield 386, 3) := by decide +kernel
theorem dX10_together_151 : decode cX10_together 151 = .ok (.iload 6, 2) := by decide +kernel
theorem dX10_together_153 : decode cX10_together 153 = .ok (.bipush (-2), 2) := by decide +kernel
theorem dX10_together_155 : decode cX10_together 155 = .ok (.if_icmp .eq 10, 3) := by decide +kernel
theorem dX10_together_158 : decode cX10_together 158 = .ok (.aload_n 0, 1) := by decide +kernel
theorem dX10_together_159 : decode cX10_together 159 = .ok (.iconst 0, 1) := by decide +kernel
theorem dX10_together_160 : decode cX10_together 160 = .ok (.iconst 0, 1) := by decide +kernel
theorem dX10_together_161 : decode cX10_together 161 = .ok (.iconst 0, 1) := by decide +kernel
theorem dX10_together_162 : decode cX10_together 162 = .ok (.invokevirtual 284, 3) := by decide +kernel
theorem dX10_together_165 : decode cX10_together 165 = .ok (.iload 6, 2) := by decide +kernel
theorem dX10_together_167 : decode cX10_together 167 = .ok (.ireturn, 1) := by decide +kernel
theorem dX10_sleeps_0 : decode cX10_sleeps 0 = .ok (.aload_n 0, 1) := by decide +kernel
theorem dX10_sleeps_1 : decode cX10_sleeps 1 = .ok (.getfield 12, 3) := by decide +kernel
theorem dX10_sleeps_4 : decode cX10_sleeps 4 = .ok (.iload_n 1, 1) := by decide +kernel
theorem dX10_sleeps_5 : decode cX10_sleeps 5 = .ok (.invokevirtual 116, 3) := by decide +kernel
theorem dX10_sleeps_8 : decode cX10_sleeps 8 = .ok (.ifCond .eq 20, 3) := by decide +kernel
theorem dX10_sleeps_11 : decode cX10_sleeps 11 = .ok (.iload_n 2, 1) := by decide +kernel
theorem dX10_sleeps_12 : decode cX10_sleeps 12 = .ok (.invokestatic 128, 3) := by decide +kernel
theorem dX10_sleeps_15 : decode cX10_sleeps 15 = .ok (.ifCond .eq 13, 3) := by decide +kernel
theorem dX10_sleeps_18 : decode cX10_sleeps 18 = .ok (.aload_n 0, 1) := by decide +kernel
theorem dX10_sleeps_19 : decode cX10_sleeps 19 = .ok (.getfield 19, 3) := by decide +kernel
theorem dX10_sleeps_22 : decode cX10_sleeps 22 = .ok (.getfield 177, 3) := by decide +kernel
theorem dX10_sleeps_25 : decode cX10_sleeps 25 = .ok (.ifCond .ne 5, 3) := by decide +kernel
theorem dX10_sleeps_28 : decode cX10_sleeps 28 = .ok (.iconst (-1), 1) := by decide +kernel
theorem dX10_sleeps_29 : decode cX10_sleeps 29 = .ok (.ireturn, 1) := by decide +kernel
theorem dX10_sleeps_30 : decode cX10_sleeps 30 = .ok (.aload_n 0, 1) := by decide +kernel
theorem dX10_sleeps_31 : decode cX10_sleeps 31 = .ok (.getfield 12, 3) := by decide +kernel
theorem dX10_sleeps_34 : decode cX10_sleeps 34 = .ok (.getfield 102, 3) := by decide +kernel
theorem dX10_sleeps_37 : decode cX10_sleeps 37 = .ok (.iload_n 1, 1) := by decide +kernel
theorem dX10_sleeps_38 : decode cX10_sleeps 38 = .ok (.aaload, 1) := by decide +kernel
theorem dX10_sleeps_39 : decode cX10_sleeps 39 = .ok (.getfield 400, 3) := by decide +kernel
theorem dX10_sleeps_42 : decode cX10_sleeps 42 = .ok (.iload_n 2, 1) := by decide +kernel
theorem dX10_sleeps_43 : decode cX10_sleeps 43 = .ok (.baload, 1) := by decide +kernel
theorem dX10_sleeps_44 : decode cX10_sleeps 44 = .ok (.ifCond .eq 7, 3) := by decide +kernel
theorem dX10_sleeps_47 : decode cX10_sleeps 47 = .ok (.sipush (-9998), 3) := by decide +kernel
theorem dX10_sleeps_50 : decode cX10_sleeps 50 = .ok (.ireturn, 1) := by decide +kernel
theorem dX10_sleeps_51 : decode cX10_sleeps 51 = .ok (.aload_n 0, 1) := by decide +kernel
theorem dX10_sleeps_52 : decode cX10_sleeps 52 = .ok (.getfield 42, 3) := by decide +kernel
theorem dX10_sleeps_55 : decode cX10_sleeps 55 = .ok (.aload_n 0, 1) := by decide +kernel
theorem dX10_sleeps_56 : decode cX10_sleeps 56 = .ok (.invokevirtual 266, 3) := by decide +kernel
theorem dX10_sleeps_59 : decode cX10_sleeps 59 = .ok (.sipush 2399, 3) := by decide +kernel
theorem dX10_sleeps_62 : decode cX10_sleeps 62 = .ok (.invokevirtual 270, 3) := by decide +kernel
theorem dX10_sleeps_65 : decode cX10_sleeps 65 = .ok (.istore_n 3, 1) := by decide +kernel
theorem dX10_sleeps_66 : decode cX10_sleeps 66 = .ok (.aload_n 0, 1) := by decide +kernel
theorem dX10_sleeps_67 : decode cX10_sleeps 67 = .ok (.getfield 12, 3) := by decide +kernel
theorem dX10_sleeps_70 : decode cX10_sleeps 70 = .ok (.iload_n 1, 1) := by decide +kernel
theorem dX10_sleeps_71 : decode cX10_sleeps 71 = .ok (.iload_n 2, 1) := by decide +kernel
theorem dX10_sleeps_72 : decode cX10_sleeps 72 = .ok (.iconst 1, 1) := by decide +kernel
theorem dX10_sleeps_73 : decode cX10_sleeps 73 = .ok (.invokevirtual 131, 3) := by decide +kernel
theorem dX10_sleeps_76 : decode cX10_sleeps 76 = .ok (.aload_n 0, 1) := by decide +kernel
theorem dX10_sleeps_77 : decode cX10_sleeps 77 = .ok (.getfield 42, 3) := by decide +kernel
theorem dX10_sleeps_80 : decode cX10_sleeps 80 = .ok (.aload_n 0, 1) := by decide +kernel
theorem dX10_sleeps_81 : decode cX10_sleeps 81 = .ok (.invokevirtual 266, 3) := by decide +kernel
theorem dX10_sleeps_84 : decode cX10_sleeps 84 = .ok (.sipush 2399, 3) := by decide +kernel
theorem dX10_sleeps_87 : decode cX10_sleeps 87 = .ok (.invokevirtual 270, 3) := by decide +kernel
theorem dX10_sleeps_90 : decode cX10_sleeps 90 = .ok (.istore 4, 2) := by decide +kernel
theorem dX10_sleeps_92 : decode cX10_sleeps 92 = .ok (.aload_n 0, 1) := by decide +kernel
theorem dX10_sleeps_93 : decode cX10_sleeps 93 = .ok (.getfield 12, 3) := by decide +kernel
theorem dX10_sleeps_96 : decode cX10_sleeps 96 = .ok (.iload_n 1, 1) := by decide +kernel
theorem dX10_sleeps_97 : decode cX10_sleeps 97 = .ok (.iload_n 2, 1) := by decide +kernel
theorem dX10_sleeps_98 : decode cX10_sleeps 98 = .ok (.iconst 0, 1) := by decide +kernel
theorem dX10_sleeps_99 : decode cX10_sleeps 99 = .ok (.invokevirtual 131, 3) := by decide +kernel
theorem dX10_sleeps_102 : decode cX10_sleeps 102 = .ok (.iload_n 3, 1) := by decide +kernel
theorem dX10_sleeps_103 : decode cX10_sleeps 103 = .ok (.iload 4, 2) := by decide +kernel
theorem dX10_sleeps_105 : decode cX10_sleeps 105 = .ok (.invokestatic 358, 3) := by decide +kernel
theorem dX10_sleeps_108 : decode cX10_sleeps 108 = .ok (.ireturn, 1) := by decide +kernel
theorem dX10_worst_0 : decode cX10_worst 0 = .ok (.aload_n 0, 1) := by decide +kernel
theorem dX10_worst_1 : decode cX10_worst 1 = .ok (.getfield 12, 3) := by decide +kernel
theorem dX10_worst_4 : decode cX10_worst 4 = .ok (.iload_n 1, 1) := by decide +kernel
theorem dX10_worst_5 : decode cX10_worst 5 = .ok (.invokevirtual 116, 3) := by decide +kernel
theorem dX10_worst_8 : decode cX10_worst 8 = .ok (.ifCond .eq 32, 3) := by decide +kernel
theorem dX10_worst_11 : decode cX10_worst 11 = .ok (.iload_n 2, 1) := by decide +kernel
theorem dX10_worst_12 : decode cX10_worst 12 = .ok (.invokestatic 128, 3) := by decide +kernel
theorem dX10_worst_15 : decode cX10_worst 15 = .ok (.ifCond .eq 25, 3) := by decide +kernel
theorem dX10_worst_18 : decode cX10_worst 18 = .ok (.iload_n 3, 1) := by decide +kernel
theorem dX10_worst_19 : decode cX10_worst 19 = .ok (.invokestatic 128, 3) := by decide +kernel
theorem dX10_worst_22 : decode cX10_worst 22 = .ok (.ifCond .eq 18, 3) := by decide +kernel
theorem dX10_worst_25 : decode cX10_worst 25 = .ok (.iload_n 2, 1) := by decide +kernel
theorem dX10_worst_26 : decode cX10_worst 26 = .ok (.iload_n 3, 1) := by decide +kernel
theorem dX10_worst_27 : decode cX10_worst 27 = .ok (.if_icmp .gt 13, 3) := by decide +kernel
theorem dX10_worst_30 : decode cX10_worst 30 = .ok (.aload_n 0, 1) := by decide +kernel
theorem dX10_worst_31 : decode cX10_worst 31 = .ok (.getfield 19, 3) := by decide +kernel
theorem dX10_worst_34 : decode cX10_worst 34 = .ok (.getfield 177, 3) := by decide +kernel
theorem dX10_worst_37 : decode cX10_worst 37 = .ok (.ifCond .ne 5, 3) := by decide +kernel
theorem dX10_worst_40 : decode cX10_worst 40 = .ok (.iconst (-1), 1) := by decide +kernel
theorem dX10_worst_41 : decode cX10_worst 41 = .ok (.ireturn, 1) := by decide +kernel
theorem dX10_worst_42 : decode cX10_worst 42 = .ok (.bipush (-2), 2) := by decide +kernel
theorem dX10_worst_44 : decode cX10_worst 44 = .ok (.istore 4, 2) := by decide +kernel
theorem dX10_worst_46 : decode cX10_worst 46 = .ok (.iconst (-1), 1) := by decide +kernel
theorem dX10_worst_47 : decode cX10_worst 47 = .ok (.istore 5, 2) := by decide +kernel
theorem dX10_worst_49 : decode cX10_worst 49 = .ok (.iload_n 2, 1) := by decide +kernel
theorem dX10_worst_50 : decode cX10_worst 50 = .ok (.istore 6, 2) := by decide +kernel
theorem dX10_worst_52 : decode cX10_worst 52 = .ok (.iload 6, 2) := by decide +kernel
theorem dX10_worst_54 : decode cX10_worst 54 = .ok (.iload_n 3, 1) := by decide +kernel
theorem dX10_worst_55 : decode cX10_worst 55 = .ok (.if_icmp .gt 90, 3) := by decide +kernel
theorem dX10_worst_58 : decode cX10_worst 58 = .ok (.aload_n 0, 1) := by decide +kernel
theorem dX10_worst_59 : decode cX10_worst 59 = .ok (.getfield 12, 3) := by decide +kernel
theorem dX10_worst_62 : decode cX10_worst 62 = .ok (.getfield 102, 3) := by decide +kernel
theorem dX10_worst_65 : decode cX10_worst 65 = .ok (.iload_n 1, 1) := by decide +kernel
theorem dX10_worst_66 : decode cX10_worst 66 = .ok (.aaload, 1) := by decide +kernel
theorem dX10_worst_67 : decode cX10_worst 67 = .ok (.getfield 400, 3) := by decide +kernel
theorem dX10_worst_70 : decode cX10_worst 70 = .ok (.iload 6, 2) := by decide +kernel
theorem dX10_worst_72 : decode cX10_worst 72 = .ok (.baload, 1) := by decide +kernel
theorem dX10_worst_73 : decode cX10_worst 73 = .ok (.ifCond .eq 6, 3) := by decide +kernel
theorem dX10_worst_76 : decode cX10_worst 76 = .ok (.goto 63, 3) := by decide +kernel
theorem dX10_worst_79 : decode cX10_worst 79 = .ok (.aload_n 0, 1) := by decide +kernel
theorem dX10_worst_80 : decode cX10_worst 80 = .ok (.getfield 12, 3) := by decide +kernel
theorem dX10_worst_83 : decode cX10_worst 83 = .ok (.iload_n 1, 1) := by decide +kernel
theorem dX10_worst_84 : decode cX10_worst 84 = .ok (.iload 6, 2) := by decide +kernel
theorem dX10_worst_86 : decode cX10_worst 86 = .ok (.iconst 1, 1) := by decide +kernel
theorem dX10_worst_87 : decode cX10_worst 87 = .ok (.invokevirtual 131, 3) := by decide +kernel
theorem dX10_worst_90 : decode cX10_worst 90 = .ok (.aload_n 0, 1) := by decide +kernel
theorem dX10_worst_91 : decode cX10_worst 91 = .ok (.getfield 42, 3) := by decide +kernel
theorem dX10_worst_94 : decode cX10_worst 94 = .ok (.aload_n 0, 1) := by decide +kernel
theorem dX10_worst_95 : decode cX10_worst 95 = .ok (.invokevirtual 266, 3) := by decide +kernel
theorem dX10_worst_98 : decode cX10_worst 98 = .ok (.sipush 2399, 3) := by decide +kernel
theorem dX10_worst_101 : decode cX10_worst 101 = .ok (.invokevirtual 270, 3) := by decide +kernel
theorem dX10_worst_104 : decode cX10_worst 104 = .ok (.istore 7, 2) := by decide +kernel
theorem dX10_worst_106 : decode cX10_worst 106 = .ok (.aload_n 0, 1) := by decide +kernel
theorem dX10_worst_107 : decode cX10_worst 107 = .ok (.getfield 12, 3) := by decide +kernel
theorem dX10_worst_110 : decode cX10_worst 110 = .ok (.iload_n 1, 1) := by decide +kernel
theorem dX10_worst_111 : decode cX10_worst 111 = .ok (.iload 6, 2) := by decide +kernel
theorem dX10_worst_113 : decode cX10_worst 113 = .ok (.iconst 0, 1) := by decide +kernel
theorem dX10_worst_114 : decode cX10_worst 114 = .ok (.invokevirtual 131, 3) := by decide +kernel
theorem dX10_worst_117 : decode cX10_worst 117 = .ok (.iload 7, 2) := by decide +kernel
theorem dX10_worst_119 : decode cX10_worst 119 = .ok (.bipush (-2), 2) := by decide +kernel
theorem dX10_worst_121 : decode cX10_worst 121 = .ok (.if_icmp .eq 18, 3) := by decide +kernel
theorem dX10_worst_124 : decode cX10_worst 124 = .ok (.iload 7, 2) := by decide +kernel
theorem dX10_worst_126 : decode cX10_worst 126 = .ok (.iload 5, 2) := by decide +kernel
theorem dX10_worst_128 : decode cX10_worst 128 = .ok (.if_icmp .le 11, 3) := by decide +kernel
theorem dX10_worst_131 : decode cX10_worst 131 = .ok (.iload 6, 2) := by decide +kernel
theorem dX10_worst_133 : decode cX10_worst 133 = .ok (.istore 4, 2) := by decide +kernel
theorem dX10_worst_135 : decode cX10_worst 135 = .ok (.iload 7, 2) := by decide +kernel
theorem dX10_worst_137 : decode cX10_worst 137 = .ok (.istore 5, 2) := by decide +kernel
theorem dX10_worst_139 : decode cX10_worst 139 = .ok (.iinc 6 1, 3) := by decide +kernel
theorem dX10_worst_142 : decode cX10_worst 142 = .ok (.goto (-90), 3) := by decide +kernel
theorem dX10_worst_145 : decode cX10_worst 145 = .ok (.iload 4, 2) := by decide +kernel
theorem dX10_worst_147 : decode cX10_worst 147 = .ok (.bipush (-2), 2) := by decide +kernel
theorem dX10_worst_149 : decode cX10_worst 149 = .ok (.if_icmp .eq 20, 3) := by decide +kernel
theorem dX10_worst_152 : decode cX10_worst 152 = .ok (.aload_n 0, 1) := by decide +kernel
theorem dX10_worst_153 : decode cX10_worst 153 = .ok (.getfield 83, 3) := by decide +kernel
theorem dX10_worst_156 : decode cX10_worst 156 = .ok (.invokevirtual 170, 3) := by decide +kernel
theorem dX10_worst_159 : decode cX10_worst 159 = .ok (.aload_n 0, 1) := by decide +kernel
theorem dX10_worst_160 : decode cX10_worst 160 = .ok (.getfield 83, 3) := by decide +kernel
theorem dX10_worst_163 : decode cX10_worst 163 = .ok (.iload 5, 2) := by decide +kernel
theorem dX10_worst_165 : decode cX10_worst 165 = .ok (.i2l, 1) := by decide +kernel
theorem dX10_worst_166 : decode cX10_worst 166 = .ok (.invokevirtual 173, 3) := by decide +kernel
theorem dX10_worst_169 : decode cX10_worst 169 = .ok (.iload 4, 2) := by decide +kernel
theorem dX10_worst_171 : decode cX10_worst 171 = .ok (.ireturn, 1) := by decide +kernel
theorem dX10_march_0 : decode cX10_march 0 = .ok (.aload_n 0, 1) := by decide +kernel
theorem dX10_march_1 : decode cX10_march 1 = .ok (.getfield 12, 3) := by decide +kernel
theorem dX10_march_4 : decode cX10_march 4 = .ok (.iload_n 1, 1) := by decide +kernel
theorem dX10_march_5 : decode cX10_march 5 = .ok (.invokevirtual 116, 3) := by decide +kernel
theorem dX10_march_8 : decode cX10_march 8 = .ok (.ifCond .eq 20, 3) := by decide +kernel
theorem dX10_march_11 : decode cX10_march 11 = .ok (.iload_n 2, 1) := by decide +kernel
theorem dX10_march_12 : decode cX10_march 12 = .ok (.invokestatic 119, 3) := by decide +kernel
theorem dX10_march_15 : decode cX10_march 15 = .ok (.ifCond .eq 13, 3) := by decide +kernel
theorem dX10_march_18 : decode cX10_march 18 = .ok (.aload_n 0, 1) := by decide +kernel
theorem dX10_march_19 : decode cX10_march 19 = .ok (.getfield 19, 3) := by decide +kernel
theorem dX10_march_22 : decode cX10_march 22 = .ok (.getfield 177, 3) := by decide +kernel
theorem dX10_march_25 : decode cX10_march 25 = .ok (.ifCond .ne 5, 3) := by decide +kernel
theorem dX10_march_28 : decode cX10_march 28 = .ok (.iconst (-1), 1) := by decide +kernel
theorem dX10_march_29 : decode cX10_march 29 = .ok (.ireturn, 1) := by decide +kernel
theorem dX10_march_30 : decode cX10_march 30 = .ok (.aload_n 0, 1) := by decide +kernel
theorem dX10_march_31 : decode cX10_march 31 = .ok (.getfield 42, 3) := by decide +kernel
theorem dX10_march_34 : decode cX10_march 34 = .ok (.aload_n 0, 1) := by decide +kernel
theorem dX10_march_35 : decode cX10_march 35 = .ok (.invokevirtual 266, 3) := by decide +kernel
theorem dX10_march_38 : decode cX10_march 38 = .ok (.sipush 2399, 3) := by decide +kernel
theorem dX10_march_41 : decode cX10_march 41 = .ok (.invokevirtual 270, 3) := by decide +kernel
theorem dX10_march_44 : decode cX10_march 44 = .ok (.istore_n 3, 1) := by decide +kernel
theorem dX10_march_45 : decode cX10_march 45 = .ok (.aload_n 0, 1) := by decide +kernel
theorem dX10_march_46 : decode cX10_march 46 = .ok (.getfield 12, 3) := by decide +kernel
theorem dX10_march_49 : decode cX10_march 49 = .ok (.getfield 102, 3) := by decide +kernel
theorem dX10_march_52 : decode cX10_march 52 = .ok (.iload_n 1, 1) := by decide +kernel
theorem dX10_march_53 : decode cX10_march 53 = .ok (.aaload, 1) := by decide +kernel
theorem dX10_march_54 : decode cX10_march 54 = .ok (.astore 4, 2) := by decide +kernel
theorem dX10_march_56 : decode cX10_march 56 = .ok (.aload 4, 2) := by decide +kernel
theorem dX10_march_58 : decode cX10_march 58 = .ok (.getfield 122, 3) := by decide +kernel
theorem dX10_march_61 : decode cX10_march 61 = .ok (.istore 5, 2) := by decide +kernel
theorem dX10_march_63 : decode cX10_march 63 = .ok (.aload 4, 2) := by decide +kernel
theorem dX10_march_65 : decode cX10_march 65 = .ok (.getfield 125, 3) := by decide +kernel
theorem dX10_march_68 : decode cX10_march 68 = .ok (.istore 6, 2) := by decide +kernel
theorem dX10_march_70 : decode cX10_march 70 = .ok (.aload 4, 2) := by decide +kernel
theorem dX10_march_72 : decode cX10_march 72 = .ok (.iload_n 2, 1) := by decide +kernel
theorem dX10_march_73 : decode cX10_march 73 = .ok (.putfield 122, 3) := by decide +kernel
theorem dX10_march_76 : decode cX10_march 76 = .ok (.aload 4, 2) := by decide +kernel
theorem dX10_march_78 : decode cX10_march 78 = .ok (.iconst 1, 1) := by decide +kernel
theorem dX10_march_79 : decode cX10_march 79 = .ok (.putfield 125, 3) := by decide +kernel
theorem dX10_march_82 : decode cX10_march 82 = .ok (.aload_n 0, 1) := by decide +kernel
theorem dX10_march_83 : decode cX10_march 83 = .ok (.getfield 12, 3) := by decide +kernel
theorem dX10_march_86 : decode cX10_march 86 = .ok (.iload_n 1, 1) := by decide +kernel
theorem dX10_march_87 : decode cX10_march 87 = .ok (.iconst 0, 1) := by decide +kernel
theorem dX10_march_88 : decode cX10_march 88 = .ok (.sipush 2500, 3) := by decide +kernel
theorem dX10_march_91 : decode cX10_march 91 = .ok (.invokevirtual 112, 3) := by decide +kernel
theorem dX10_march_94 : decode cX10_march 94 = .ok (.aload_n 0, 1) := by decide +kernel
theorem dX10_march_95 : decode cX10_march 95 = .ok (.getfield 42, 3) := by decide +kernel
theorem dX10_march_98 : decode cX10_march 98 = .ok (.aload_n 0, 1) := by decide +kernel
theorem dX10_march_99 : decode cX10_march 99 = .ok (.invokevirtual 266, 3) := by decide +kernel
theorem dX10_march_102 : decode cX10_march 102 = .ok (.sipush 2399, 3) := by decide +kernel
theorem dX10_march_105 : decode cX10_march 105 = .ok (.invokevirtual 270, 3) := by decide +kernel
theorem dX10_march_108 : decode cX10_march 108 = .ok (.istore 7, 2) := by decide +kernel
theorem dX10_march_110 : decode cX10_march 110 = .ok (.aload 4, 2) := by decide +kernel
theorem dX10_march_112 : decode cX10_march 112 = .ok (.iload 5, 2) := by decide +kernel
theorem dX10_march_114 : decode cX10_march 114 = .ok (.putfield 122, 3) := by decide +kernel
theorem dX10_march_117 : decode cX10_march 117 = .ok (.aload 4, 2) := by decide +kernel
theorem dX10_march_119 : decode cX10_march 119 = .ok (.iload 6, 2) := by decide +kernel
theorem dX10_march_121 : decode cX10_march 121 = .ok (.putfield 125, 3) := by decide +kernel
theorem dX10_march_124 : decode cX10_march 124 = .ok (.aload_n 0, 1) := by decide +kernel
theorem dX10_march_125 : decode cX10_march 125 = .ok (.getfield 12, 3) := by decide +kernel
theorem dX10_march_128 : decode cX10_march 128 = .ok (.iload_n 1, 1) := by decide +kernel
theorem dX10_march_129 : decode cX10_march 129 = .ok (.iconst 0, 1) := by decide +kernel
theorem dX10_march_130 : decode cX10_march 130 = .ok (.sipush 2500, 3) := by decide +kernel
theorem dX10_march_133 : decode cX10_march 133 = .ok (.invokevirtual 112, 3) := by decide +kernel
theorem dX10_march_136 : decode cX10_march 136 = .ok (.iload_n 3, 1) := by decide +kernel
theorem dX10_march_137 : decode cX10_march 137 = .ok (.iload 7, 2) := by decide +kernel
theorem dX10_march_139 : decode cX10_march 139 = .ok (.invokestatic 358, 3) := by decide +kernel
theorem dX10_march_142 : decode cX10_march 142 = .ok (.ireturn, 1) := by decide +kernel
theorem dX10_keep_0 : decode cX10_keep 0 = .ok (.iload_n 1, 1) := by decide +kernel
theorem dX10_keep_1 : decode cX10_keep 1 = .ok (.ifCond .lt 12, 3) := by decide +kernel
theorem dX10_keep_4 : decode cX10_keep 4 = .ok (.iload_n 1, 1) := by decide +kernel
theorem dX10_keep_5 : decode cX10_keep 5 = .ok (.aload_n 0, 1) := by decide +kernel
theorem dX10_keep_6 : decode cX10_keep 6 = .ok (.getfield 72, 3) := by decide +kernel
theorem dX10_keep_9 : decode cX10_keep 9 = .ok (.arraylength, 1) := by decide +kernel
theorem dX10_keep_10 : decode cX10_keep 10 = .ok (.if_icmp .lt 5, 3) := by decide +kernel
theorem dX10_keep_13 : decode cX10_keep 13 = .ok (.iconst 0, 1) := by decide +kernel
theorem dX10_keep_14 : decode cX10_keep 14 = .ok (.ireturn, 1) := by decide +kernel
theorem dX10_keep_15 : decode cX10_keep 15 = .ok (.aload_n 0, 1) := by decide +kernel
theorem dX10_keep_16 : decode cX10_keep 16 = .ok (.getfield 72, 3) := by decide +kernel
theorem dX10_keep_19 : decode cX10_keep 19 = .ok (.iload_n 1, 1) := by decide +kernel
theorem dX10_keep_20 : decode cX10_keep 20 = .ok (.aaload, 1) := by decide +kernel
theorem dX10_keep_21 : decode cX10_keep 21 = .ok (.aload_n 0, 1) := by decide +kernel
theorem dX10_keep_22 : decode cX10_keep 22 = .ok (.getfield 65, 3) := by decide +kernel
theorem dX10_keep_25 : decode cX10_keep 25 = .ok (.invokevirtual 404, 3) := by decide +kernel
theorem dX10_keep_28 : decode cX10_keep 28 = .ok (.aload_n 0, 1) := by decide +kernel
theorem dX10_keep_29 : decode cX10_keep 29 = .ok (.getfield 76, 3) := by decide +kernel
theorem dX10_keep_32 : decode cX10_keep 32 = .ok (.iload_n 1, 1) := by decide +kernel
theorem dX10_keep_33 : decode cX10_keep 33 = .ok (.aload_n 0, 1) := by decide +kernel
theorem dX10_keep_34 : decode cX10_keep 34 = .ok (.getfield 19, 3) := by decide +kernel
theorem dX10_keep_37 : decode cX10_keep 37 = .ok (.getfield 177, 3) := by decide +kernel
theorem dX10_keep_40 : decode cX10_keep 40 = .ok (.iastore, 1) := by decide +kernel
theorem dX10_keep_41 : decode cX10_keep 41 = .ok (.iconst 1, 1) := by decide +kernel
theorem dX10_keep_42 : decode cX10_keep 42 = .ok (.ireturn, 1) := by decide +kernel
theorem dX10_again_0 : decode cX10_again 0 = .ok (.iload_n 1, 1) := by decide +kernel
theorem dX10_again_1 : decode cX10_again 1 = .ok (.ifCond .lt 28, 3) := by decide +kernel
theorem dX10_again_4 : decode cX10_again 4 = .ok (.iload_n 1, 1) := by decide +kernel
theorem dX10_again_5 : decode cX10_again 5 = .ok (.aload_n 0, 1) := by decide +kernel
theorem dX10_again_6 : decode cX10_again 6 = .ok (.getfield 72, 3) := by decide +kernel
theorem dX10_again_9 : decode cX10_again 9 = .ok (.arraylength, 1) := by decide +kernel
theorem dX10_again_10 : decode cX10_again 10 = .ok (.if_icmp .ge 19, 3) := by decide +kernel
theorem dX10_again_13 : decode cX10_again 13 = .ok (.aload_n 0, 1) := by decide +kernel
theorem dX10_again_14 : decode cX10_again 14 = .ok (.getfield 76, 3) := by decide +kernel
theorem dX10_again_17 : decode cX10_again 17 = .ok (.iload_n 1, 1) := by decide +kernel
theorem dX10_again_18 : decode cX10_again 18 = .ok (.iaload, 1) := by decide +kernel
theorem dX10_again_19 : decode cX10_again 19 = .ok (.aload_n 0, 1) := by decide +kernel
theorem dX10_again_20 : decode cX10_again 20 = .ok (.getfield 19, 3) := by decide +kernel
theorem dX10_again_23 : decode cX10_again 23 = .ok (.getfield 177, 3) := by decide +kernel
theorem dX10_again_26 : decode cX10_again 26 = .ok (.if_icmp .eq 5, 3) := by decide +kernel
theorem dX10_again_29 : decode cX10_again 29 = .ok (.iconst 0, 1) := by decide +kernel
theorem dX10_again_30 : decode cX10_again 30 = .ok (.ireturn, 1) := by decide +kernel
theorem dX10_again_31 : decode cX10_again 31 = .ok (.aload_n 0, 1) := by decide +kernel
theorem dX10_again_32 : decode cX10_again 32 = .ok (.getfield 65, 3) := by decide +kernel
theorem dX10_again_35 : decode cX10_again 35 = .ok (.aload_n 0, 1) := by decide +kernel
theorem dX10_again_36 : decode cX10_again 36 = .ok (.getfield 72, 3) := by decide +kernel
theorem dX10_again_39 : decode cX10_again 39 = .ok (.iload_n 1, 1) := by decide +kernel
theorem dX10_again_40 : decode cX10_again 40 = .ok (.aaload, 1) := by decide +kernel
theorem dX10_again_41 : decode cX10_again 41 = .ok (.invokevirtual 404, 3) := by decide +kernel
theorem dX10_again_44 : decode cX10_again 44 = .ok (.iconst 1, 1) := by decide +kernel
theorem dX10_again_45 : decode cX10_again 45 = .ok (.ireturn, 1) := by decide +kernel
theorem dX10_count_0 : decode cX10_count 0 = .ok (.iload_n 1, 1) := by decide +kernel
theorem dX10_count_1 : decode cX10_count 1 = .ok (.tableswitch 132 0 9 #[55, 63, 71, 79, 87, 95, 103, 111, 119, 127], 55) := by decide +kernel
theorem dX10_count_56 : decode cX10_count 56 = .ok (.aload_n 0, 1) := by decide +kernel
theorem dX10_count_57 : decode cX10_count 57 = .ok (.getfield 12, 3) := by decide +kernel
theorem dX10_count_60 : decode cX10_count 60 = .ok (.getfield 95, 3) := by decide +kernel
theorem dX10_count_63 : decode cX10_count 63 = .ok (.ireturn, 1) := by decide +kernel
theorem dX10_count_64 : decode cX10_count 64 = .ok (.aload_n 0, 1) := by decide +kernel
theorem dX10_count_65 : decode cX10_count 65 = .ok (.getfield 19, 3) := by decide +kernel
theorem dX10_count_68 : decode cX10_count 68 = .ok (.getfield 177, 3) := by decide +kernel
theorem dX10_count_71 : decode cX10_count 71 = .ok (.ireturn, 1) := by decide +kernel
theorem dX10_count_72 : decode cX10_count 72 = .ok (.aload_n 0, 1) := by decide +kernel
theorem dX10_count_73 : decode cX10_count 73 = .ok (.getfield 65, 3) := by decide +kernel
theorem dX10_count_76 : decode cX10_count 76 = .ok (.getfield 218, 3) := by decide +kernel
theorem dX10_count_79 : decode cX10_count 79 = .ok (.ireturn, 1) := by decide +kernel
theorem dX10_count_80 : decode cX10_count 80 = .ok (.aload_n 0, 1) := by decide +kernel
theorem dX10_count_81 : decode cX10_count 81 = .ok (.getfield 65, 3) := by decide +kernel
theorem dX10_count_84 : decode cX10_count 84 = .ok (.getfield 260, 3) := by decide +kernel
theorem dX10_count_87 : decode cX10_count 87 = .ok (.ireturn, 1) := by decide +kernel
theorem dX10_count_88 : decode cX10_count 88 = .ok (.aload_n 0, 1) := by decide +kernel
theorem dX10_count_89 : decode cX10_count 89 = .ok (.getfield 58, 3) := by decide +kernel
theorem dX10_count_92 : decode cX10_count 92 = .ok (.getfield 334, 3) := by decide +kernel
theorem dX10_count_95 : decode cX10_count 95 = .ok (.ireturn, 1) := by decide +kernel
theorem dX10_count_96 : decode cX10_count 96 = .ok (.aload_n 0, 1) := by decide +kernel
theorem dX10_count_97 : decode cX10_count 97 = .ok (.getfield 65, 3) := by decide +kernel
theorem dX10_count_100 : decode cX10_count 100 = .ok (.invokevirtual 274, 3) := by decide +kernel
theorem dX10_count_103 : decode cX10_count 103 = .ok (.ireturn, 1) := by decide +kernel
theorem dX10_count_104 : decode cX10_count 104 = .ok (.aload_n 0, 1) := by decide +kernel
theorem dX10_count_105 : decode cX10_count 105 = .ok (.getfield 65, 3) := by decide +kernel
theorem dX10_count_108 : decode cX10_count 108 = .ok (.invokevirtual 278, 3) := by decide +kernel
theorem dX10_count_111 : decode cX10_count 111 = .ok (.ireturn, 1) := by decide +kernel
theorem dX10_count_112 : decode cX10_count 112 = .ok (.aload_n 0, 1) := by decide +kernel
theorem dX10_count_113 : decode cX10_count 113 = .ok (.getfield 65, 3) := by decide +kernel
theorem dX10_count_116 : decode cX10_count 116 = .ok (.getfield 281, 3) := by decide +kernel
theorem dX10_count_119 : decode cX10_count 119 = .ok (.ireturn, 1) := by decide +kernel
theorem dX10_count_120 : decode cX10_count 120 = .ok (.aload_n 0, 1) := by decide +kernel
theorem dX10_count_121 : decode cX10_count 121 = .ok (.getfield 83, 3) := by decide +kernel
theorem dX10_count_124 : decode cX10_count 124 = .ok (.getfield 407, 3) := by decide +kernel
theorem dX10_count_127 : decode cX10_count 127 = .ok (.ireturn, 1) := by decide +kernel
theorem dX10_count_128 : decode cX10_count 128 = .ok (.aload_n 0, 1) := by decide +kernel
theorem dX10_count_129 : decode cX10_count 129 = .ok (.getfield 91, 3) := by decide +kernel
theorem dX10_count_132 : decode cX10_count 132 = .ok (.ireturn, 1) := by decide +kernel
theorem dX10_count_133 : decode cX10_count 133 = .ok (.iconst (-1), 1) := by decide +kernel
theorem dX10_count_134 : decode cX10_count 134 = .ok (.ireturn, 1) := by decide +kernel
theorem dX11_thrown_0 : decode cX11_thrown 0 = .ok (.aload_n 0, 1) := by decide +kernel
theorem dX11_thrown_1 : decode cX11_thrown 1 = .ok (.getfield 3, 3) := by decide +kernel
theorem dX11_thrown_4 : decode cX11_thrown 4 = .ok (.ireturn, 1) := by decide +kernel
theorem dX11_in_0 : decode cX11_in 0 = .ok (.lload_n 0, 1) := by decide +kernel
theorem dX11_in_1 : decode cX11_in 1 = .ok (.lload_n 2, 1) := by decide +kernel
theorem dX11_in_2 : decode cX11_in 2 = .ok (.lcmp, 1) := by decide +kernel
theorem dX11_in_3 : decode cX11_in 3 = .ok (.ifCond .lt 14, 3) := by decide +kernel
theorem dX11_in_6 : decode cX11_in 6 = .ok (.lload_n 0, 1) := by decide +kernel
theorem dX11_in_7 : decode cX11_in 7 = .ok (.lload 4, 2) := by decide +kernel
theorem dX11_in_9 : decode cX11_in 9 = .ok (.lcmp, 1) := by decide +kernel
theorem dX11_in_10 : decode cX11_in 10 = .ok (.ifCond .gt 7, 3) := by decide +kernel
theorem dX11_in_13 : decode cX11_in 13 = .ok (.iconst 1, 1) := by decide +kernel
theorem dX11_in_14 : decode cX11_in 14 = .ok (.goto 4, 3) := by decide +kernel
theorem dX11_in_17 : decode cX11_in 17 = .ok (.iconst 0, 1) := by decide +kernel
theorem dX11_in_18 : decode cX11_in 18 = .ok (.ireturn, 1) := by decide +kernel
theorem dX11_has_0 : decode cX11_has 0 = .ok (.iload_n 0, 1) := by decide +kernel
theorem dX11_has_1 : decode cX11_has 1 = .ok (.iload_n 1, 1) := by decide +kernel
theorem dX11_has_2 : decode cX11_has 2 = .ok (.ishr, 1) := by decide +kernel
theorem dX11_has_3 : decode cX11_has 3 = .ok (.iconst 1, 1) := by decide +kernel
theorem dX11_has_4 : decode cX11_has 4 = .ok (.iand, 1) := by decide +kernel
theorem dX11_has_5 : decode cX11_has 5 = .ok (.iconst 1, 1) := by decide +kernel
theorem dX11_has_6 : decode cX11_has 6 = .ok (.if_icmp .ne 7, 3) := by decide +kernel
theorem dX11_has_9 : decode cX11_has 9 = .ok (.iconst 1, 1) := by decide +kernel
theorem dX11_has_10 : decode cX11_has 10 = .ok (.goto 4, 3) := by decide +kernel
theorem dX11_has_13 : decode cX11_has 13 = .ok (.iconst 0, 1) := by decide +kernel
theorem dX11_has_14 : decode cX11_has 14 = .ok (.ireturn, 1) := by decide +kernel
theorem dX11_flag_0 : decode cX11_flag 0 = .ok (.iload_n 0, 1) := by decide +kernel
theorem dX11_flag_1 : decode cX11_flag 1 = .ok (.ifCond .eq 7, 3) := by decide +kernel
theorem dX11_flag_4 : decode cX11_flag 4 = .ok (.iconst 1, 1) := by decide +kernel
theorem dX11_flag_5 : decode cX11_flag 5 = .ok (.goto 4, 3) := by decide +kernel
theorem dX11_flag_8 : decode cX11_flag 8 = .ok (.iconst 0, 1) := by decide +kernel
theorem dX11_flag_9 : decode cX11_flag 9 = .ok (.ireturn, 1) := by decide +kernel
theorem dX11_refuse_0 : decode cX11_refuse 0 = .ok (.aload_n 0, 1) := by decide +kernel
theorem dX11_refuse_1 : decode cX11_refuse 1 = .ok (.iconst 1, 1) := by decide +kernel
theorem dX11_refuse_2 : decode cX11_refuse 2 = .ok (.putfield 3, 3) := by decide +kernel
theorem dX11_refuse_5 : decode cX11_refuse 5 = .ok (.iconst 0, 1) := by decide +kernel
theorem dX11_refuse_6 : decode cX11_refuse 6 = .ok (.ireturn, 1) := by decide +kernel
theorem dX11_enters_0 : decode cX11_enters 0 = .ok (.aload_n 0, 1) := by decide +kernel
theorem dX11_enters_1 : decode cX11_enters 1 = .ok (.getfield 7, 3) := by decide +kernel
theorem dX11_enters_4 : decode cX11_enters 4 = .ok (.aload_n 0, 1) := by decide +kernel
theorem dX11_enters_5 : decode cX11_enters 5 = .ok (.getfield 11, 3) := by decide +kernel
theorem dX11_enters_8 : decode cX11_enters 8 = .ok (.lload_n 1, 1) := by decide +kernel
theorem dX11_enters_9 : decode cX11_enters 9 = .ok (.lastore, 1) := by decide +kernel
theorem dX11_enters_10 : decode cX11_enters 10 = .ok (.aload_n 0, 1) := by decide +kernel
theorem dX11_enters_11 : decode cX11_enters 11 = .ok (.dup, 1) := by decide +kernel
theorem dX11_enters_12 : decode cX11_enters 12 = .ok (.getfield 11, 3) := by decide +kernel
theorem dX11_enters_15 : decode cX11_enters 15 = .ok (.iconst 1, 1) := by decide +kernel
theorem dX11_enters_16 : decode cX11_enters 16 = .ok (.iadd, 1) := by decide +kernel
theorem dX11_enters_17 : decode cX11_enters 17 = .ok (.putfield 11, 3) := by decide +kernel
theorem dX11_enters_20 : decode cX11_enters 20 = .ok (.return_, 1) := by decide +kernel
noncomputable def f_X10_riskiest_57 (fu : Nat) (x1 : Int32) (m : hM) : Option (Int32 × hM) :=
  hBd (f_X1_clear fu m) fun _ m3 =>
if hIn x1 60 then (
hBd (f_X1_tell fu (Int32.toInt64 (gI m3 54 (Int32.toNatClampNeg x1))) m3) fun _ m5 =>
some (x1, m5)) else none
set_option maxRecDepth 100000 in
set_option maxHeartbeats 4000000 in
theorem r_X10_riskiest_57 {G : hG} {X : hX} (C : Cx G X 2 cX10_riskiest 3 RX10 (some .int)) (K : Cr G X) (fu : Nat) (x1 : Int32) (m : hM) : Rf vI G X 57 [(0, hA G 0), (1, .int x1)] [] m (f_X10_riskiest_57 fu x1 m) := by
  unfold f_X10_riskiest_57
  refine rf_aload_n C (n := 58) (q := 0) dX10_riskiest_57 rfl rfl rfl ?_
  refine rf_getS C (n := 61) fl_RX10_83 ly_0 rfl dX10_riskiest_58 rfl ?_
  refine rf_callVv C (n := 64) (c_X1_clear G fu _) mw_RX10_170 ly_66 rfl ⟨by decide, by decide⟩ rfl (Nat.le_of_ble_eq_true rfl) rfl dX10_riskiest_61 rfl (fun _ m3 => ?_)
  refine rf_aload_n C (n := 65) (q := 0) dX10_riskiest_64 rfl rfl rfl ?_
  refine rf_getS C (n := 68) fl_RX10_83 ly_0 rfl dX10_riskiest_65 rfl ?_
  refine rf_aload_n C (n := 69) (q := 0) dX10_riskiest_68 rfl rfl rfl ?_
  refine rf_getS C (n := 72) fl_RX10_65 ly_0 rfl dX10_riskiest_69 rfl ?_
  refine rf_getS C (n := 75) fl_RX10_369 ly_46 rfl dX10_riskiest_72 rfl ?_
  refine rf_iload_n C (n := 76) (q := 1) dX10_riskiest_75 rfl rfl rfl ?_
  refine rf_guard (fun h4 => ?_)
  refine rf_iald C (n := 77) ly_54 h4 rfl dX10_riskiest_76 rfl ?_
  refine rf_i2l C (n := 78) dX10_riskiest_77 rfl ?_
  refine rf_callVv C (n := 81) (c_X1_tell G fu _ _) mw_RX10_173 ly_66 rfl ⟨by decide, by decide⟩ rfl (Nat.le_of_ble_eq_true rfl) rfl dX10_riskiest_78 rfl (fun _ m5 => ?_)
  refine rf_iload_n C (n := 82) (q := 1) dX10_riskiest_81 rfl rfl rfl ?_
  exact rf_iret C K dX10_riskiest_82
noncomputable def f_X10_riskiest_51 (fu : Nat) (k17 : Int32 → Int32 → hM → Option (Int32 × hM)) (x1 : Int32) (x2 : Int32) (m : hM) : Option (Int32 × hM) :=
  hLet (x2 + 1) fun y9 =>
k17 x1 y9 m
set_option maxRecDepth 100000 in
set_option maxHeartbeats 4000000 in
theorem r_X10_riskiest_51 {G : hG} {X : hX} (C : Cx G X 2 cX10_riskiest 3 RX10 (some .int)) (K : Cr G X) (fu : Nat) (k17 : Int32 → Int32 → hM → Option (Int32 × hM)) (hk17 : ∀ (x1 : Int32) (x2 : Int32) (m : hM), Rf vI G X 17 [(0, hA G 0), (1, .int x1), (2, .int x2)] [] m (k17 x1 x2 m)) (x1 : Int32) (x2 : Int32) (m : hM) : Rf vI G X 51 [(0, hA G 0), (1, .int x1), (2, .int x2)] [] m (f_X10_riskiest_51 fu k17 x1 x2 m) := by
  unfold f_X10_riskiest_51
  refine rf_iinc2 C (n := 54) (q := 2) (fun y9 => [(2, .int y9), (0, hA G 0), (1, .int x1)]) dX10_riskiest_51 rfl rfl (by decide) (by decide) (fun _ => rfl) (fun y9 => ?_)
  refine rf_goto C (n := 17) dX10_riskiest_54 (by decide) ?_
  exact rf_lv _ [1, 2, 0] rfl (hk17 _ _ _)
noncomputable def s_X10_riskiest_17 (fu : Nat) (ih : Int32 → Int32 → hM → Option (Int32 × hM)) (x1 : Int32) (x2 : Int32) (m : hM) : Option (Int32 × hM) :=
  if (gI m 46 12) ≤ x2 then (
f_X10_riskiest_57 fu x1 m) else (
if hIn x2 60 then (
if hIn x1 60 then (
if (gI m 54 (Int32.toNatClampNeg x2)) ≤ (gI m 54 (Int32.toNatClampNeg x1)) then (
f_X10_riskiest_51 fu ih x1 x2 m) else (
f_X10_riskiest_51 fu ih x2 x2 m)) else none) else none)
noncomputable def f_X10_riskiest_17 (fu : Nat) (n : Nat) : Int32 → Int32 → hM → Option (Int32 × hM) :=
  Nat.rec (motive := fun _ => Int32 → Int32 → hM → Option (Int32 × hM)) (fun _ _ _ => none) (fun _ ih => s_X10_riskiest_17 fu ih) n
theorem f_X10_riskiest_17_s (fu : Nat) (n : Nat) (x1 : Int32) (x2 : Int32) (m : hM) : f_X10_riskiest_17 fu (n + 1) x1 x2 m = s_X10_riskiest_17 fu (f_X10_riskiest_17 fu n) x1 x2 m := rfl
set_option maxRecDepth 100000 in
set_option maxHeartbeats 4000000 in
theorem r_X10_riskiest_17 {G : hG} {X : hX} (C : Cx G X 2 cX10_riskiest 3 RX10 (some .int)) (K : Cr G X) (fu : Nat) (n : Nat) : ∀ (x1 : Int32) (x2 : Int32) (m : hM), Rf vI G X 17 [(0, hA G 0), (1, .int x1), (2, .int x2)] [] m (f_X10_riskiest_17 fu n x1 x2 m) := by
  induction n with
  | zero => intros; exact rf_none
  | succ n ih =>
    intro x1 x2 m
    show Rf vI G X 17 [(0, hA G 0), (1, .int x1), (2, .int x2)] [] m (s_X10_riskiest_17 fu (f_X10_riskiest_17 fu n) x1 x2 m)
    unfold s_X10_riskiest_17
    refine rf_iload_n C (n := 18) (q := 2) dX10_riskiest_17 rfl rfl rfl ?_
    refine rf_aload_n C (n := 19) (q := 0) dX10_riskiest_18 rfl rfl rfl ?_
    refine rf_getS C (n := 22) fl_RX10_65 ly_0 rfl dX10_riskiest_19 rfl ?_
    refine rf_getI C (n := 25) fl_RX10_361 ly_46 rfl dX10_riskiest_22 rfl ?_
    refine rf_icmp_ge C (tgt := 57) (n := 28) dX10_riskiest_25 (by decide) rfl (fun h2 => ?_) (fun h2 => ?_)
    · exact rf_lv _ [0, 1] rfl (r_X10_riskiest_57 C K fu _ _)
    · refine rf_aload_n C (n := 29) (q := 0) dX10_riskiest_28 rfl rfl rfl ?_
      refine rf_getS C (n := 32) fl_RX10_65 ly_0 rfl dX10_riskiest_29 rfl ?_
      refine rf_getS C (n := 35) fl_RX10_369 ly_46 rfl dX10_riskiest_32 rfl ?_
      refine rf_iload_n C (n := 36) (q := 2) dX10_riskiest_35 rfl rfl rfl ?_
      refine rf_guard (fun h6 => ?_)
      refine rf_iald C (n := 37) ly_54 h6 rfl dX10_riskiest_36 rfl ?_
      refine rf_aload_n C (n := 38) (q := 0) dX10_riskiest_37 rfl rfl rfl ?_
      refine rf_getS C (n := 41) fl_RX10_65 ly_0 rfl dX10_riskiest_38 rfl ?_
      refine rf_getS C (n := 44) fl_RX10_369 ly_46 rfl dX10_riskiest_41 rfl ?_
      refine rf_iload_n C (n := 45) (q := 1) dX10_riskiest_44 rfl rfl rfl ?_
      refine rf_guard (fun h7 => ?_)
      refine rf_iald C (n := 46) ly_54 h7 rfl dX10_riskiest_45 rfl ?_
      refine rf_icmp_le C (tgt := 51) (n := 49) dX10_riskiest_46 (by decide) rfl (fun h8 => ?_) (fun h8 => ?_)
      · exact rf_lv _ [0, 1, 2] rfl (r_X10_riskiest_51 C K fu _ ih _ _ _)
      · refine rf_iload_n C (n := 50) (q := 2) dX10_riskiest_49 rfl rfl rfl ?_
        refine rf_istore_n C (n := 51) [(1, .int x2), (0, hA G 0), (2, .int x2)] dX10_riskiest_50 rfl rfl (by decide) rfl ?_
        exact rf_lv _ [1, 0, 2] rfl (r_X10_riskiest_51 C K fu _ ih _ _ _)
noncomputable def f_X10_riskiest (fu : Nat) (m : hM) : Option (Int32 × hM) :=
  if ¬ (gI m 46 12) = 0 then (
f_X10_riskiest_17 fu fu 0 1 m) else (
some ((-2), m))
set_option maxRecDepth 100000 in
set_option maxHeartbeats 4000000 in
theorem c_X10_riskiest (G : hG) (fu : Nat) (m : hM) : Mt vI G 2 yX10_riskiest cX10_riskiest 3 (some .int) [hA G 0] m (f_X10_riskiest fu m) := by
  refine mt_of (by decide +kernel) (Nat.le_of_ble_eq_true rfl) (fun X C K => ?_)
  have C : Cx G X 2 cX10_riskiest 3 RX10 (some .int) := C
  show Rf vI G X 0 [(0, hA G 0)] [] m _
  unfold f_X10_riskiest
  refine rf_aload_n C (n := 1) (q := 0) dX10_riskiest_0 rfl rfl rfl ?_
  refine rf_getS C (n := 4) fl_RX10_65 ly_0 rfl dX10_riskiest_1 rfl ?_
  refine rf_getI C (n := 7) fl_RX10_361 ly_46 rfl dX10_riskiest_4 rfl ?_
  refine rf_if_ne C (tgt := 13) (n := 10) dX10_riskiest_7 (by decide) rfl (fun h1 => ?_) (fun h1 => ?_)
  · refine rf_iconst C (n := 14) (v := 0) dX10_riskiest_13 rfl (by decide) ?_
    refine rf_istore_n C (n := 15) [(1, .int 0), (0, hA G 0)] dX10_riskiest_14 rfl rfl (by decide) rfl ?_
    refine rf_iconst C (n := 16) (v := 1) dX10_riskiest_15 rfl (by decide) ?_
    refine rf_istore_n C (n := 17) [(2, .int 1), (1, .int 0), (0, hA G 0)] dX10_riskiest_16 rfl rfl (by decide) rfl ?_
    exact rf_lv _ [2, 1, 0] rfl (r_X10_riskiest_17 C K fu fu _ _ _)
  · refine rf_bipush C (n := 12) (v := (-2)) dX10_riskiest_10 rfl (by decide) ?_
    exact rf_iret C K dX10_riskiest_12
noncomputable def f_X10_site_269 (fu : Nat) (x7 : Int32) (s1 : Int64) (m : hM) : Option (Int32 × hM) :=
  hBd (f_X1_tell fu s1 m) fun _ m28 =>
some (x7, m28)
set_option maxRecDepth 100000 in
set_option maxHeartbeats 4000000 in
theorem r_X10_site_269 {G : hG} {X : hX} (C : Cx G X 8 cX10_site 11 RX10 (some .int)) (K : Cr G X) (fu : Nat) (x7 : Int32) (s1 : Int64) (m : hM) : Rf vI G X 269 [(7, .int x7)] [.long s1, hA G 66] m (f_X10_site_269 fu x7 s1 m) := by
  unfold f_X10_site_269
  refine rf_callVv C (n := 272) (c_X1_tell G fu _ _) mw_RX10_173 ly_66 rfl ⟨by decide, by decide⟩ rfl (Nat.le_of_ble_eq_true rfl) rfl dX10_site_269 rfl (fun _ m28 => ?_)
  refine rf_iload C (n := 274) (q := 0) dX10_site_272 rfl rfl ?_
  exact rf_iret C K dX10_site_274
noncomputable def f_X10_site_206 (fu : Nat) (x5 : Int32) (x6 : Int32) (x7 : Int32) (x8 : Int32) (m : hM) : Option (Int32 × hM) :=
  hBd (f_X0_putKnownToAll fu x6 0 m) fun _ m22 =>
hLet (sI m22 1 4 x6) fun m23 =>
if x7 = (-2) then (
some (x7, m23)) else (
hBd (f_X1_clear fu m23) fun _ m25 =>
hBd (f_X1_tell fu (Int32.toInt64 x8) m25) fun _ m26 =>
if ¬ x5 = (-2) then (
f_X10_site_269 fu x7 (Int32.toInt64 x5) m26) else (
f_X10_site_269 fu x7 (-1) m26))
set_option maxRecDepth 100000 in
set_option maxHeartbeats 4000000 in
theorem r_X10_site_206 {G : hG} {X : hX} (C : Cx G X 8 cX10_site 11 RX10 (some .int)) (K : Cr G X) (fu : Nat) (x5 : Int32) (x6 : Int32) (x7 : Int32) (x8 : Int32) (m : hM) : Rf vI G X 206 [(0, hA G 0), (5, .int x5), (6, .int x6), (7, .int x7), (8, .int x8)] [] m (f_X10_site_206 fu x5 x6 x7 x8 m) := by
  unfold f_X10_site_206
  refine rf_aload_n C (n := 207) (q := 0) dX10_site_206 rfl rfl rfl ?_
  refine rf_getS C (n := 210) fl_RX10_12 ly_0 rfl dX10_site_207 rfl ?_
  refine rf_iload C (n := 212) (q := 2) dX10_site_210 rfl rfl ?_
  refine rf_iconst C (n := 213) (v := 0) dX10_site_212 rfl (by decide) ?_
  refine rf_callVv C (n := 216) (c_X0_putKnownToAll G fu _ _ _) mw_RX10_378 ly_1 rfl ⟨by decide, by decide⟩ rfl (Nat.le_of_ble_eq_true rfl) rfl dX10_site_213 rfl (fun _ m22 => ?_)
  refine rf_aload_n C (n := 217) (q := 0) dX10_site_216 rfl rfl rfl ?_
  refine rf_getS C (n := 220) fl_RX10_12 ly_0 rfl dX10_site_217 rfl ?_
  refine rf_iload C (n := 222) (q := 2) dX10_site_220 rfl rfl ?_
  refine rf_putI C (n := 225) pl_RX10_95 ly_1 rfl ⟨rfl, rfl⟩ dX10_site_222 rfl ?_
  refine rf_letM (fun m23 => ?_)
  refine rf_iload C (n := 227) (q := 3) dX10_site_225 rfl rfl ?_
  refine rf_bipush C (n := 229) (v := (-2)) dX10_site_227 rfl (by decide) ?_
  refine rf_icmp_eq C (tgt := 272) (n := 232) dX10_site_229 (by decide) rfl (fun h24 => ?_) (fun h24 => ?_)
  · refine rf_iload C (n := 274) (q := 3) dX10_site_272 rfl rfl ?_
    exact rf_iret C K dX10_site_274
  · refine rf_aload_n C (n := 233) (q := 0) dX10_site_232 rfl rfl rfl ?_
    refine rf_getS C (n := 236) fl_RX10_83 ly_0 rfl dX10_site_233 rfl ?_
    refine rf_callVv C (n := 239) (c_X1_clear G fu _) mw_RX10_170 ly_66 rfl ⟨by decide, by decide⟩ rfl (Nat.le_of_ble_eq_true rfl) rfl dX10_site_236 rfl (fun _ m25 => ?_)
    refine rf_aload_n C (n := 240) (q := 0) dX10_site_239 rfl rfl rfl ?_
    refine rf_getS C (n := 243) fl_RX10_83 ly_0 rfl dX10_site_240 rfl ?_
    refine rf_iload C (n := 245) (q := 4) dX10_site_243 rfl rfl ?_
    refine rf_i2l C (n := 246) dX10_site_245 rfl ?_
    refine rf_callVv C (n := 249) (c_X1_tell G fu _ _) mw_RX10_173 ly_66 rfl ⟨by decide, by decide⟩ rfl (Nat.le_of_ble_eq_true rfl) rfl dX10_site_246 rfl (fun _ m26 => ?_)
    refine rf_aload_n C (n := 250) (q := 0) dX10_site_249 rfl rfl rfl ?_
    refine rf_getS C (n := 253) fl_RX10_83 ly_0 rfl dX10_site_250 rfl ?_
    refine rf_iload C (n := 255) (q := 1) dX10_site_253 rfl rfl ?_
    refine rf_bipush C (n := 257) (v := (-2)) dX10_site_255 rfl (by decide) ?_
    refine rf_icmp_ne C (tgt := 266) (n := 260) dX10_site_257 (by decide) rfl (fun h27 => ?_) (fun h27 => ?_)
    · refine rf_iload C (n := 268) (q := 1) dX10_site_266 rfl rfl ?_
      refine rf_i2l C (n := 269) dX10_site_268 rfl ?_
      exact rf_lv _ [3] rfl (r_X10_site_269 C K fu _ _ _)
    · refine rf_ldc2 C (n := 263) dX10_site_260 rfl kl_RX10_381 ?_
      refine rf_goto C (n := 269) dX10_site_263 (by decide) ?_
      exact rf_lv _ [3] rfl (r_X10_site_269 C K fu _ _ _)
noncomputable def f_X10_site_200 (fu : Nat) (k122 : Int32 → Int32 → Int32 → Int32 → Int32 → Int32 → Int32 → Int32 → hM → Option (Int32 × hM)) (x1 : Int32) (x2 : Int32) (x4 : Int32) (x5 : Int32) (x6 : Int32) (x7 : Int32) (x8 : Int32) (x9 : Int32) (m : hM) : Option (Int32 × hM) :=
  hLet (x9 + 1) fun y38 =>
k122 x1 x2 x4 x5 x6 x7 x8 y38 m
set_option maxRecDepth 100000 in
set_option maxHeartbeats 4000000 in
theorem r_X10_site_200 {G : hG} {X : hX} (C : Cx G X 8 cX10_site 11 RX10 (some .int)) (K : Cr G X) (fu : Nat) (k122 : Int32 → Int32 → Int32 → Int32 → Int32 → Int32 → Int32 → Int32 → hM → Option (Int32 × hM)) (hk122 : ∀ (x1 : Int32) (x2 : Int32) (x4 : Int32) (x5 : Int32) (x6 : Int32) (x7 : Int32) (x8 : Int32) (x9 : Int32) (m : hM), Rf vI G X 122 [(0, hA G 0), (1, .int x1), (2, .int x2), (4, .int x4), (5, .int x5), (6, .int x6), (7, .int x7), (8, .int x8), (9, .int x9)] [] m (k122 x1 x2 x4 x5 x6 x7 x8 x9 m)) (x1 : Int32) (x2 : Int32) (x4 : Int32) (x5 : Int32) (x6 : Int32) (x7 : Int32) (x8 : Int32) (x9 : Int32) (m : hM) : Rf vI G X 200 [(0, hA G 0), (1, .int x1), (2, .int x2), (4, .int x4), (5, .int x5), (6, .int x6), (7, .int x7), (8, .int x8), (9, .int x9)] [] m (f_X10_site_200 fu k122 x1 x2 x4 x5 x6 x7 x8 x9 m) := by
  unfold f_X10_site_200
  refine rf_iinc2 C (n := 203) (q := 8) (fun y38 => [(9, .int y38), (0, hA G 0), (1, .int x1), (2, .int x2), (4, .int x4), (5, .int x5), (6, .int x6), (7, .int x7), (8, .int x8)]) dX10_site_200 rfl rfl (by decide) (by decide) (fun _ => rfl) (fun y38 => ?_)
  refine rf_goto C (n := 122) dX10_site_203 (by decide) ?_
  exact rf_lv _ [1, 2, 3, 4, 5, 6, 7, 8, 0] rfl (hk122 _ _ _ _ _ _ _ _ _)
noncomputable def s_X10_site_122 (fu : Nat) (ih : Int32 → Int32 → Int32 → Int32 → Int32 → Int32 → Int32 → Int32 → hM → Option (Int32 × hM)) (x1 : Int32) (x2 : Int32) (x4 : Int32) (x5 : Int32) (x6 : Int32) (x7 : Int32) (x8 : Int32) (x9 : Int32) (m : hM) : Option (Int32 × hM) :=
  if 24 ≤ x9 then (
f_X10_site_206 fu x5 x6 x7 x8 m) else (
if hIn x6 6 then (
hBd (f_X2_settle fu (6 + 2 * (Int32.toNatClampNeg x6)) ((x9 * 24) + 9) x1 1 x2 m) fun _ m30 =>
hBd (f_X0_refresh fu x6 0 2500 m30) fun _ m31 =>
hBd (f_X10_begunAt fu x4 m31) fun y32 m33 =>
if y32 = 55 then (
hBd (f_X8_runToEnd fu 55 (x8 - 1) m33) fun y35 m36 =>
if y35 = (-2) then (
f_X10_site_200 fu ih x1 x2 x4 x5 x6 x7 x8 x9 m36) else (
f_X10_site_200 fu ih x1 x2 x4 x5 x6 x9 y35 x9 m36)) else none) else none)
noncomputable def f_X10_site_122 (fu : Nat) (n : Nat) : Int32 → Int32 → Int32 → Int32 → Int32 → Int32 → Int32 → Int32 → hM → Option (Int32 × hM) :=
  Nat.rec (motive := fun _ => Int32 → Int32 → Int32 → Int32 → Int32 → Int32 → Int32 → Int32 → hM → Option (Int32 × hM)) (fun _ _ _ _ _ _ _ _ _ => none) (fun _ ih => s_X10_site_122 fu ih) n
theorem f_X10_site_122_s (fu : Nat) (n : Nat) (x1 : Int32) (x2 : Int32) (x4 : Int32) (x5 : Int32) (x6 : Int32) (x7 : Int32) (x8 : Int32) (x9 : Int32) (m : hM) : f_X10_site_122 fu (n + 1) x1 x2 x4 x5 x6 x7 x8 x9 m = s_X10_site_122 fu (f_X10_site_122 fu n) x1 x2 x4 x5 x6 x7 x8 x9 m := rfl
set_option maxRecDepth 100000 in
set_option maxHeartbeats 4000000 in
theorem r_X10_site_122 {G : hG} {X : hX} (C : Cx G X 8 cX10_site 11 RX10 (some .int)) (K : Cr G X) (fu : Nat) (n : Nat) : ∀ (x1 : Int32) (x2 : Int32) (x4 : Int32) (x5 : Int32) (x6 : Int32) (x7 : Int32) (x8 : Int32) (x9 : Int32) (m : hM), Rf vI G X 122 [(0, hA G 0), (1, .int x1), (2, .int x2), (4, .int x4), (5, .int x5), (6, .int x6), (7, .int x7), (8, .int x8), (9, .int x9)] [] m (f_X10_site_122 fu n x1 x2 x4 x5 x6 x7 x8 x9 m) := by
  induction n with
  | zero => intros; exact rf_none
  | succ n ih =>
    intro x1 x2 x4 x5 x6 x7 x8 x9 m
    show Rf vI G X 122 [(0, hA G 0), (1, .int x1), (2, .int x2), (4, .int x4), (5, .int x5), (6, .int x6), (7, .int x7), (8, .int x8), (9, .int x9)] [] m (s_X10_site_122 fu (f_X10_site_122 fu n) x1 x2 x4 x5 x6 x7 x8 x9 m)
    unfold s_X10_site_122
    refine rf_iload C (n := 124) (q := 8) dX10_site_122 rfl rfl ?_
    refine rf_bipush C (n := 126) (v := 24) dX10_site_124 rfl (by decide) ?_
    refine rf_icmp_ge C (tgt := 206) (n := 129) dX10_site_126 (by decide) rfl (fun h21 => ?_) (fun h21 => ?_)
    · exact rf_lv _ [0, 4, 5, 6, 7] rfl (r_X10_site_206 C K fu _ _ _ _ _)
    · refine rf_aload_n C (n := 130) (q := 0) dX10_site_129 rfl rfl rfl ?_
      refine rf_getS C (n := 133) fl_RX10_12 ly_0 rfl dX10_site_130 rfl ?_
      refine rf_getS C (n := 136) fl_RX10_102 ly_1 rfl dX10_site_133 rfl ?_
      refine rf_iload C (n := 138) (q := 5) dX10_site_136 rfl rfl ?_
      refine rf_guard (fun h29 => ?_)
      refine rf_aaldO C (n := 139) ly_2 h29 (of_r h29) dX10_site_138 rfl ?_
      refine rf_iload C (n := 141) (q := 8) dX10_site_139 rfl rfl ?_
      refine rf_bipush C (n := 143) (v := 24) dX10_site_141 rfl (by decide) ?_
      refine rf_imul C (n := 144) dX10_site_143 rfl ?_
      refine rf_bipush C (n := 146) (v := 9) dX10_site_144 rfl (by decide) ?_
      refine rf_iadd C (n := 147) dX10_site_146 rfl ?_
      refine rf_iload_n C (n := 148) (q := 1) dX10_site_147 rfl rfl rfl ?_
      refine rf_iconst C (n := 149) (v := 1) dX10_site_148 rfl (by decide) ?_
      refine rf_iload_n C (n := 150) (q := 2) dX10_site_149 rfl rfl rfl ?_
      refine rf_callVv C (n := 153) (c_X2_settle G fu _ _ _ _ _ _) mw_RX10_106 (pO_l (of_o h29)) rfl ⟨by decide, by decide⟩ rfl (Nat.le_of_ble_eq_true rfl) rfl dX10_site_150 rfl (fun _ m30 => ?_)
      refine rf_aload_n C (n := 154) (q := 0) dX10_site_153 rfl rfl rfl ?_
      refine rf_getS C (n := 157) fl_RX10_12 ly_0 rfl dX10_site_154 rfl ?_
      refine rf_iload C (n := 159) (q := 5) dX10_site_157 rfl rfl ?_
      refine rf_iconst C (n := 160) (v := 0) dX10_site_159 rfl (by decide) ?_
      refine rf_sipush C (n := 163) (v := 2500) dX10_site_160 rfl (by decide) ?_
      refine rf_callVv C (n := 166) (c_X0_refresh G fu _ _ _ _) mw_RX10_112 ly_1 rfl ⟨by decide, by decide⟩ rfl (Nat.le_of_ble_eq_true rfl) rfl dX10_site_163 rfl (fun _ m31 => ?_)
      refine rf_aload_n C (n := 167) (q := 0) dX10_site_166 rfl rfl rfl ?_
      refine rf_getS C (n := 170) fl_RX10_42 ly_0 rfl dX10_site_167 rfl ?_
      refine rf_aload_n C (n := 171) (q := 0) dX10_site_170 rfl rfl rfl ?_
      refine rf_iload C (n := 173) (q := 3) dX10_site_171 rfl rfl ?_
      refine rf_callVa C (n := 176) (c_X10_begunAt G fu _ _) mw_RX10_323 ly_0 rfl ⟨by decide, by decide⟩ rfl (Nat.le_of_ble_eq_true rfl) rfl dX10_site_173 rfl (fun y32 m33 => ?_)
      refine rf_guard (fun h34 => ?_)
      subst h34
      refine rf_iload C (n := 178) (q := 7) dX10_site_176 rfl rfl ?_
      refine rf_iconst C (n := 179) (v := 1) dX10_site_178 rfl (by decide) ?_
      refine rf_isub C (n := 180) dX10_site_179 rfl ?_
      refine rf_callVi C (n := 183) (c_X8_runToEnd G fu _ _ _) mw_RX10_270 ly_32 rfl ⟨by decide, by decide⟩ rfl (Nat.le_of_ble_eq_true rfl) rfl dX10_site_180 rfl (fun y35 m36 => ?_)
      refine rf_istore C (n := 185) [(10, .int y35), (0, hA G 0), (1, .int x1), (2, .int x2), (4, .int x4), (5, .int x5), (6, .int x6), (7, .int x7), (8, .int x8), (9, .int x9)] dX10_site_183 rfl (by decide) rfl ?_
      refine rf_iload C (n := 187) (q := 0) dX10_site_185 rfl rfl ?_
      refine rf_bipush C (n := 189) (v := (-2)) dX10_site_187 rfl (by decide) ?_
      refine rf_icmp_eq C (tgt := 200) (n := 192) dX10_site_189 (by decide) rfl (fun h37 => ?_) (fun h37 => ?_)
      · exact rf_lv _ [1, 2, 3, 4, 5, 6, 7, 8, 9] rfl (r_X10_site_200 C K fu _ ih _ _ _ _ _ _ _ _ _)
      · refine rf_iload C (n := 194) (q := 9) dX10_site_192 rfl rfl ?_
        refine rf_istore C (n := 196) [(7, .int x9), (10, .int y35), (0, hA G 0), (1, .int x1), (2, .int x2), (4, .int x4), (5, .int x5), (6, .int x6), (8, .int x8), (9, .int x9)] dX10_site_194 rfl (by decide) rfl ?_
        refine rf_iload C (n := 198) (q := 1) dX10_site_196 rfl rfl ?_
        refine rf_istore C (n := 200) [(8, .int y35), (7, .int x9), (10, .int y35), (0, hA G 0), (1, .int x1), (2, .int x2), (4, .int x4), (5, .int x5), (6, .int x6), (9, .int x9)] dX10_site_198 rfl (by decide) rfl ?_
        exact rf_lv _ [3, 4, 5, 6, 7, 8, 1, 0, 9] rfl (r_X10_site_200 C K fu _ ih _ _ _ _ _ _ _ _ _)
noncomputable def f_X10_site (fu : Nat) (x1 : Int32) (x2 : Int32) (x3 : Int32) (x4 : Int32) (m : hM) : Option (Int32 × hM) :=
  if x1 < 1 then (
some ((-1), m)) else (
if 16 < x1 then (
some ((-1), m)) else (
hBd (f_X10_isStaff fu x2 m) fun y3 m4 =>
if y3 = 0 then (
some ((-1), m4)) else (
if x3 < 0 then (
some ((-1), m4)) else (
if x3 ≤ 9 then (
hBd (f_X10_isHour fu x4 m4) fun y8 m9 =>
if y8 = 0 then (
some ((-1), m9)) else (
if 6 ≤ (gI m9 1 4) then (
some ((-1), m9)) else (
if ¬ (gI m9 18 6) = 0 then (
hBd (f_X10_begunAt fu x4 m9) fun y13 m14 =>
if y13 = 55 then (
hBd (f_X8_runToEnd fu 55 2399 m14) fun y16 m17 =>
hLet (gI m17 1 4) fun y18 =>
hLet (sI m17 1 4 (y18 + 1)) fun m19 =>
hBd (f_X0_putKnownToAll fu y18 x3 m19) fun _ m20 =>
f_X10_site_122 fu fu x1 x2 x4 y16 y18 (-2) 2400 0 m20) else none) else (
some ((-1), m9))))) else (
some ((-1), m4))))))
set_option maxRecDepth 100000 in
set_option maxHeartbeats 4000000 in
theorem c_X10_site (G : hG) (fu : Nat) (x1 : Int32) (x2 : Int32) (x3 : Int32) (x4 : Int32) (m : hM) : Mt vI G 8 yX10_site cX10_site 11 (some .int) [hA G 0, .int x1, .int x2, .int x3, .int x4] m (f_X10_site fu x1 x2 x3 x4 m) := by
  refine mt_of (by decide +kernel) (Nat.le_of_ble_eq_true rfl) (fun X C K => ?_)
  have C : Cx G X 8 cX10_site 11 RX10 (some .int) := C
  show Rf vI G X 0 [(0, hA G 0), (1, .int x1), (2, .int x2), (3, .int x3), (4, .int x4)] [] m _
  unfold f_X10_site
  refine rf_iload_n C (n := 1) (q := 1) dX10_site_0 rfl rfl rfl ?_
  refine rf_iconst C (n := 2) (v := 1) dX10_site_1 rfl (by decide) ?_
  refine rf_icmp_lt C (tgt := 28) (n := 5) dX10_site_2 (by decide) rfl (fun h1 => ?_) (fun h1 => ?_)
  · refine rf_iconst C (n := 29) (v := (-1)) dX10_site_28 rfl (by decide) ?_
    exact rf_iret C K dX10_site_29
  · refine rf_iload_n C (n := 6) (q := 1) dX10_site_5 rfl rfl rfl ?_
    refine rf_bipush C (n := 8) (v := 16) dX10_site_6 rfl (by decide) ?_
    refine rf_icmp_gt C (tgt := 28) (n := 11) dX10_site_8 (by decide) rfl (fun h2 => ?_) (fun h2 => ?_)
    · refine rf_iconst C (n := 29) (v := (-1)) dX10_site_28 rfl (by decide) ?_
      exact rf_iret C K dX10_site_29
    · refine rf_iload_n C (n := 12) (q := 2) dX10_site_11 rfl rfl rfl ?_
      refine rf_callSi C (n := 15) (c_X10_isStaff G fu _ _) sw_RX10_98 ⟨by decide, by decide⟩ rfl (Nat.le_of_ble_eq_true rfl) rfl dX10_site_12 rfl (fun y3 m4 => ?_)
      refine rf_if_eq C (tgt := 28) (n := 18) dX10_site_15 (by decide) rfl (fun h5 => ?_) (fun h5 => ?_)
      · refine rf_iconst C (n := 29) (v := (-1)) dX10_site_28 rfl (by decide) ?_
        exact rf_iret C K dX10_site_29
      · refine rf_iload_n C (n := 19) (q := 3) dX10_site_18 rfl rfl rfl ?_
        refine rf_if_lt C (tgt := 28) (n := 22) dX10_site_19 (by decide) rfl (fun h6 => ?_) (fun h6 => ?_)
        · refine rf_iconst C (n := 29) (v := (-1)) dX10_site_28 rfl (by decide) ?_
          exact rf_iret C K dX10_site_29
        · refine rf_iload_n C (n := 23) (q := 3) dX10_site_22 rfl rfl rfl ?_
          refine rf_bipush C (n := 25) (v := 9) dX10_site_23 rfl (by decide) ?_
          refine rf_icmp_le C (tgt := 30) (n := 28) dX10_site_25 (by decide) rfl (fun h7 => ?_) (fun h7 => ?_)
          · refine rf_iload C (n := 32) (q := 4) dX10_site_30 rfl rfl ?_
            refine rf_callSi C (n := 35) (c_X10_isHour G fu _ _) sw_RX10_119 ⟨by decide, by decide⟩ rfl (Nat.le_of_ble_eq_true rfl) rfl dX10_site_32 rfl (fun y8 m9 => ?_)
            refine rf_if_eq C (tgt := 60) (n := 38) dX10_site_35 (by decide) rfl (fun h10 => ?_) (fun h10 => ?_)
            · refine rf_iconst C (n := 61) (v := (-1)) dX10_site_60 rfl (by decide) ?_
              exact rf_iret C K dX10_site_61
            · refine rf_aload_n C (n := 39) (q := 0) dX10_site_38 rfl rfl rfl ?_
              refine rf_getS C (n := 42) fl_RX10_12 ly_0 rfl dX10_site_39 rfl ?_
              refine rf_getI C (n := 45) fl_RX10_95 ly_1 rfl dX10_site_42 rfl ?_
              refine rf_bipush C (n := 47) (v := 6) dX10_site_45 rfl (by decide) ?_
              refine rf_icmp_ge C (tgt := 60) (n := 50) dX10_site_47 (by decide) rfl (fun h11 => ?_) (fun h11 => ?_)
              · refine rf_iconst C (n := 61) (v := (-1)) dX10_site_60 rfl (by decide) ?_
                exact rf_iret C K dX10_site_61
              · refine rf_aload_n C (n := 51) (q := 0) dX10_site_50 rfl rfl rfl ?_
                refine rf_getS C (n := 54) fl_RX10_19 ly_0 rfl dX10_site_51 rfl ?_
                refine rf_getI C (n := 57) fl_RX10_177 ly_18 rfl dX10_site_54 rfl ?_
                refine rf_if_ne C (tgt := 62) (n := 60) dX10_site_57 (by decide) rfl (fun h12 => ?_) (fun h12 => ?_)
                · refine rf_aload_n C (n := 63) (q := 0) dX10_site_62 rfl rfl rfl ?_
                  refine rf_getS C (n := 66) fl_RX10_42 ly_0 rfl dX10_site_63 rfl ?_
                  refine rf_aload_n C (n := 67) (q := 0) dX10_site_66 rfl rfl rfl ?_
                  refine rf_iload C (n := 69) (q := 4) dX10_site_67 rfl rfl ?_
                  refine rf_callVa C (n := 72) (c_X10_begunAt G fu _ _) mw_RX10_323 ly_0 rfl ⟨by decide, by decide⟩ rfl (Nat.le_of_ble_eq_true rfl) rfl dX10_site_69 rfl (fun y13 m14 => ?_)
                  refine rf_guard (fun h15 => ?_)
                  subst h15
                  refine rf_sipush C (n := 75) (v := 2399) dX10_site_72 rfl (by decide) ?_
                  refine rf_callVi C (n := 78) (c_X8_runToEnd G fu _ _ _) mw_RX10_270 ly_32 rfl ⟨by decide, by decide⟩ rfl (Nat.le_of_ble_eq_true rfl) rfl dX10_site_75 rfl (fun y16 m17 => ?_)
                  refine rf_istore C (n := 80) [(5, .int y16), (0, hA G 0), (1, .int x1), (2, .int x2), (3, .int x3), (4, .int x4)] dX10_site_78 rfl (by decide) rfl ?_
                  refine rf_aload_n C (n := 81) (q := 1) dX10_site_80 rfl rfl rfl ?_
                  refine rf_getS C (n := 84) fl_RX10_12 ly_0 rfl dX10_site_81 rfl ?_
                  refine rf_getI C (n := 87) fl_RX10_95 ly_1 rfl dX10_site_84 rfl ?_
                  refine rf_letI (fun y18 => ?_)
                  refine rf_istore C (n := 89) [(6, .int y18), (5, .int y16), (0, hA G 0), (1, .int x1), (2, .int x2), (3, .int x3), (4, .int x4)] dX10_site_87 rfl (by decide) rfl ?_
                  refine rf_aload_n C (n := 90) (q := 2) dX10_site_89 rfl rfl rfl ?_
                  refine rf_getS C (n := 93) fl_RX10_12 ly_0 rfl dX10_site_90 rfl ?_
                  refine rf_iload C (n := 95) (q := 0) dX10_site_93 rfl rfl ?_
                  refine rf_iconst C (n := 96) (v := 1) dX10_site_95 rfl (by decide) ?_
                  refine rf_iadd C (n := 97) dX10_site_96 rfl ?_
                  refine rf_putI C (n := 100) pl_RX10_95 ly_1 rfl ⟨rfl, rfl⟩ dX10_site_97 rfl ?_
                  refine rf_letM (fun m19 => ?_)
                  refine rf_aload_n C (n := 101) (q := 2) dX10_site_100 rfl rfl rfl ?_
                  refine rf_getS C (n := 104) fl_RX10_12 ly_0 rfl dX10_site_101 rfl ?_
                  refine rf_iload C (n := 106) (q := 0) dX10_site_104 rfl rfl ?_
                  refine rf_iload_n C (n := 107) (q := 5) dX10_site_106 rfl rfl rfl ?_
                  refine rf_callVv C (n := 110) (c_X0_putKnownToAll G fu _ _ _) mw_RX10_378 ly_1 rfl ⟨by decide, by decide⟩ rfl (Nat.le_of_ble_eq_true rfl) rfl dX10_site_107 rfl (fun _ m20 => ?_)
                  refine rf_bipush C (n := 112) (v := (-2)) dX10_site_110 rfl (by decide) ?_
                  refine rf_istore C (n := 114) [(7, .int (-2)), (6, .int y18), (5, .int y16), (0, hA G 0), (1, .int x1), (2, .int x2), (3, .int x3), (4, .int x4)] dX10_site_112 rfl (by decide) rfl ?_
                  refine rf_sipush C (n := 117) (v := 2400) dX10_site_114 rfl (by decide) ?_
                  refine rf_istore C (n := 119) [(8, .int 2400), (7, .int (-2)), (6, .int y18), (5, .int y16), (0, hA G 0), (1, .int x1), (2, .int x2), (3, .int x3), (4, .int x4)] dX10_site_117 rfl (by decide) rfl ?_
                  refine rf_iconst C (n := 120) (v := 0) dX10_site_119 rfl (by decide) ?_
                  refine rf_istore C (n := 122) [(9, .int 0), (8, .int 2400), (7, .int (-2)), (6, .int y18), (5, .int y16), (0, hA G 0), (1, .int x1), (2, .int x2), (3, .int x3), (4, .int x4)] dX10_site_120 rfl (by decide) rfl ?_
                  exact rf_lv _ [5, 6, 7, 9, 4, 3, 2, 1, 0] rfl (r_X10_site_122 C K fu fu _ _ _ _ _ _ _ _ _)
                · refine rf_iconst C (n := 61) (v := (-1)) dX10_site_60 rfl (by decide) ?_
                  exact rf_iret C K dX10_site_61
          · refine rf_iconst C (n := 29) (v := (-1)) dX10_site_28 rfl (by decide) ?_
            exact rf_iret C K dX10_site_29
noncomputable def f_X10_together (fu : Nat) (x1 : Int32) (x2 : Int32) (m : hM) : Option (Int32 × hM) :=
  hBd (f_X0_has fu x1 m) fun y1 m2 =>
if y1 = 0 then (
some ((-1), m2)) else (
hBd (f_X10_isHour fu x2 m2) fun y4 m5 =>
if y4 = 0 then (
some ((-1), m5)) else (
if ¬ (gI m5 18 6) = 0 then (
if hIn x1 6 then (
hLet (gI m5 (6 + 2 * (Int32.toNatClampNeg x1)) 5) fun y9 =>
hLet (gI m5 (6 + 2 * (Int32.toNatClampNeg x1)) 4) fun y10 =>
hBd (f_X0_allPeople fu m5) fun y11 m12 =>
hBd (f_J9_min_7cf53 fu y11 9 m12) fun y13 m14 =>
hLet (sI m14 (6 + 2 * (Int32.toNatClampNeg x1)) 4 y13) fun m15 =>
hLet (sI m15 (6 + 2 * (Int32.toNatClampNeg x1)) 5 63) fun m16 =>
hLet (sI m16 32 3 0) fun m17 =>
hLet (sI m17 32 4 0) fun m18 =>
hBd (f_X10_begunAt fu x2 m18) fun y19 m20 =>
if y19 = 55 then (
hBd (f_J7_fill_53178 fu 56 8 x1 m20) fun _ m22 =>
hBd (f_X8_runToEnd fu 55 2399 m22) fun y23 m24 =>
hLet (sI m24 32 4 1) fun m25 =>
hLet (sI m25 32 3 1) fun m26 =>
hLet (sI m26 (6 + 2 * (Int32.toNatClampNeg x1)) 5 y9) fun m27 =>
hLet (sI m27 (6 + 2 * (Int32.toNatClampNeg x1)) 4 y10) fun m28 =>
if y23 = (-2) then (
some (y23, m28)) else (
hBd (f_X10_tellEnd fu 0 0 0 m28) fun _ m30 =>
some (y23, m30))) else none) else none) else (
some ((-1), m5))))
set_option maxRecDepth 100000 in
set_option maxHeartbeats 4000000 in
theorem c_X10_together (G : hG) (fu : Nat) (x1 : Int32) (x2 : Int32) (m : hM) : Mt vI G 8 yX10_together cX10_together 7 (some .int) [hA G 0, .int x1, .int x2] m (f_X10_together fu x1 x2 m) := by
  refine mt_of (by decide +kernel) (Nat.le_of_ble_eq_true rfl) (fun X C K => ?_)
  have C : Cx G X 8 cX10_together 7 RX10 (some .int) := C
  show Rf vI G X 0 [(0, hA G 0), (1, .int x1), (2, .int x2)] [] m _
  unfold f_X10_together
  refine rf_aload_n C (n := 1) (q := 0) dX10_together_0 rfl rfl rfl ?_
  refine rf_getS C (n := 4) fl_RX10_12 ly_0 rfl dX10_together_1 rfl ?_
  refine rf_iload_n C (n := 5) (q := 1) dX10_together_4 rfl rfl rfl ?_
  refine rf_callVi C (n := 8) (c_X0_has G fu _ _) mw_RX10_116 ly_1 rfl ⟨by decide, by decide⟩ rfl (Nat.le_of_ble_eq_true rfl) rfl dX10_together_5 rfl (fun y1 m2 => ?_)
  refine rf_if_eq C (tgt := 28) (n := 11) dX10_together_8 (by decide) rfl (fun h3 => ?_) (fun h3 => ?_)
  · refine rf_iconst C (n := 29) (v := (-1)) dX10_together_28 rfl (by decide) ?_
    exact rf_iret C K dX10_together_29
  · refine rf_iload_n C (n := 12) (q := 2) dX10_together_11 rfl rfl rfl ?_
    refine rf_callSi C (n := 15) (c_X10_isHour G fu _ _) sw_RX10_119 ⟨by decide, by decide⟩ rfl (Nat.le_of_ble_eq_true rfl) rfl dX10_together_12 rfl (fun y4 m5 => ?_)
    refine rf_if_eq C (tgt := 28) (n := 18) dX10_together_15 (by decide) rfl (fun h6 => ?_) (fun h6 => ?_)
    · refine rf_iconst C (n := 29) (v := (-1)) dX10_together_28 rfl (by decide) ?_
      exact rf_iret C K dX10_together_29
    · refine rf_aload_n C (n := 19) (q := 0) dX10_together_18 rfl rfl rfl ?_
      refine rf_getS C (n := 22) fl_RX10_19 ly_0 rfl dX10_together_19 rfl ?_
      refine rf_getI C (n := 25) fl_RX10_177 ly_18 rfl dX10_together_22 rfl ?_
      refine rf_if_ne C (tgt := 30) (n := 28) dX10_together_25 (by decide) rfl (fun h7 => ?_) (fun h7 => ?_)
      · refine rf_aload_n C (n := 31) (q := 0) dX10_together_30 rfl rfl rfl ?_
        refine rf_getS C (n := 34) fl_RX10_12 ly_0 rfl dX10_together_31 rfl ?_
        refine rf_getS C (n := 37) fl_RX10_102 ly_1 rfl dX10_together_34 rfl ?_
        refine rf_iload_n C (n := 38) (q := 1) dX10_together_37 rfl rfl rfl ?_
        refine rf_guard (fun h8 => ?_)
        refine rf_aaldO C (n := 39) ly_2 h8 (of_r h8) dX10_together_38 rfl ?_
        refine rf_astore_n C (n := 40) [(3, hA G (6 + 2 * (Int32.toNatClampNeg x1))), (0, hA G 0), (1, .int x1), (2, .int x2)] dX10_together_39 rfl rfl (by decide) rfl ?_
        refine rf_aload_n C (n := 41) (q := 0) dX10_together_40 rfl rfl rfl ?_
        refine rf_getI C (n := 44) fl_RX10_383 (pO_l (of_o h8)) rfl dX10_together_41 rfl ?_
        refine rf_letI (fun y9 => ?_)
        refine rf_istore C (n := 46) [(4, .int y9), (3, hA G (6 + 2 * (Int32.toNatClampNeg x1))), (0, hA G 0), (1, .int x1), (2, .int x2)] dX10_together_44 rfl (by decide) rfl ?_
        refine rf_aload_n C (n := 47) (q := 1) dX10_together_46 rfl rfl rfl ?_
        refine rf_getI C (n := 50) fl_RX10_386 (pO_l (of_o h8)) rfl dX10_together_47 rfl ?_
        refine rf_letI (fun y10 => ?_)
        refine rf_istore C (n := 52) [(5, .int y10), (4, .int y9), (3, hA G (6 + 2 * (Int32.toNatClampNeg x1))), (0, hA G 0), (1, .int x1), (2, .int x2)] dX10_together_50 rfl (by decide) rfl ?_
        refine rf_aload_n C (n := 53) (q := 2) dX10_together_52 rfl rfl rfl ?_
        refine rf_aload_n C (n := 54) (q := 3) dX10_together_53 rfl rfl rfl ?_
        refine rf_getS C (n := 57) fl_RX10_12 ly_0 rfl dX10_together_54 rfl ?_
        refine rf_callVi C (n := 60) (c_X0_allPeople G fu _) mw_RX10_389 ly_1 rfl ⟨by decide, by decide⟩ rfl (Nat.le_of_ble_eq_true rfl) rfl dX10_together_57 rfl (fun y11 m12 => ?_)
        refine rf_bipush C (n := 62) (v := 9) dX10_together_60 rfl (by decide) ?_
        refine rf_callSi C (n := 65) (c_J9_min_7cf53 G fu _ _ _) sw_RX10_364 ⟨by decide, by decide⟩ rfl (Nat.le_of_ble_eq_true rfl) rfl dX10_together_62 rfl (fun y13 m14 => ?_)
        refine rf_putI C (n := 68) pl_RX10_386 (pO_l (of_o h8)) rfl ⟨rfl, rfl⟩ dX10_together_65 rfl ?_
        refine rf_letM (fun m15 => ?_)
        refine rf_aload_n C (n := 69) (q := 2) dX10_together_68 rfl rfl rfl ?_
        refine rf_bipush C (n := 71) (v := 63) dX10_together_69 rfl (by decide) ?_
        refine rf_putI C (n := 74) pl_RX10_383 (pO_l (of_o h8)) rfl ⟨rfl, rfl⟩ dX10_together_71 rfl ?_
        refine rf_letM (fun m16 => ?_)
        refine rf_aload_n C (n := 75) (q := 3) dX10_together_74 rfl rfl rfl ?_
        refine rf_getS C (n := 78) fl_RX10_42 ly_0 rfl dX10_together_75 rfl ?_
        refine rf_iconst C (n := 79) (v := 0) dX10_together_78 rfl (by decide) ?_
        refine rf_putI C (n := 82) pl_RX10_319 ly_32 rfl ⟨rfl, rfl⟩ dX10_together_79 rfl ?_
        refine rf_letM (fun m17 => ?_)
        refine rf_aload_n C (n := 83) (q := 3) dX10_together_82 rfl rfl rfl ?_
        refine rf_getS C (n := 86) fl_RX10_42 ly_0 rfl dX10_together_83 rfl ?_
        refine rf_iconst C (n := 87) (v := 0) dX10_together_86 rfl (by decide) ?_
        refine rf_putI C (n := 90) pl_RX10_392 ly_32 rfl ⟨rfl, rfl⟩ dX10_together_87 rfl ?_
        refine rf_letM (fun m18 => ?_)
        refine rf_aload_n C (n := 91) (q := 3) dX10_together_90 rfl rfl rfl ?_
        refine rf_iload_n C (n := 92) (q := 5) dX10_together_91 rfl rfl rfl ?_
        refine rf_callVa C (n := 95) (c_X10_begunAt G fu _ _) mw_RX10_323 ly_0 rfl ⟨by decide, by decide⟩ rfl (Nat.le_of_ble_eq_true rfl) rfl dX10_together_92 rfl (fun y19 m20 => ?_)
        refine rf_guard (fun h21 => ?_)
        subst h21
        refine rf_pop C (n := 96) dX10_together_95 rfl rfl ?_
        refine rf_aload_n C (n := 97) (q := 3) dX10_together_96 rfl rfl rfl ?_
        refine rf_getS C (n := 100) fl_RX10_69 ly_0 rfl dX10_together_97 rfl ?_
        refine rf_getS C (n := 103) fl_RX10_232 ly_55 rfl dX10_together_100 rfl ?_
        refine rf_iload_n C (n := 104) (q := 4) dX10_together_103 rfl rfl rfl ?_
        refine rf_callSv C (n := 107) (c_J7_fill_53178 G fu _ _ _ _) sw_RX10_395 ⟨by decide, by decide⟩ rfl (Nat.le_of_ble_eq_true rfl) rfl dX10_together_104 rfl (fun _ m22 => ?_)
        refine rf_aload_n C (n := 108) (q := 3) dX10_together_107 rfl rfl rfl ?_
        refine rf_getS C (n := 111) fl_RX10_42 ly_0 rfl dX10_together_108 rfl ?_
        refine rf_aload_n C (n := 112) (q := 3) dX10_together_111 rfl rfl rfl ?_
        refine rf_getS C (n := 115) fl_RX10_69 ly_0 rfl dX10_together_112 rfl ?_
        refine rf_sipush C (n := 118) (v := 2399) dX10_together_115 rfl (by decide) ?_
        refine rf_callVi C (n := 121) (c_X8_runToEnd G fu _ _ _) mw_RX10_270 ly_32 rfl ⟨by decide, by decide⟩ rfl (Nat.le_of_ble_eq_true rfl) rfl dX10_together_118 rfl (fun y23 m24 => ?_)
        refine rf_istore C (n := 123) [(6, .int y23), (5, .int y10), (4, .int y9), (3, hA G (6 + 2 * (Int32.toNatClampNeg x1))), (0, hA G 0), (1, .int x1), (2, .int x2)] dX10_together_121 rfl (by decide) rfl ?_
        refine rf_aload_n C (n := 124) (q := 4) dX10_together_123 rfl rfl rfl ?_
        refine rf_getS C (n := 127) fl_RX10_42 ly_0 rfl dX10_together_124 rfl ?_
        refine rf_iconst C (n := 128) (v := 1) dX10_together_127 rfl (by decide) ?_
        refine rf_putI C (n := 131) pl_RX10_392 ly_32 rfl ⟨rfl, rfl⟩ dX10_together_128 rfl ?_
        refine rf_letM (fun m25 => ?_)
        refine rf_aload_n C (n := 132) (q := 4) dX10_together_131 rfl rfl rfl ?_
        refine rf_getS C (n := 135) fl_RX10_42 ly_0 rfl dX10_together_132 rfl ?_
        refine rf_iconst C (n := 136) (v := 1) dX10_together_135 rfl (by decide) ?_
        refine rf_putI C (n := 139) pl_RX10_319 ly_32 rfl ⟨rfl, rfl⟩ dX10_together_136 rfl ?_
        refine rf_letM (fun m26 => ?_)
        refine rf_aload_n C (n := 140) (q := 3) dX10_together_139 rfl rfl rfl ?_
        refine rf_iload C (n := 142) (q := 2) dX10_together_140 rfl rfl ?_
        refine rf_putI C (n := 145) pl_RX10_383 (pO_l (of_o h8)) rfl ⟨rfl, rfl⟩ dX10_together_142 rfl ?_
        refine rf_letM (fun m27 => ?_)
        refine rf_aload_n C (n := 146) (q := 3) dX10_together_145 rfl rfl rfl ?_
        refine rf_iload C (n := 148) (q := 1) dX10_together_146 rfl rfl ?_
        refine rf_putI C (n := 151) pl_RX10_386 (pO_l (of_o h8)) rfl ⟨rfl, rfl⟩ dX10_together_148 rfl ?_
        refine rf_letM (fun m28 => ?_)
        refine rf_iload C (n := 153) (q := 0) dX10_together_151 rfl rfl ?_
        refine rf_bipush C (n := 155) (v := (-2)) dX10_together_153 rfl (by decide) ?_
        refine rf_icmp_eq C (tgt := 165) (n := 158) dX10_together_155 (by decide) rfl (fun h29 => ?_) (fun h29 => ?_)
        · refine rf_iload C (n := 167) (q := 0) dX10_together_165 rfl rfl ?_
          exact rf_iret C K dX10_together_167
        · refine rf_aload_n C (n := 159) (q := 4) dX10_together_158 rfl rfl rfl ?_
          refine rf_iconst C (n := 160) (v := 0) dX10_together_159 rfl (by decide) ?_
          refine rf_iconst C (n := 161) (v := 0) dX10_together_160 rfl (by decide) ?_
          refine rf_iconst C (n := 162) (v := 0) dX10_together_161 rfl (by decide) ?_
          refine rf_callVv C (n := 165) (c_X10_tellEnd G fu _ _ _ _) mw_RX10_284 ly_0 rfl ⟨by decide, by decide⟩ rfl (Nat.le_of_ble_eq_true rfl) rfl dX10_together_162 rfl (fun _ m30 => ?_)
          refine rf_iload C (n := 167) (q := 0) dX10_together_165 rfl rfl ?_
          exact rf_iret C K dX10_together_167
      · refine rf_iconst C (n := 29) (v := (-1)) dX10_together_28 rfl (by decide) ?_
        exact rf_iret C K dX10_together_29
noncomputable def f_X10_sleeps (fu : Nat) (x1 : Int32) (x2 : Int32) (m : hM) : Option (Int32 × hM) :=
  hBd (f_X0_has fu x1 m) fun y1 m2 =>
if y1 = 0 then (
some ((-1), m2)) else (
hBd (f_X10_isDay fu x2 m2) fun y4 m5 =>
if y4 = 0 then (
some ((-1), m5)) else (
if ¬ (gI m5 18 6) = 0 then (
if hIn x1 6 then (
if hIn x2 100 then (
if (gI m5 (6 + 2 * (Int32.toNatClampNeg x1) + 1) (Int32.toNatClampNeg x2)) = 0 then (
hBd (f_X10_fromNow fu m5) fun y11 m12 =>
if y11 = 55 then (
hBd (f_X8_runToEnd fu 55 2399 m12) fun y14 m15 =>
hBd (f_X0_putFeast fu x1 x2 1 m15) fun _ m16 =>
hBd (f_X10_fromNow fu m16) fun y17 m18 =>
if y17 = 55 then (
hBd (f_X8_runToEnd fu 55 2399 m18) fun y20 m21 =>
hBd (f_X0_putFeast fu x1 x2 0 m21) fun _ m22 =>
hBd (f_X10_later fu y14 y20 m22) fun y23 m24 =>
some (y23, m24)) else none) else none) else (
some ((-9998), m5))) else none) else none) else (
some ((-1), m5))))
set_option maxRecDepth 100000 in
set_option maxHeartbeats 4000000 in
theorem c_X10_sleeps (G : hG) (fu : Nat) (x1 : Int32) (x2 : Int32) (m : hM) : Mt vI G 8 yX10_sleeps cX10_sleeps 5 (some .int) [hA G 0, .int x1, .int x2] m (f_X10_sleeps fu x1 x2 m) := by
  refine mt_of (by decide +kernel) (Nat.le_of_ble_eq_true rfl) (fun X C K => ?_)
  have C : Cx G X 8 cX10_sleeps 5 RX10 (some .int) := C
  show Rf vI G X 0 [(0, hA G 0), (1, .int x1), (2, .int x2)] [] m _
  unfold f_X10_sleeps
  refine rf_aload_n C (n := 1) (q := 0) dX10_sleeps_0 rfl rfl rfl ?_
  refine rf_getS C (n := 4) fl_RX10_12 ly_0 rfl dX10_sleeps_1 rfl ?_
  refine rf_iload_n C (n := 5) (q := 1) dX10_sleeps_4 rfl rfl rfl ?_
  refine rf_callVi C (n := 8) (c_X0_has G fu _ _) mw_RX10_116 ly_1 rfl ⟨by decide, by decide⟩ rfl (Nat.le_of_ble_eq_true rfl) rfl dX10_sleeps_5 rfl (fun y1 m2 => ?_)
  refine rf_if_eq C (tgt := 28) (n := 11) dX10_sleeps_8 (by decide) rfl (fun h3 => ?_) (fun h3 => ?_)
  · refine rf_iconst C (n := 29) (v := (-1)) dX10_sleeps_28 rfl (by decide) ?_
    exact rf_iret C K dX10_sleeps_29
  · refine rf_iload_n C (n := 12) (q := 2) dX10_sleeps_11 rfl rfl rfl ?_
    refine rf_callSi C (n := 15) (c_X10_isDay G fu _ _) sw_RX10_128 ⟨by decide, by decide⟩ rfl (Nat.le_of_ble_eq_true rfl) rfl dX10_sleeps_12 rfl (fun y4 m5 => ?_)
    refine rf_if_eq C (tgt := 28) (n := 18) dX10_sleeps_15 (by decide) rfl (fun h6 => ?_) (fun h6 => ?_)
    · refine rf_iconst C (n := 29) (v := (-1)) dX10_sleeps_28 rfl (by decide) ?_
      exact rf_iret C K dX10_sleeps_29
    · refine rf_aload_n C (n := 19) (q := 0) dX10_sleeps_18 rfl rfl rfl ?_
      refine rf_getS C (n := 22) fl_RX10_19 ly_0 rfl dX10_sleeps_19 rfl ?_
      refine rf_getI C (n := 25) fl_RX10_177 ly_18 rfl dX10_sleeps_22 rfl ?_
      refine rf_if_ne C (tgt := 30) (n := 28) dX10_sleeps_25 (by decide) rfl (fun h7 => ?_) (fun h7 => ?_)
      · refine rf_aload_n C (n := 31) (q := 0) dX10_sleeps_30 rfl rfl rfl ?_
        refine rf_getS C (n := 34) fl_RX10_12 ly_0 rfl dX10_sleeps_31 rfl ?_
        refine rf_getS C (n := 37) fl_RX10_102 ly_1 rfl dX10_sleeps_34 rfl ?_
        refine rf_iload_n C (n := 38) (q := 1) dX10_sleeps_37 rfl rfl rfl ?_
        refine rf_guard (fun h8 => ?_)
        refine rf_aaldO C (n := 39) ly_2 h8 (of_r h8) dX10_sleeps_38 rfl ?_
        refine rf_getS C (n := 42) fl_RX10_400 (pO_l (of_o h8)) rfl dX10_sleeps_39 rfl ?_
        refine rf_iload_n C (n := 43) (q := 2) dX10_sleeps_42 rfl rfl rfl ?_
        refine rf_guard (fun h9 => ?_)
        refine rf_zald C (n := 44) (of_a1 (of_o h8)) h9 rfl dX10_sleeps_43 rfl ?_
        refine rf_if_eq C (tgt := 51) (n := 47) dX10_sleeps_44 (by decide) rfl (fun h10 => ?_) (fun h10 => ?_)
        · refine rf_aload_n C (n := 52) (q := 0) dX10_sleeps_51 rfl rfl rfl ?_
          refine rf_getS C (n := 55) fl_RX10_42 ly_0 rfl dX10_sleeps_52 rfl ?_
          refine rf_aload_n C (n := 56) (q := 0) dX10_sleeps_55 rfl rfl rfl ?_
          refine rf_callVa C (n := 59) (c_X10_fromNow G fu _) mw_RX10_266 ly_0 rfl ⟨by decide, by decide⟩ rfl (Nat.le_of_ble_eq_true rfl) rfl dX10_sleeps_56 rfl (fun y11 m12 => ?_)
          refine rf_guard (fun h13 => ?_)
          subst h13
          refine rf_sipush C (n := 62) (v := 2399) dX10_sleeps_59 rfl (by decide) ?_
          refine rf_callVi C (n := 65) (c_X8_runToEnd G fu _ _ _) mw_RX10_270 ly_32 rfl ⟨by decide, by decide⟩ rfl (Nat.le_of_ble_eq_true rfl) rfl dX10_sleeps_62 rfl (fun y14 m15 => ?_)
          refine rf_istore_n C (n := 66) [(3, .int y14), (0, hA G 0), (1, .int x1), (2, .int x2)] dX10_sleeps_65 rfl rfl (by decide) rfl ?_
          refine rf_aload_n C (n := 67) (q := 1) dX10_sleeps_66 rfl rfl rfl ?_
          refine rf_getS C (n := 70) fl_RX10_12 ly_0 rfl dX10_sleeps_67 rfl ?_
          refine rf_iload_n C (n := 71) (q := 2) dX10_sleeps_70 rfl rfl rfl ?_
          refine rf_iload_n C (n := 72) (q := 3) dX10_sleeps_71 rfl rfl rfl ?_
          refine rf_iconst C (n := 73) (v := 1) dX10_sleeps_72 rfl (by decide) ?_
          refine rf_callVv C (n := 76) (c_X0_putFeast G fu _ _ _ _) mw_RX10_131 ly_1 rfl ⟨by decide, by decide⟩ rfl (Nat.le_of_ble_eq_true rfl) rfl dX10_sleeps_73 rfl (fun _ m16 => ?_)
          refine rf_aload_n C (n := 77) (q := 1) dX10_sleeps_76 rfl rfl rfl ?_
          refine rf_getS C (n := 80) fl_RX10_42 ly_0 rfl dX10_sleeps_77 rfl ?_
          refine rf_aload_n C (n := 81) (q := 1) dX10_sleeps_80 rfl rfl rfl ?_
          refine rf_callVa C (n := 84) (c_X10_fromNow G fu _) mw_RX10_266 ly_0 rfl ⟨by decide, by decide⟩ rfl (Nat.le_of_ble_eq_true rfl) rfl dX10_sleeps_81 rfl (fun y17 m18 => ?_)
          refine rf_guard (fun h19 => ?_)
          subst h19
          refine rf_sipush C (n := 87) (v := 2399) dX10_sleeps_84 rfl (by decide) ?_
          refine rf_callVi C (n := 90) (c_X8_runToEnd G fu _ _ _) mw_RX10_270 ly_32 rfl ⟨by decide, by decide⟩ rfl (Nat.le_of_ble_eq_true rfl) rfl dX10_sleeps_87 rfl (fun y20 m21 => ?_)
          refine rf_istore C (n := 92) [(4, .int y20), (3, .int y14), (0, hA G 0), (1, .int x1), (2, .int x2)] dX10_sleeps_90 rfl (by decide) rfl ?_
          refine rf_aload_n C (n := 93) (q := 2) dX10_sleeps_92 rfl rfl rfl ?_
          refine rf_getS C (n := 96) fl_RX10_12 ly_0 rfl dX10_sleeps_93 rfl ?_
          refine rf_iload_n C (n := 97) (q := 3) dX10_sleeps_96 rfl rfl rfl ?_
          refine rf_iload_n C (n := 98) (q := 4) dX10_sleeps_97 rfl rfl rfl ?_
          refine rf_iconst C (n := 99) (v := 0) dX10_sleeps_98 rfl (by decide) ?_
          refine rf_callVv C (n := 102) (c_X0_putFeast G fu _ _ _ _) mw_RX10_131 ly_1 rfl ⟨by decide, by decide⟩ rfl (Nat.le_of_ble_eq_true rfl) rfl dX10_sleeps_99 rfl (fun _ m22 => ?_)
          refine rf_iload_n C (n := 103) (q := 1) dX10_sleeps_102 rfl rfl rfl ?_
          refine rf_iload C (n := 105) (q := 0) dX10_sleeps_103 rfl rfl ?_
          refine rf_callSi C (n := 108) (c_X10_later G fu _ _ _) sw_RX10_358 ⟨by decide, by decide⟩ rfl (Nat.le_of_ble_eq_true rfl) rfl dX10_sleeps_105 rfl (fun y23 m24 => ?_)
          exact rf_iret C K dX10_sleeps_108
        · refine rf_sipush C (n := 50) (v := (-9998)) dX10_sleeps_47 rfl (by decide) ?_
          exact rf_iret C K dX10_sleeps_50
      · refine rf_iconst C (n := 29) (v := (-1)) dX10_sleeps_28 rfl (by decide) ?_
        exact rf_iret C K dX10_sleeps_29
noncomputable def f_X10_worst_145 (fu : Nat) (x4 : Int32) (x5 : Int32) (m : hM) : Option (Int32 × hM) :=
  if x4 = (-2) then (
some (x4, m)) else (
hBd (f_X1_clear fu m) fun _ m14 =>
hBd (f_X1_tell fu (Int32.toInt64 x5) m14) fun _ m15 =>
some (x4, m15))
set_option maxRecDepth 100000 in
set_option maxHeartbeats 4000000 in
theorem r_X10_worst_145 {G : hG} {X : hX} (C : Cx G X 8 cX10_worst 8 RX10 (some .int)) (K : Cr G X) (fu : Nat) (x4 : Int32) (x5 : Int32) (m : hM) : Rf vI G X 145 [(0, hA G 0), (4, .int x4), (5, .int x5)] [] m (f_X10_worst_145 fu x4 x5 m) := by
  unfold f_X10_worst_145
  refine rf_iload C (n := 147) (q := 1) dX10_worst_145 rfl rfl ?_
  refine rf_bipush C (n := 149) (v := (-2)) dX10_worst_147 rfl (by decide) ?_
  refine rf_icmp_eq C (tgt := 169) (n := 152) dX10_worst_149 (by decide) rfl (fun h13 => ?_) (fun h13 => ?_)
  · refine rf_iload C (n := 171) (q := 1) dX10_worst_169 rfl rfl ?_
    exact rf_iret C K dX10_worst_171
  · refine rf_aload_n C (n := 153) (q := 0) dX10_worst_152 rfl rfl rfl ?_
    refine rf_getS C (n := 156) fl_RX10_83 ly_0 rfl dX10_worst_153 rfl ?_
    refine rf_callVv C (n := 159) (c_X1_clear G fu _) mw_RX10_170 ly_66 rfl ⟨by decide, by decide⟩ rfl (Nat.le_of_ble_eq_true rfl) rfl dX10_worst_156 rfl (fun _ m14 => ?_)
    refine rf_aload_n C (n := 160) (q := 0) dX10_worst_159 rfl rfl rfl ?_
    refine rf_getS C (n := 163) fl_RX10_83 ly_0 rfl dX10_worst_160 rfl ?_
    refine rf_iload C (n := 165) (q := 2) dX10_worst_163 rfl rfl ?_
    refine rf_i2l C (n := 166) dX10_worst_165 rfl ?_
    refine rf_callVv C (n := 169) (c_X1_tell G fu _ _) mw_RX10_173 ly_66 rfl ⟨by decide, by decide⟩ rfl (Nat.le_of_ble_eq_true rfl) rfl dX10_worst_166 rfl (fun _ m15 => ?_)
    refine rf_iload C (n := 171) (q := 1) dX10_worst_169 rfl rfl ?_
    exact rf_iret C K dX10_worst_171
noncomputable def f_X10_worst_139 (fu : Nat) (k52 : Int32 → Int32 → Int32 → Int32 → Int32 → hM → Option (Int32 × hM)) (x1 : Int32) (x3 : Int32) (x4 : Int32) (x5 : Int32) (x6 : Int32) (m : hM) : Option (Int32 × hM) :=
  hLet (x6 + 1) fun y27 =>
k52 x1 x3 x4 x5 y27 m
set_option maxRecDepth 100000 in
set_option maxHeartbeats 4000000 in
theorem r_X10_worst_139 {G : hG} {X : hX} (C : Cx G X 8 cX10_worst 8 RX10 (some .int)) (K : Cr G X) (fu : Nat) (k52 : Int32 → Int32 → Int32 → Int32 → Int32 → hM → Option (Int32 × hM)) (hk52 : ∀ (x1 : Int32) (x3 : Int32) (x4 : Int32) (x5 : Int32) (x6 : Int32) (m : hM), Rf vI G X 52 [(0, hA G 0), (1, .int x1), (3, .int x3), (4, .int x4), (5, .int x5), (6, .int x6)] [] m (k52 x1 x3 x4 x5 x6 m)) (x1 : Int32) (x3 : Int32) (x4 : Int32) (x5 : Int32) (x6 : Int32) (m : hM) : Rf vI G X 139 [(0, hA G 0), (1, .int x1), (3, .int x3), (4, .int x4), (5, .int x5), (6, .int x6)] [] m (f_X10_worst_139 fu k52 x1 x3 x4 x5 x6 m) := by
  unfold f_X10_worst_139
  refine rf_iinc2 C (n := 142) (q := 5) (fun y27 => [(6, .int y27), (0, hA G 0), (1, .int x1), (3, .int x3), (4, .int x4), (5, .int x5)]) dX10_worst_139 rfl rfl (by decide) (by decide) (fun _ => rfl) (fun y27 => ?_)
  refine rf_goto C (n := 52) dX10_worst_142 (by decide) ?_
  exact rf_lv _ [1, 2, 3, 4, 5, 0] rfl (hk52 _ _ _ _ _ _)
noncomputable def s_X10_worst_52 (fu : Nat) (ih : Int32 → Int32 → Int32 → Int32 → Int32 → hM → Option (Int32 × hM)) (x1 : Int32) (x3 : Int32) (x4 : Int32) (x5 : Int32) (x6 : Int32) (m : hM) : Option (Int32 × hM) :=
  if x3 < x6 then (
f_X10_worst_145 fu x4 x5 m) else (
if hIn x1 6 then (
if hIn x6 100 then (
if (gI m (6 + 2 * (Int32.toNatClampNeg x1) + 1) (Int32.toNatClampNeg x6)) = 0 then (
hBd (f_X0_putFeast fu x1 x6 1 m) fun _ m19 =>
hBd (f_X10_fromNow fu m19) fun y20 m21 =>
if y20 = 55 then (
hBd (f_X8_runToEnd fu 55 2399 m21) fun y23 m24 =>
hBd (f_X0_putFeast fu x1 x6 0 m24) fun _ m25 =>
if y23 = (-2) then (
f_X10_worst_139 fu ih x1 x3 x4 x5 x6 m25) else (
if y23 ≤ x5 then (
f_X10_worst_139 fu ih x1 x3 x4 x5 x6 m25) else (
f_X10_worst_139 fu ih x1 x3 x6 y23 x6 m25))) else none) else (
f_X10_worst_139 fu ih x1 x3 x4 x5 x6 m)) else none) else none)
noncomputable def f_X10_worst_52 (fu : Nat) (n : Nat) : Int32 → Int32 → Int32 → Int32 → Int32 → hM → Option (Int32 × hM) :=
  Nat.rec (motive := fun _ => Int32 → Int32 → Int32 → Int32 → Int32 → hM → Option (Int32 × hM)) (fun _ _ _ _ _ _ => none) (fun _ ih => s_X10_worst_52 fu ih) n
theorem f_X10_worst_52_s (fu : Nat) (n : Nat) (x1 : Int32) (x3 : Int32) (x4 : Int32) (x5 : Int32) (x6 : Int32) (m : hM) : f_X10_worst_52 fu (n + 1) x1 x3 x4 x5 x6 m = s_X10_worst_52 fu (f_X10_worst_52 fu n) x1 x3 x4 x5 x6 m := rfl
set_option maxRecDepth 100000 in
set_option maxHeartbeats 4000000 in
theorem r_X10_worst_52 {G : hG} {X : hX} (C : Cx G X 8 cX10_worst 8 RX10 (some .int)) (K : Cr G X) (fu : Nat) (n : Nat) : ∀ (x1 : Int32) (x3 : Int32) (x4 : Int32) (x5 : Int32) (x6 : Int32) (m : hM), Rf vI G X 52 [(0, hA G 0), (1, .int x1), (3, .int x3), (4, .int x4), (5, .int x5), (6, .int x6)] [] m (f_X10_worst_52 fu n x1 x3 x4 x5 x6 m) := by
  induction n with
  | zero => intros; exact rf_none
  | succ n ih =>
    intro x1 x3 x4 x5 x6 m
    show Rf vI G X 52 [(0, hA G 0), (1, .int x1), (3, .int x3), (4, .int x4), (5, .int x5), (6, .int x6)] [] m (s_X10_worst_52 fu (f_X10_worst_52 fu n) x1 x3 x4 x5 x6 m)
    unfold s_X10_worst_52
    refine rf_iload C (n := 54) (q := 5) dX10_worst_52 rfl rfl ?_
    refine rf_iload_n C (n := 55) (q := 2) dX10_worst_54 rfl rfl rfl ?_
    refine rf_icmp_gt C (tgt := 145) (n := 58) dX10_worst_55 (by decide) rfl (fun h12 => ?_) (fun h12 => ?_)
    · exact rf_lv _ [0, 3, 4] rfl (r_X10_worst_145 C K fu _ _ _)
    · refine rf_aload_n C (n := 59) (q := 0) dX10_worst_58 rfl rfl rfl ?_
      refine rf_getS C (n := 62) fl_RX10_12 ly_0 rfl dX10_worst_59 rfl ?_
      refine rf_getS C (n := 65) fl_RX10_102 ly_1 rfl dX10_worst_62 rfl ?_
      refine rf_iload_n C (n := 66) (q := 1) dX10_worst_65 rfl rfl rfl ?_
      refine rf_guard (fun h16 => ?_)
      refine rf_aaldO C (n := 67) ly_2 h16 (of_r h16) dX10_worst_66 rfl ?_
      refine rf_getS C (n := 70) fl_RX10_400 (pO_l (of_o h16)) rfl dX10_worst_67 rfl ?_
      refine rf_iload C (n := 72) (q := 5) dX10_worst_70 rfl rfl ?_
      refine rf_guard (fun h17 => ?_)
      refine rf_zald C (n := 73) (of_a1 (of_o h16)) h17 rfl dX10_worst_72 rfl ?_
      refine rf_if_eq C (tgt := 79) (n := 76) dX10_worst_73 (by decide) rfl (fun h18 => ?_) (fun h18 => ?_)
      · refine rf_aload_n C (n := 80) (q := 0) dX10_worst_79 rfl rfl rfl ?_
        refine rf_getS C (n := 83) fl_RX10_12 ly_0 rfl dX10_worst_80 rfl ?_
        refine rf_iload_n C (n := 84) (q := 1) dX10_worst_83 rfl rfl rfl ?_
        refine rf_iload C (n := 86) (q := 5) dX10_worst_84 rfl rfl ?_
        refine rf_iconst C (n := 87) (v := 1) dX10_worst_86 rfl (by decide) ?_
        refine rf_callVv C (n := 90) (c_X0_putFeast G fu _ _ _ _) mw_RX10_131 ly_1 rfl ⟨by decide, by decide⟩ rfl (Nat.le_of_ble_eq_true rfl) rfl dX10_worst_87 rfl (fun _ m19 => ?_)
        refine rf_aload_n C (n := 91) (q := 0) dX10_worst_90 rfl rfl rfl ?_
        refine rf_getS C (n := 94) fl_RX10_42 ly_0 rfl dX10_worst_91 rfl ?_
        refine rf_aload_n C (n := 95) (q := 0) dX10_worst_94 rfl rfl rfl ?_
        refine rf_callVa C (n := 98) (c_X10_fromNow G fu _) mw_RX10_266 ly_0 rfl ⟨by decide, by decide⟩ rfl (Nat.le_of_ble_eq_true rfl) rfl dX10_worst_95 rfl (fun y20 m21 => ?_)
        refine rf_guard (fun h22 => ?_)
        subst h22
        refine rf_sipush C (n := 101) (v := 2399) dX10_worst_98 rfl (by decide) ?_
        refine rf_callVi C (n := 104) (c_X8_runToEnd G fu _ _ _) mw_RX10_270 ly_32 rfl ⟨by decide, by decide⟩ rfl (Nat.le_of_ble_eq_true rfl) rfl dX10_worst_101 rfl (fun y23 m24 => ?_)
        refine rf_istore C (n := 106) [(7, .int y23), (0, hA G 0), (1, .int x1), (3, .int x3), (4, .int x4), (5, .int x5), (6, .int x6)] dX10_worst_104 rfl (by decide) rfl ?_
        refine rf_aload_n C (n := 107) (q := 1) dX10_worst_106 rfl rfl rfl ?_
        refine rf_getS C (n := 110) fl_RX10_12 ly_0 rfl dX10_worst_107 rfl ?_
        refine rf_iload_n C (n := 111) (q := 2) dX10_worst_110 rfl rfl rfl ?_
        refine rf_iload C (n := 113) (q := 6) dX10_worst_111 rfl rfl ?_
        refine rf_iconst C (n := 114) (v := 0) dX10_worst_113 rfl (by decide) ?_
        refine rf_callVv C (n := 117) (c_X0_putFeast G fu _ _ _ _) mw_RX10_131 ly_1 rfl ⟨by decide, by decide⟩ rfl (Nat.le_of_ble_eq_true rfl) rfl dX10_worst_114 rfl (fun _ m25 => ?_)
        refine rf_iload C (n := 119) (q := 0) dX10_worst_117 rfl rfl ?_
        refine rf_bipush C (n := 121) (v := (-2)) dX10_worst_119 rfl (by decide) ?_
        refine rf_icmp_eq C (tgt := 139) (n := 124) dX10_worst_121 (by decide) rfl (fun h26 => ?_) (fun h26 => ?_)
        · exact rf_lv _ [1, 2, 3, 4, 5, 6] rfl (r_X10_worst_139 C K fu _ ih _ _ _ _ _ _)
        · refine rf_iload C (n := 126) (q := 0) dX10_worst_124 rfl rfl ?_
          refine rf_iload C (n := 128) (q := 5) dX10_worst_126 rfl rfl ?_
          refine rf_icmp_le C (tgt := 139) (n := 131) dX10_worst_128 (by decide) rfl (fun h28 => ?_) (fun h28 => ?_)
          · exact rf_lv _ [1, 2, 3, 4, 5, 6] rfl (r_X10_worst_139 C K fu _ ih _ _ _ _ _ _)
          · refine rf_iload C (n := 133) (q := 6) dX10_worst_131 rfl rfl ?_
            refine rf_istore C (n := 135) [(4, .int x6), (7, .int y23), (0, hA G 0), (1, .int x1), (3, .int x3), (5, .int x5), (6, .int x6)] dX10_worst_133 rfl (by decide) rfl ?_
            refine rf_iload C (n := 137) (q := 1) dX10_worst_135 rfl rfl ?_
            refine rf_istore C (n := 139) [(5, .int y23), (4, .int x6), (7, .int y23), (0, hA G 0), (1, .int x1), (3, .int x3), (6, .int x6)] dX10_worst_137 rfl (by decide) rfl ?_
            exact rf_lv _ [3, 4, 5, 1, 0, 6] rfl (r_X10_worst_139 C K fu _ ih _ _ _ _ _ _)
      · refine rf_goto C (n := 139) dX10_worst_76 (by decide) ?_
        exact rf_lv _ [0, 1, 2, 3, 4, 5] rfl (r_X10_worst_139 C K fu _ ih _ _ _ _ _ _)
noncomputable def f_X10_worst (fu : Nat) (x1 : Int32) (x2 : Int32) (x3 : Int32) (m : hM) : Option (Int32 × hM) :=
  hBd (f_X0_has fu x1 m) fun y1 m2 =>
if y1 = 0 then (
some ((-1), m2)) else (
hBd (f_X10_isDay fu x2 m2) fun y4 m5 =>
if y4 = 0 then (
some ((-1), m5)) else (
hBd (f_X10_isDay fu x3 m5) fun y7 m8 =>
if y7 = 0 then (
some ((-1), m8)) else (
if x3 < x2 then (
some ((-1), m8)) else (
if ¬ (gI m8 18 6) = 0 then (
f_X10_worst_52 fu fu x1 x3 (-2) (-1) x2 m8) else (
some ((-1), m8))))))
set_option maxRecDepth 100000 in
set_option maxHeartbeats 4000000 in
theorem c_X10_worst (G : hG) (fu : Nat) (x1 : Int32) (x2 : Int32) (x3 : Int32) (m : hM) : Mt vI G 8 yX10_worst cX10_worst 8 (some .int) [hA G 0, .int x1, .int x2, .int x3] m (f_X10_worst fu x1 x2 x3 m) := by
  refine mt_of (by decide +kernel) (Nat.le_of_ble_eq_true rfl) (fun X C K => ?_)
  have C : Cx G X 8 cX10_worst 8 RX10 (some .int) := C
  show Rf vI G X 0 [(0, hA G 0), (1, .int x1), (2, .int x2), (3, .int x3)] [] m _
  unfold f_X10_worst
  refine rf_aload_n C (n := 1) (q := 0) dX10_worst_0 rfl rfl rfl ?_
  refine rf_getS C (n := 4) fl_RX10_12 ly_0 rfl dX10_worst_1 rfl ?_
  refine rf_iload_n C (n := 5) (q := 1) dX10_worst_4 rfl rfl rfl ?_
  refine rf_callVi C (n := 8) (c_X0_has G fu _ _) mw_RX10_116 ly_1 rfl ⟨by decide, by decide⟩ rfl (Nat.le_of_ble_eq_true rfl) rfl dX10_worst_5 rfl (fun y1 m2 => ?_)
  refine rf_if_eq C (tgt := 40) (n := 11) dX10_worst_8 (by decide) rfl (fun h3 => ?_) (fun h3 => ?_)
  · refine rf_iconst C (n := 41) (v := (-1)) dX10_worst_40 rfl (by decide) ?_
    exact rf_iret C K dX10_worst_41
  · refine rf_iload_n C (n := 12) (q := 2) dX10_worst_11 rfl rfl rfl ?_
    refine rf_callSi C (n := 15) (c_X10_isDay G fu _ _) sw_RX10_128 ⟨by decide, by decide⟩ rfl (Nat.le_of_ble_eq_true rfl) rfl dX10_worst_12 rfl (fun y4 m5 => ?_)
    refine rf_if_eq C (tgt := 40) (n := 18) dX10_worst_15 (by decide) rfl (fun h6 => ?_) (fun h6 => ?_)
    · refine rf_iconst C (n := 41) (v := (-1)) dX10_worst_40 rfl (by decide) ?_
      exact rf_iret C K dX10_worst_41
    · refine rf_iload_n C (n := 19) (q := 3) dX10_worst_18 rfl rfl rfl ?_
      refine rf_callSi C (n := 22) (c_X10_isDay G fu _ _) sw_RX10_128 ⟨by decide, by decide⟩ rfl (Nat.le_of_ble_eq_true rfl) rfl dX10_worst_19 rfl (fun y7 m8 => ?_)
      refine rf_if_eq C (tgt := 40) (n := 25) dX10_worst_22 (by decide) rfl (fun h9 => ?_) (fun h9 => ?_)
      · refine rf_iconst C (n := 41) (v := (-1)) dX10_worst_40 rfl (by decide) ?_
        exact rf_iret C K dX10_worst_41
      · refine rf_iload_n C (n := 26) (q := 2) dX10_worst_25 rfl rfl rfl ?_
        refine rf_iload_n C (n := 27) (q := 3) dX10_worst_26 rfl rfl rfl ?_
        refine rf_icmp_gt C (tgt := 40) (n := 30) dX10_worst_27 (by decide) rfl (fun h10 => ?_) (fun h10 => ?_)
        · refine rf_iconst C (n := 41) (v := (-1)) dX10_worst_40 rfl (by decide) ?_
          exact rf_iret C K dX10_worst_41
        · refine rf_aload_n C (n := 31) (q := 0) dX10_worst_30 rfl rfl rfl ?_
          refine rf_getS C (n := 34) fl_RX10_19 ly_0 rfl dX10_worst_31 rfl ?_
          refine rf_getI C (n := 37) fl_RX10_177 ly_18 rfl dX10_worst_34 rfl ?_
          refine rf_if_ne C (tgt := 42) (n := 40) dX10_worst_37 (by decide) rfl (fun h11 => ?_) (fun h11 => ?_)
          · refine rf_bipush C (n := 44) (v := (-2)) dX10_worst_42 rfl (by decide) ?_
            refine rf_istore C (n := 46) [(4, .int (-2)), (0, hA G 0), (1, .int x1), (2, .int x2), (3, .int x3)] dX10_worst_44 rfl (by decide) rfl ?_
            refine rf_iconst C (n := 47) (v := (-1)) dX10_worst_46 rfl (by decide) ?_
            refine rf_istore C (n := 49) [(5, .int (-1)), (4, .int (-2)), (0, hA G 0), (1, .int x1), (2, .int x2), (3, .int x3)] dX10_worst_47 rfl (by decide) rfl ?_
            refine rf_iload_n C (n := 50) (q := 4) dX10_worst_49 rfl rfl rfl ?_
            refine rf_istore C (n := 52) [(6, .int x2), (5, .int (-1)), (4, .int (-2)), (0, hA G 0), (1, .int x1), (2, .int x2), (3, .int x3)] dX10_worst_50 rfl (by decide) rfl ?_
            exact rf_lv _ [3, 4, 6, 2, 1, 0] rfl (r_X10_worst_52 C K fu fu _ _ _ _ _ _)
          · refine rf_iconst C (n := 41) (v := (-1)) dX10_worst_40 rfl (by decide) ?_
            exact rf_iret C K dX10_worst_41
noncomputable def f_X10_march (fu : Nat) (x1 : Int32) (x2 : Int32) (m : hM) : Option (Int32 × hM) :=
  hBd (f_X0_has fu x1 m) fun y1 m2 =>
if y1 = 0 then (
some ((-1), m2)) else (
hBd (f_X10_isHour fu x2 m2) fun y4 m5 =>
if y4 = 0 then (
some ((-1), m5)) else (
if ¬ (gI m5 18 6) = 0 then (
hBd (f_X10_fromNow fu m5) fun y8 m9 =>
if y8 = 55 then (
hBd (f_X8_runToEnd fu 55 2399 m9) fun y11 m12 =>
if hIn x1 6 then (
hLet (gI m12 (6 + 2 * (Int32.toNatClampNeg x1)) 6) fun y14 =>
hLet (gI m12 (6 + 2 * (Int32.toNatClampNeg x1)) 7) fun y15 =>
hLet (sI m12 (6 + 2 * (Int32.toNatClampNeg x1)) 6 x2) fun m16 =>
hLet (sI m16 (6 + 2 * (Int32.toNatClampNeg x1)) 7 1) fun m17 =>
hBd (f_X0_refresh fu x1 0 2500 m17) fun _ m18 =>
hBd (f_X10_fromNow fu m18) fun y19 m20 =>
if y19 = 55 then (
hBd (f_X8_runToEnd fu 55 2399 m20) fun y22 m23 =>
hLet (sI m23 (6 + 2 * (Int32.toNatClampNeg x1)) 6 y14) fun m24 =>
hLet (sI m24 (6 + 2 * (Int32.toNatClampNeg x1)) 7 y15) fun m25 =>
hBd (f_X0_refresh fu x1 0 2500 m25) fun _ m26 =>
hBd (f_X10_later fu y11 y22 m26) fun y27 m28 =>
some (y27, m28)) else none) else none) else none) else (
some ((-1), m5))))
set_option maxRecDepth 100000 in
set_option maxHeartbeats 4000000 in
theorem c_X10_march (G : hG) (fu : Nat) (x1 : Int32) (x2 : Int32) (m : hM) : Mt vI G 8 yX10_march cX10_march 8 (some .int) [hA G 0, .int x1, .int x2] m (f_X10_march fu x1 x2 m) := by
  refine mt_of (by decide +kernel) (Nat.le_of_ble_eq_true rfl) (fun X C K => ?_)
  have C : Cx G X 8 cX10_march 8 RX10 (some .int) := C
  show Rf vI G X 0 [(0, hA G 0), (1, .int x1), (2, .int x2)] [] m _
  unfold f_X10_march
  refine rf_aload_n C (n := 1) (q := 0) dX10_march_0 rfl rfl rfl ?_
  refine rf_getS C (n := 4) fl_RX10_12 ly_0 rfl dX10_march_1 rfl ?_
  refine rf_iload_n C (n := 5) (q := 1) dX10_march_4 rfl rfl rfl ?_
  refine rf_callVi C (n := 8) (c_X0_has G fu _ _) mw_RX10_116 ly_1 rfl ⟨by decide, by decide⟩ rfl (Nat.le_of_ble_eq_true rfl) rfl dX10_march_5 rfl (fun y1 m2 => ?_)
  refine rf_if_eq C (tgt := 28) (n := 11) dX10_march_8 (by decide) rfl (fun h3 => ?_) (fun h3 => ?_)
  · refine rf_iconst C (n := 29) (v := (-1)) dX10_march_28 rfl (by decide) ?_
    exact rf_iret C K dX10_march_29
  · refine rf_iload_n C (n := 12) (q := 2) dX10_march_11 rfl rfl rfl ?_
    refine rf_callSi C (n := 15) (c_X10_isHour G fu _ _) sw_RX10_119 ⟨by decide, by decide⟩ rfl (Nat.le_of_ble_eq_true rfl) rfl dX10_march_12 rfl (fun y4 m5 => ?_)
    refine rf_if_eq C (tgt := 28) (n := 18) dX10_march_15 (by decide) rfl (fun h6 => ?_) (fun h6 => ?_)
    · refine rf_iconst C (n := 29) (v := (-1)) dX10_march_28 rfl (by decide) ?_
      exact rf_iret C K dX10_march_29
    · refine rf_aload_n C (n := 19) (q := 0) dX10_march_18 rfl rfl rfl ?_
      refine rf_getS C (n := 22) fl_RX10_19 ly_0 rfl dX10_march_19 rfl ?_
      refine rf_getI C (n := 25) fl_RX10_177 ly_18 rfl dX10_march_22 rfl ?_
      refine rf_if_ne C (tgt := 30) (n := 28) dX10_march_25 (by decide) rfl (fun h7 => ?_) (fun h7 => ?_)
      · refine rf_aload_n C (n := 31) (q := 0) dX10_march_30 rfl rfl rfl ?_
        refine rf_getS C (n := 34) fl_RX10_42 ly_0 rfl dX10_march_31 rfl ?_
        refine rf_aload_n C (n := 35) (q := 0) dX10_march_34 rfl rfl rfl ?_
        refine rf_callVa C (n := 38) (c_X10_fromNow G fu _) mw_RX10_266 ly_0 rfl ⟨by decide, by decide⟩ rfl (Nat.le_of_ble_eq_true rfl) rfl dX10_march_35 rfl (fun y8 m9 => ?_)
        refine rf_guard (fun h10 => ?_)
        subst h10
        refine rf_sipush C (n := 41) (v := 2399) dX10_march_38 rfl (by decide) ?_
        refine rf_callVi C (n := 44) (c_X8_runToEnd G fu _ _ _) mw_RX10_270 ly_32 rfl ⟨by decide, by decide⟩ rfl (Nat.le_of_ble_eq_true rfl) rfl dX10_march_41 rfl (fun y11 m12 => ?_)
        refine rf_istore_n C (n := 45) [(3, .int y11), (0, hA G 0), (1, .int x1), (2, .int x2)] dX10_march_44 rfl rfl (by decide) rfl ?_
        refine rf_aload_n C (n := 46) (q := 1) dX10_march_45 rfl rfl rfl ?_
        refine rf_getS C (n := 49) fl_RX10_12 ly_0 rfl dX10_march_46 rfl ?_
        refine rf_getS C (n := 52) fl_RX10_102 ly_1 rfl dX10_march_49 rfl ?_
        refine rf_iload_n C (n := 53) (q := 2) dX10_march_52 rfl rfl rfl ?_
        refine rf_guard (fun h13 => ?_)
        refine rf_aaldO C (n := 54) ly_2 h13 (of_r h13) dX10_march_53 rfl ?_
        refine rf_astore C (n := 56) [(4, hA G (6 + 2 * (Int32.toNatClampNeg x1))), (3, .int y11), (0, hA G 0), (1, .int x1), (2, .int x2)] dX10_march_54 rfl (by decide) rfl ?_
        refine rf_aload C (n := 58) (q := 0) dX10_march_56 rfl rfl ?_
        refine rf_getI C (n := 61) fl_RX10_122 (pO_l (of_o h13)) rfl dX10_march_58 rfl ?_
        refine rf_letI (fun y14 => ?_)
        refine rf_istore C (n := 63) [(5, .int y14), (4, hA G (6 + 2 * (Int32.toNatClampNeg x1))), (3, .int y11), (0, hA G 0), (1, .int x1), (2, .int x2)] dX10_march_61 rfl (by decide) rfl ?_
        refine rf_aload C (n := 65) (q := 1) dX10_march_63 rfl rfl ?_
        refine rf_getI C (n := 68) fl_RX10_125 (pO_l (of_o h13)) rfl dX10_march_65 rfl ?_
        refine rf_letI (fun y15 => ?_)
        refine rf_istore C (n := 70) [(6, .int y15), (5, .int y14), (4, hA G (6 + 2 * (Int32.toNatClampNeg x1))), (3, .int y11), (0, hA G 0), (1, .int x1), (2, .int x2)] dX10_march_68 rfl (by decide) rfl ?_
        refine rf_aload C (n := 72) (q := 2) dX10_march_70 rfl rfl ?_
        refine rf_iload_n C (n := 73) (q := 6) dX10_march_72 rfl rfl rfl ?_
        refine rf_putI C (n := 76) pl_RX10_122 (pO_l (of_o h13)) rfl ⟨rfl, rfl⟩ dX10_march_73 rfl ?_
        refine rf_letM (fun m16 => ?_)
        refine rf_aload C (n := 78) (q := 2) dX10_march_76 rfl rfl ?_
        refine rf_iconst C (n := 79) (v := 1) dX10_march_78 rfl (by decide) ?_
        refine rf_putI C (n := 82) pl_RX10_125 (pO_l (of_o h13)) rfl ⟨rfl, rfl⟩ dX10_march_79 rfl ?_
        refine rf_letM (fun m17 => ?_)
        refine rf_aload_n C (n := 83) (q := 4) dX10_march_82 rfl rfl rfl ?_
        refine rf_getS C (n := 86) fl_RX10_12 ly_0 rfl dX10_march_83 rfl ?_
        refine rf_iload_n C (n := 87) (q := 5) dX10_march_86 rfl rfl rfl ?_
        refine rf_iconst C (n := 88) (v := 0) dX10_march_87 rfl (by decide) ?_
        refine rf_sipush C (n := 91) (v := 2500) dX10_march_88 rfl (by decide) ?_
        refine rf_callVv C (n := 94) (c_X0_refresh G fu _ _ _ _) mw_RX10_112 ly_1 rfl ⟨by decide, by decide⟩ rfl (Nat.le_of_ble_eq_true rfl) rfl dX10_march_91 rfl (fun _ m18 => ?_)
        refine rf_aload_n C (n := 95) (q := 4) dX10_march_94 rfl rfl rfl ?_
        refine rf_getS C (n := 98) fl_RX10_42 ly_0 rfl dX10_march_95 rfl ?_
        refine rf_aload_n C (n := 99) (q := 4) dX10_march_98 rfl rfl rfl ?_
        refine rf_callVa C (n := 102) (c_X10_fromNow G fu _) mw_RX10_266 ly_0 rfl ⟨by decide, by decide⟩ rfl (Nat.le_of_ble_eq_true rfl) rfl dX10_march_99 rfl (fun y19 m20 => ?_)
        refine rf_guard (fun h21 => ?_)
        subst h21
        refine rf_sipush C (n := 105) (v := 2399) dX10_march_102 rfl (by decide) ?_
        refine rf_callVi C (n := 108) (c_X8_runToEnd G fu _ _ _) mw_RX10_270 ly_32 rfl ⟨by decide, by decide⟩ rfl (Nat.le_of_ble_eq_true rfl) rfl dX10_march_105 rfl (fun y22 m23 => ?_)
        refine rf_istore C (n := 110) [(7, .int y22), (6, .int y15), (5, .int y14), (4, hA G (6 + 2 * (Int32.toNatClampNeg x1))), (3, .int y11), (0, hA G 0), (1, .int x1), (2, .int x2)] dX10_march_108 rfl (by decide) rfl ?_
        refine rf_aload C (n := 112) (q := 3) dX10_march_110 rfl rfl ?_
        refine rf_iload C (n := 114) (q := 2) dX10_march_112 rfl rfl ?_
        refine rf_putI C (n := 117) pl_RX10_122 (pO_l (of_o h13)) rfl ⟨rfl, rfl⟩ dX10_march_114 rfl ?_
        refine rf_letM (fun m24 => ?_)
        refine rf_aload C (n := 119) (q := 3) dX10_march_117 rfl rfl ?_
        refine rf_iload C (n := 121) (q := 1) dX10_march_119 rfl rfl ?_
        refine rf_putI C (n := 124) pl_RX10_125 (pO_l (of_o h13)) rfl ⟨rfl, rfl⟩ dX10_march_121 rfl ?_
        refine rf_letM (fun m25 => ?_)
        refine rf_aload_n C (n := 125) (q := 5) dX10_march_124 rfl rfl rfl ?_
        refine rf_getS C (n := 128) fl_RX10_12 ly_0 rfl dX10_march_125 rfl ?_
        refine rf_iload_n C (n := 129) (q := 6) dX10_march_128 rfl rfl rfl ?_
        refine rf_iconst C (n := 130) (v := 0) dX10_march_129 rfl (by decide) ?_
        refine rf_sipush C (n := 133) (v := 2500) dX10_march_130 rfl (by decide) ?_
        refine rf_callVv C (n := 136) (c_X0_refresh G fu _ _ _ _) mw_RX10_112 ly_1 rfl ⟨by decide, by decide⟩ rfl (Nat.le_of_ble_eq_true rfl) rfl dX10_march_133 rfl (fun _ m26 => ?_)
        refine rf_iload_n C (n := 137) (q := 4) dX10_march_136 rfl rfl rfl ?_
        refine rf_iload C (n := 139) (q := 0) dX10_march_137 rfl rfl ?_
        refine rf_callSi C (n := 142) (c_X10_later G fu _ _ _) sw_RX10_358 ⟨by decide, by decide⟩ rfl (Nat.le_of_ble_eq_true rfl) rfl dX10_march_139 rfl (fun y27 m28 => ?_)
        exact rf_iret C K dX10_march_142
      · refine rf_iconst C (n := 29) (v := (-1)) dX10_march_28 rfl (by decide) ?_
        exact rf_iret C K dX10_march_29
noncomputable def f_X10_keep (fu : Nat) (x1 : Int32) (m : hM) : Option (Int32 × hM) :=
  if x1 < 0 then (
some (0, m)) else (
if x1 < 3 then (
if hIn x1 3 then (
hBd (f_X7_copyFrom fu (69 + 9 * (Int32.toNatClampNeg x1)) 46 m) fun _ m4 =>
if hIn x1 3 then (
hLet (sI m4 65 (Int32.toNatClampNeg x1) (gI m4 18 6)) fun m6 =>
some (1, m6)) else none) else none) else (
some (0, m)))
set_option maxRecDepth 100000 in
set_option maxHeartbeats 4000000 in
theorem c_X10_keep (G : hG) (fu : Nat) (x1 : Int32) (m : hM) : Mt vI G 3 yX10_keep cX10_keep 2 (some .boolean) [hA G 0, .int x1] m (f_X10_keep fu x1 m) := by
  refine mt_of (by decide +kernel) (Nat.le_of_ble_eq_true rfl) (fun X C K => ?_)
  have C : Cx G X 3 cX10_keep 2 RX10 (some .boolean) := C
  show Rf vI G X 0 [(0, hA G 0), (1, .int x1)] [] m _
  unfold f_X10_keep
  refine rf_iload_n C (n := 1) (q := 1) dX10_keep_0 rfl rfl rfl ?_
  refine rf_if_lt C (tgt := 13) (n := 4) dX10_keep_1 (by decide) rfl (fun h1 => ?_) (fun h1 => ?_)
  · refine rf_iconst C (n := 14) (v := 0) dX10_keep_13 rfl (by decide) ?_
    exact rf_zret C K (by decide) dX10_keep_14
  · refine rf_iload_n C (n := 5) (q := 1) dX10_keep_4 rfl rfl rfl ?_
    refine rf_aload_n C (n := 6) (q := 0) dX10_keep_5 rfl rfl rfl ?_
    refine rf_getS C (n := 9) fl_RX10_72 ly_0 rfl dX10_keep_6 rfl ?_
    refine rf_alenR C (n := 10) (v := 3) ly_64 (by decide) dX10_keep_9 rfl ?_
    refine rf_icmp_lt C (tgt := 15) (n := 13) dX10_keep_10 (by decide) rfl (fun h2 => ?_) (fun h2 => ?_)
    · refine rf_aload_n C (n := 16) (q := 0) dX10_keep_15 rfl rfl rfl ?_
      refine rf_getS C (n := 19) fl_RX10_72 ly_0 rfl dX10_keep_16 rfl ?_
      refine rf_iload_n C (n := 20) (q := 1) dX10_keep_19 rfl rfl rfl ?_
      refine rf_guard (fun h3 => ?_)
      refine rf_aaldS C (n := 21) ly_64 h3 (kp_r h3) dX10_keep_20 rfl ?_
      refine rf_aload_n C (n := 22) (q := 0) dX10_keep_21 rfl rfl rfl ?_
      refine rf_getS C (n := 25) fl_RX10_65 ly_0 rfl dX10_keep_22 rfl ?_
      refine rf_callVv C (n := 28) (c_X7_copyFrom G fu _ _ _) mw_RX10_404 (pS_l (kp_o h3)) rfl ⟨by decide, by decide⟩ rfl (Nat.le_of_ble_eq_true rfl) rfl dX10_keep_25 rfl (fun _ m4 => ?_)
      refine rf_aload_n C (n := 29) (q := 0) dX10_keep_28 rfl rfl rfl ?_
      refine rf_getS C (n := 32) fl_RX10_76 ly_0 rfl dX10_keep_29 rfl ?_
      refine rf_iload_n C (n := 33) (q := 1) dX10_keep_32 rfl rfl rfl ?_
      refine rf_aload_n C (n := 34) (q := 0) dX10_keep_33 rfl rfl rfl ?_
      refine rf_getS C (n := 37) fl_RX10_19 ly_0 rfl dX10_keep_34 rfl ?_
      refine rf_getI C (n := 40) fl_RX10_177 ly_18 rfl dX10_keep_37 rfl ?_
      refine rf_guard (fun h5 => ?_)
      refine rf_iast C (n := 41) ly_65 h5 rfl dX10_keep_40 rfl ?_
      refine rf_letM (fun m6 => ?_)
      refine rf_iconst C (n := 42) (v := 1) dX10_keep_41 rfl (by decide) ?_
      exact rf_zret C K (by decide) dX10_keep_42
    · refine rf_iconst C (n := 14) (v := 0) dX10_keep_13 rfl (by decide) ?_
      exact rf_zret C K (by decide) dX10_keep_14
noncomputable def f_X10_again (fu : Nat) (x1 : Int32) (m : hM) : Option (Int32 × hM) :=
  if x1 < 0 then (
some (0, m)) else (
if 3 ≤ x1 then (
some (0, m)) else (
if hIn x1 3 then (
if (gI m 65 (Int32.toNatClampNeg x1)) = (gI m 18 6) then (
if hIn x1 3 then (
hBd (f_X7_copyFrom fu 46 (69 + 9 * (Int32.toNatClampNeg x1)) m) fun _ m6 =>
some (1, m6)) else none) else (
some (0, m))) else none))
set_option maxRecDepth 100000 in
set_option maxHeartbeats 4000000 in
theorem c_X10_again (G : hG) (fu : Nat) (x1 : Int32) (m : hM) : Mt vI G 3 yX10_again cX10_again 2 (some .boolean) [hA G 0, .int x1] m (f_X10_again fu x1 m) := by
  refine mt_of (by decide +kernel) (Nat.le_of_ble_eq_true rfl) (fun X C K => ?_)
  have C : Cx G X 3 cX10_again 2 RX10 (some .boolean) := C
  show Rf vI G X 0 [(0, hA G 0), (1, .int x1)] [] m _
  unfold f_X10_again
  refine rf_iload_n C (n := 1) (q := 1) dX10_again_0 rfl rfl rfl ?_
  refine rf_if_lt C (tgt := 29) (n := 4) dX10_again_1 (by decide) rfl (fun h1 => ?_) (fun h1 => ?_)
  · refine rf_iconst C (n := 30) (v := 0) dX10_again_29 rfl (by decide) ?_
    exact rf_zret C K (by decide) dX10_again_30
  · refine rf_iload_n C (n := 5) (q := 1) dX10_again_4 rfl rfl rfl ?_
    refine rf_aload_n C (n := 6) (q := 0) dX10_again_5 rfl rfl rfl ?_
    refine rf_getS C (n := 9) fl_RX10_72 ly_0 rfl dX10_again_6 rfl ?_
    refine rf_alenR C (n := 10) (v := 3) ly_64 (by decide) dX10_again_9 rfl ?_
    refine rf_icmp_ge C (tgt := 29) (n := 13) dX10_again_10 (by decide) rfl (fun h2 => ?_) (fun h2 => ?_)
    · refine rf_iconst C (n := 30) (v := 0) dX10_again_29 rfl (by decide) ?_
      exact rf_zret C K (by decide) dX10_again_30
    · refine rf_aload_n C (n := 14) (q := 0) dX10_again_13 rfl rfl rfl ?_
      refine rf_getS C (n := 17) fl_RX10_76 ly_0 rfl dX10_again_14 rfl ?_
      refine rf_iload_n C (n := 18) (q := 1) dX10_again_17 rfl rfl rfl ?_
      refine rf_guard (fun h3 => ?_)
      refine rf_iald C (n := 19) ly_65 h3 rfl dX10_again_18 rfl ?_
      refine rf_aload_n C (n := 20) (q := 0) dX10_again_19 rfl rfl rfl ?_
      refine rf_getS C (n := 23) fl_RX10_19 ly_0 rfl dX10_again_20 rfl ?_
      refine rf_getI C (n := 26) fl_RX10_177 ly_18 rfl dX10_again_23 rfl ?_
      refine rf_icmp_eq C (tgt := 31) (n := 29) dX10_again_26 (by decide) rfl (fun h4 => ?_) (fun h4 => ?_)
      · refine rf_aload_n C (n := 32) (q := 0) dX10_again_31 rfl rfl rfl ?_
        refine rf_getS C (n := 35) fl_RX10_65 ly_0 rfl dX10_again_32 rfl ?_
        refine rf_aload_n C (n := 36) (q := 0) dX10_again_35 rfl rfl rfl ?_
        refine rf_getS C (n := 39) fl_RX10_72 ly_0 rfl dX10_again_36 rfl ?_
        refine rf_iload_n C (n := 40) (q := 1) dX10_again_39 rfl rfl rfl ?_
        refine rf_guard (fun h5 => ?_)
        refine rf_aaldS C (n := 41) ly_64 h5 (kp_r h5) dX10_again_40 rfl ?_
        refine rf_callVv C (n := 44) (c_X7_copyFrom G fu _ _ _) mw_RX10_404 ly_46 rfl ⟨by decide, by decide⟩ rfl (Nat.le_of_ble_eq_true rfl) rfl dX10_again_41 rfl (fun _ m6 => ?_)
        refine rf_iconst C (n := 45) (v := 1) dX10_again_44 rfl (by decide) ?_
        exact rf_zret C K (by decide) dX10_again_45
      · refine rf_iconst C (n := 30) (v := 0) dX10_again_29 rfl (by decide) ?_
        exact rf_zret C K (by decide) dX10_again_30
noncomputable def f_X10_count (fu : Nat) (x1 : Int32) (m : hM) : Option (Int32 × hM) :=
  if x1 = 0 then (
some (gI m 1 4, m)) else if x1 = 1 then (
some (gI m 18 6, m)) else if x1 = 2 then (
some (gI m 46 0, m)) else if x1 = 3 then (
some (gI m 46 1, m)) else if x1 = 4 then (
some (gI m 41 4, m)) else if x1 = 5 then (
hBd (f_X7_allHandings fu 46 m) fun y7 m8 =>
some (y7, m8)) else if x1 = 6 then (
hBd (f_X7_allLost fu 46 m) fun y10 m11 =>
some (y10, m11)) else if x1 = 7 then (
some (gI m 46 10, m)) else if x1 = 8 then (
some (gI m 66 1, m)) else if x1 = 9 then (
some (gI m 0 13, m)) else (
some ((-1), m))
set_option maxRecDepth 100000 in
set_option maxHeartbeats 4000000 in
theorem c_X10_count (G : hG) (fu : Nat) (x1 : Int32) (m : hM) : Mt vI G 2 yX10_count cX10_count 2 (some .int) [hA G 0, .int x1] m (f_X10_count fu x1 m) := by
  refine mt_of (by decide +kernel) (Nat.le_of_ble_eq_true rfl) (fun X C K => ?_)
  have C : Cx G X 2 cX10_count 2 RX10 (some .int) := C
  show Rf vI G X 0 [(0, hA G 0), (1, .int x1)] [] m _
  unfold f_X10_count
  refine rf_iload_n C (n := 1) (q := 1) dX10_count_0 rfl rfl rfl ?_
  refine rf_sw (fun h1 => ?_) (fun h1 => ?_)
  · refine rf_tabIn C (n := 56) (off := 55) dX10_count_1 h1 (by decide) (by decide) (by decide) (by decide) ?_
    refine rf_aload_n C (n := 57) (q := 0) dX10_count_56 rfl rfl rfl ?_
    refine rf_getS C (n := 60) fl_RX10_12 ly_0 rfl dX10_count_57 rfl ?_
    refine rf_getI C (n := 63) fl_RX10_95 ly_1 rfl dX10_count_60 rfl ?_
    exact rf_iret C K dX10_count_63
  refine rf_sw (fun h2 => ?_) (fun h2 => ?_)
  · refine rf_tabIn C (n := 64) (off := 63) dX10_count_1 h2 (by decide) (by decide) (by decide) (by decide) ?_
    refine rf_aload_n C (n := 65) (q := 0) dX10_count_64 rfl rfl rfl ?_
    refine rf_getS C (n := 68) fl_RX10_19 ly_0 rfl dX10_count_65 rfl ?_
    refine rf_getI C (n := 71) fl_RX10_177 ly_18 rfl dX10_count_68 rfl ?_
    exact rf_iret C K dX10_count_71
  refine rf_sw (fun h3 => ?_) (fun h3 => ?_)
  · refine rf_tabIn C (n := 72) (off := 71) dX10_count_1 h3 (by decide) (by decide) (by decide) (by decide) ?_
    refine rf_aload_n C (n := 73) (q := 0) dX10_count_72 rfl rfl rfl ?_
    refine rf_getS C (n := 76) fl_RX10_65 ly_0 rfl dX10_count_73 rfl ?_
    refine rf_getI C (n := 79) fl_RX10_218 ly_46 rfl dX10_count_76 rfl ?_
    exact rf_iret C K dX10_count_79
  refine rf_sw (fun h4 => ?_) (fun h4 => ?_)
  · refine rf_tabIn C (n := 80) (off := 79) dX10_count_1 h4 (by decide) (by decide) (by decide) (by decide) ?_
    refine rf_aload_n C (n := 81) (q := 0) dX10_count_80 rfl rfl rfl ?_
    refine rf_getS C (n := 84) fl_RX10_65 ly_0 rfl dX10_count_81 rfl ?_
    refine rf_getI C (n := 87) fl_RX10_260 ly_46 rfl dX10_count_84 rfl ?_
    exact rf_iret C K dX10_count_87
  refine rf_sw (fun h5 => ?_) (fun h5 => ?_)
  · refine rf_tabIn C (n := 88) (off := 87) dX10_count_1 h5 (by decide) (by decide) (by decide) (by decide) ?_
    refine rf_aload_n C (n := 89) (q := 0) dX10_count_88 rfl rfl rfl ?_
    refine rf_getS C (n := 92) fl_RX10_58 ly_0 rfl dX10_count_89 rfl ?_
    refine rf_getI C (n := 95) fl_RX10_334 ly_41 rfl dX10_count_92 rfl ?_
    exact rf_iret C K dX10_count_95
  refine rf_sw (fun h6 => ?_) (fun h6 => ?_)
  · refine rf_tabIn C (n := 96) (off := 95) dX10_count_1 h6 (by decide) (by decide) (by decide) (by decide) ?_
    refine rf_aload_n C (n := 97) (q := 0) dX10_count_96 rfl rfl rfl ?_
    refine rf_getS C (n := 100) fl_RX10_65 ly_0 rfl dX10_count_97 rfl ?_
    refine rf_callVi C (n := 103) (c_X7_allHandings G fu _ _) mw_RX10_274 ly_46 rfl ⟨by decide, by decide⟩ rfl (Nat.le_of_ble_eq_true rfl) rfl dX10_count_100 rfl (fun y7 m8 => ?_)
    exact rf_iret C K dX10_count_103
  refine rf_sw (fun h9 => ?_) (fun h9 => ?_)
  · refine rf_tabIn C (n := 104) (off := 103) dX10_count_1 h9 (by decide) (by decide) (by decide) (by decide) ?_
    refine rf_aload_n C (n := 105) (q := 0) dX10_count_104 rfl rfl rfl ?_
    refine rf_getS C (n := 108) fl_RX10_65 ly_0 rfl dX10_count_105 rfl ?_
    refine rf_callVi C (n := 111) (c_X7_allLost G fu _ _) mw_RX10_278 ly_46 rfl ⟨by decide, by decide⟩ rfl (Nat.le_of_ble_eq_true rfl) rfl dX10_count_108 rfl (fun y10 m11 => ?_)
    exact rf_iret C K dX10_count_111
  refine rf_sw (fun h12 => ?_) (fun h12 => ?_)
  · refine rf_tabIn C (n := 112) (off := 111) dX10_count_1 h12 (by decide) (by decide) (by decide) (by decide) ?_
    refine rf_aload_n C (n := 113) (q := 0) dX10_count_112 rfl rfl rfl ?_
    refine rf_getS C (n := 116) fl_RX10_65 ly_0 rfl dX10_count_113 rfl ?_
    refine rf_getI C (n := 119) fl_RX10_281 ly_46 rfl dX10_count_116 rfl ?_
    exact rf_iret C K dX10_count_119
  refine rf_sw (fun h13 => ?_) (fun h13 => ?_)
  · refine rf_tabIn C (n := 120) (off := 119) dX10_count_1 h13 (by decide) (by decide) (by decide) (by decide) ?_
    refine rf_aload_n C (n := 121) (q := 0) dX10_count_120 rfl rfl rfl ?_
    refine rf_getS C (n := 124) fl_RX10_83 ly_0 rfl dX10_count_121 rfl ?_
    refine rf_getI C (n := 127) fl_RX10_407 ly_66 rfl dX10_count_124 rfl ?_
    exact rf_iret C K dX10_count_127
  refine rf_sw (fun h14 => ?_) (fun h14 => ?_)
  · refine rf_tabIn C (n := 128) (off := 127) dX10_count_1 h14 (by decide) (by decide) (by decide) (by decide) ?_
    refine rf_aload_n C (n := 129) (q := 0) dX10_count_128 rfl rfl rfl ?_
    refine rf_getI C (n := 132) fl_RX10_91 ly_0 rfl dX10_count_129 rfl ?_
    exact rf_iret C K dX10_count_132
  refine rf_tabD C (n := 133) dX10_count_1 [0, 1, 2, 3, 4, 5, 6, 7, 8, 9] (by intro c hc; simp only [List.mem_cons, List.not_mem_nil, or_false] at hc; rcases hc with rfl | rfl | rfl | rfl | rfl | rfl | rfl | rfl | rfl | rfl <;> assumption) (by decide) (by decide) (by decide) ?_
  refine rf_iconst C (n := 134) (v := (-1)) dX10_count_133 rfl (by decide) ?_
  exact rf_iret C K dX10_count_134
noncomputable def f_X11_thrown (fu : Nat) (m : hM) : Option (Int32 × hM) :=
  some (gI m 96 0, m)
set_option maxRecDepth 100000 in
set_option maxHeartbeats 4000000 in
theorem c_X11_thrown (G : hG) (fu : Nat) (m : hM) : Mt vI G 1 yX11_thrown cX11_thrown 1 (some .int) [hA G 96] m (f_X11_thrown fu m) := by
  refine mt_of (by decide +kernel) (Nat.le_of_ble_eq_true rfl) (fun X C K => ?_)
  have C : Cx G X 1 cX11_thrown 1 RX11 (some .int) := C
  show Rf vI G X 0 [(0, hA G 96)] [] m _
  unfold f_X11_thrown
  refine rf_aload_n C (n := 1) (q := 0) dX11_thrown_0 rfl rfl rfl ?_
  refine rf_getI C (n := 4) fl_RX11_3 ly_96 rfl dX11_thrown_1 rfl ?_
  exact rf_iret C K dX11_thrown_4
noncomputable def f_X11_in (fu : Nat) (x0 : Int64) (x2 : Int64) (x4 : Int64) (m : hM) : Option (Int32 × hM) :=
  if (lg_cmp x0 x2) < 0 then (
some (0, m)) else (
if 0 < (lg_cmp x0 x4) then (
some (0, m)) else (
some (1, m)))
set_option maxRecDepth 100000 in
set_option maxHeartbeats 4000000 in
theorem c_X11_in (G : hG) (fu : Nat) (x0 : Int64) (x2 : Int64) (x4 : Int64) (m : hM) : Mt vI G 1 yX11_in cX11_in 6 (some .boolean) [.long x0, .long x2, .long x4] m (f_X11_in fu x0 x2 x4 m) := by
  refine mt_of (by decide +kernel) (Nat.le_of_ble_eq_true rfl) (fun X C K => ?_)
  have C : Cx G X 1 cX11_in 6 RX11 (some .boolean) := C
  show Rf vI G X 0 [(0, .long x0), (2, .long x2), (4, .long x4)] [] m _
  unfold f_X11_in
  refine rf_lload_n C (n := 1) (q := 0) dX11_in_0 rfl rfl rfl ?_
  refine rf_lload_n C (n := 2) (q := 1) dX11_in_1 rfl rfl rfl ?_
  refine rf_lcmp C (n := 3) dX11_in_2 rfl ?_
  refine rf_if_lt C (tgt := 17) (n := 6) dX11_in_3 (by decide) rfl (fun h1 => ?_) (fun h1 => ?_)
  · refine rf_iconst C (n := 18) (v := 0) dX11_in_17 rfl (by decide) ?_
    exact rf_zret C K (by decide) dX11_in_18
  · refine rf_lload_n C (n := 7) (q := 0) dX11_in_6 rfl rfl rfl ?_
    refine rf_lload C (n := 9) (q := 2) dX11_in_7 rfl rfl ?_
    refine rf_lcmp C (n := 10) dX11_in_9 rfl ?_
    refine rf_if_gt C (tgt := 17) (n := 13) dX11_in_10 (by decide) rfl (fun h2 => ?_) (fun h2 => ?_)
    · refine rf_iconst C (n := 18) (v := 0) dX11_in_17 rfl (by decide) ?_
      exact rf_zret C K (by decide) dX11_in_18
    · refine rf_iconst C (n := 14) (v := 1) dX11_in_13 rfl (by decide) ?_
      refine rf_goto C (n := 18) dX11_in_14 (by decide) ?_
      exact rf_zret C K (by decide) dX11_in_18
noncomputable def f_X11_has (fu : Nat) (x0 : Int32) (x1 : Int32) (m : hM) : Option (Int32 × hM) :=
  if ¬ ((x0 >>> (x1 &&& 31)) &&& 1) = 1 then (
some (0, m)) else (
some (1, m))
set_option maxRecDepth 100000 in
set_option maxHeartbeats 4000000 in
theorem c_X11_has (G : hG) (fu : Nat) (x0 : Int32) (x1 : Int32) (m : hM) : Mt vI G 1 yX11_has cX11_has 2 (some .boolean) [.int x0, .int x1] m (f_X11_has fu x0 x1 m) := by
  refine mt_of (by decide +kernel) (Nat.le_of_ble_eq_true rfl) (fun X C K => ?_)
  have C : Cx G X 1 cX11_has 2 RX11 (some .boolean) := C
  show Rf vI G X 0 [(0, .int x0), (1, .int x1)] [] m _
  unfold f_X11_has
  refine rf_iload_n C (n := 1) (q := 0) dX11_has_0 rfl rfl rfl ?_
  refine rf_iload_n C (n := 2) (q := 1) dX11_has_1 rfl rfl rfl ?_
  refine rf_ishr C (n := 3) dX11_has_2 rfl ?_
  refine rf_iconst C (n := 4) (v := 1) dX11_has_3 rfl (by decide) ?_
  refine rf_iand C (n := 5) dX11_has_4 rfl ?_
  refine rf_iconst C (n := 6) (v := 1) dX11_has_5 rfl (by decide) ?_
  refine rf_icmp_ne C (tgt := 13) (n := 9) dX11_has_6 (by decide) rfl (fun h1 => ?_) (fun h1 => ?_)
  · refine rf_iconst C (n := 14) (v := 0) dX11_has_13 rfl (by decide) ?_
    exact rf_zret C K (by decide) dX11_has_14
  · refine rf_iconst C (n := 10) (v := 1) dX11_has_9 rfl (by decide) ?_
    refine rf_goto C (n := 14) dX11_has_10 (by decide) ?_
    exact rf_zret C K (by decide) dX11_has_14
noncomputable def f_X11_flag (fu : Nat) (x0 : Int32) (m : hM) : Option (Int32 × hM) :=
  if x0 = 0 then (
some (0, m)) else (
some (1, m))
set_option maxRecDepth 100000 in
set_option maxHeartbeats 4000000 in
theorem c_X11_flag (G : hG) (fu : Nat) (x0 : Int32) (m : hM) : Mt vI G 1 yX11_flag cX11_flag 1 (some .int) [.int x0] m (f_X11_flag fu x0 m) := by
  refine mt_of (by decide +kernel) (Nat.le_of_ble_eq_true rfl) (fun X C K => ?_)
  have C : Cx G X 1 cX11_flag 1 RX11 (some .int) := C
  show Rf vI G X 0 [(0, .int x0)] [] m _
  unfold f_X11_flag
  refine rf_iload_n C (n := 1) (q := 0) dX11_flag_0 rfl rfl rfl ?_
  refine rf_if_eq C (tgt := 8) (n := 4) dX11_flag_1 (by decide) rfl (fun h1 => ?_) (fun h1 => ?_)
  · refine rf_iconst C (n := 9) (v := 0) dX11_flag_8 rfl (by decide) ?_
    exact rf_iret C K dX11_flag_9
  · refine rf_iconst C (n := 5) (v := 1) dX11_flag_4 rfl (by decide) ?_
    refine rf_goto C (n := 9) dX11_flag_5 (by decide) ?_
    exact rf_iret C K dX11_flag_9
noncomputable def f_X11_refuse (fu : Nat) (m : hM) : Option (Int32 × hM) :=
  hLet (sI m 96 0 1) fun m1 =>
some (0, m1)
set_option maxRecDepth 100000 in
set_option maxHeartbeats 4000000 in
theorem c_X11_refuse (G : hG) (fu : Nat) (m : hM) : Mt vI G 1 yX11_refuse cX11_refuse 1 (some .int) [hA G 96] m (f_X11_refuse fu m) := by
  refine mt_of (by decide +kernel) (Nat.le_of_ble_eq_true rfl) (fun X C K => ?_)
  have C : Cx G X 1 cX11_refuse 1 RX11 (some .int) := C
  show Rf vI G X 0 [(0, hA G 96)] [] m _
  unfold f_X11_refuse
  refine rf_aload_n C (n := 1) (q := 0) dX11_refuse_0 rfl rfl rfl ?_
  refine rf_iconst C (n := 2) (v := 1) dX11_refuse_1 rfl (by decide) ?_
  refine rf_putI C (n := 5) pl_RX11_3 ly_96 rfl ⟨rfl, rfl⟩ dX11_refuse_2 rfl ?_
  refine rf_letM (fun m1 => ?_)
  refine rf_iconst C (n := 6) (v := 0) dX11_refuse_5 rfl (by decide) ?_
  exact rf_iret C K dX11_refuse_6
noncomputable def f_X11_enters (fu : Nat) (x1 : Int64) (m : hM) : Option (Unit × hM) :=
  if hIn (gI m 96 1) 24 then (
hLet (sL m 97 (Int32.toNatClampNeg (gI m 96 1)) x1) fun m2 =>
hLet (sI m2 96 1 ((gI m2 96 1) + 1)) fun m3 =>
some ((), m3)) else none
set_option maxRecDepth 100000 in
set_option maxHeartbeats 4000000 in
theorem c_X11_enters (G : hG) (fu : Nat) (x1 : Int64) (m : hM) : Mt vU G 1 yX11_enters cX11_enters 3 none [hA G 96, .long x1] m (f_X11_enters fu x1 m) := by
  refine mt_of (by decide +kernel) (Nat.le_of_ble_eq_true rfl) (fun X C K => ?_)
  have C : Cx G X 1 cX11_enters 3 RX11 none := C
  show Rf vU G X 0 [(0, hA G 96), (1, .long x1)] [] m _
  unfold f_X11_enters
  refine rf_aload_n C (n := 1) (q := 0) dX11_enters_0 rfl rfl rfl ?_
  refine rf_getS C (n := 4) fl_RX11_7 ly_96 rfl dX11_enters_1 rfl ?_
  refine rf_aload_n C (n := 5) (q := 0) dX11_enters_4 rfl rfl rfl ?_
  refine rf_getI C (n := 8) fl_RX11_11 ly_96 rfl dX11_enters_5 rfl ?_
  refine rf_lload_n C (n := 9) (q := 1) dX11_enters_8 rfl rfl rfl ?_
  refine rf_guard (fun h1 => ?_)
  refine rf_last C (n := 10) ly_97 h1 rfl dX11_enters_9 rfl ?_
  refine rf_letM (fun m2 => ?_)
  refine rf_aload_n C (n := 11) (q := 0) dX11_enters_10 rfl rfl rfl ?_
  refine rf_dup C (n := 12) dX11_enters_11 rfl rfl ?_
  refine rf_getI C (n := 15) fl_RX11_11 ly_96 rfl dX11_enters_12 rfl ?_
  refine rf_iconst C (n := 16) (v := 1) dX11_enters_15 rfl (by decide) ?_
  refine rf_iadd C (n := 17) dX11_enters_16 rfl ?_
  refine rf_putI C (n := 20) pl_RX11_11 ly_96 rfl ⟨rfl, rfl⟩ dX11_enters_17 rfl ?_
  refine rf_letM (fun m3 => ?_)
  exact rf_vret C K dX11_enters_20
