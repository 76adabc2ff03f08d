theorem dX11_piece_0 : decode cX11_piece 0 = .ok (.aload_n 0, 1) := by decide +kernel
theorem dX11_piece_1 : decode cX11_piece 1 = .ok (.iconst 0, 1) := by decide +kernel
theorem dX11_piece_2 : decode cX11_piece 2 = .ok (.putfield 3, 3) := by decide +kernel
theorem dX11_piece_5 : decode cX11_piece 5 = .ok (.iload_n 1, 1) := by decide +kernel
theorem dX11_piece_6 : decode cX11_piece 6 = .ok (.ifCond .lt 61, 3) := by decide +kernel
theorem dX11_piece_9 : decode cX11_piece 9 = .ok (.iload_n 1, 1) := by decide +kernel
theorem dX11_piece_10 : decode cX11_piece 10 = .ok (.bipush 6, 2) := by decide +kernel
theorem dX11_piece_12 : decode cX11_piece 12 = .ok (.idiv, 1) := by decide +kernel
theorem dX11_piece_13 : decode cX11_piece 13 = .ok (.i2l, 1) := by decide +kernel
theorem dX11_piece_14 : decode cX11_piece 14 = .ok (.lconst 1, 1) := by decide +kernel
theorem dX11_piece_15 : decode cX11_piece 15 = .ok (.ldc2_w 149, 3) := by decide +kernel
theorem dX11_piece_18 : decode cX11_piece 18 = .ok (.invokestatic 25, 3) := by decide +kernel
theorem dX11_piece_21 : decode cX11_piece 21 = .ok (.ifCond .eq 46, 3) := by decide +kernel
theorem dX11_piece_24 : decode cX11_piece 24 = .ok (.iload_n 2, 1) := by decide +kernel
theorem dX11_piece_25 : decode cX11_piece 25 = .ok (.i2l, 1) := by decide +kernel
theorem dX11_piece_26 : decode cX11_piece 26 = .ok (.lconst 1, 1) := by decide +kernel
theorem dX11_piece_27 : decode cX11_piece 27 = .ok (.ldc2_w 149, 3) := by decide +kernel
theorem dX11_piece_30 : decode cX11_piece 30 = .ok (.invokestatic 25, 3) := by decide +kernel
theorem dX11_piece_33 : decode cX11_piece 33 = .ok (.ifCond .eq 34, 3) := by decide +kernel
theorem dX11_piece_36 : decode cX11_piece 36 = .ok (.iload_n 3, 1) := by decide +kernel
theorem dX11_piece_37 : decode cX11_piece 37 = .ok (.i2l, 1) := by decide +kernel
theorem dX11_piece_38 : decode cX11_piece 38 = .ok (.lconst 0, 1) := by decide +kernel
theorem dX11_piece_39 : decode cX11_piece 39 = .ok (.iconst 1, 1) := by decide +kernel
theorem dX11_piece_40 : decode cX11_piece 40 = .ok (.aload_n 0, 1) := by decide +kernel
theorem dX11_piece_41 : decode cX11_piece 41 = .ok (.getfield 151, 3) := by decide +kernel
theorem dX11_piece_44 : decode cX11_piece 44 = .ok (.ishl, 1) := by decide +kernel
theorem dX11_piece_45 : decode cX11_piece 45 = .ok (.iconst 1, 1) := by decide +kernel
theorem dX11_piece_46 : decode cX11_piece 46 = .ok (.isub, 1) := by decide +kernel
theorem dX11_piece_47 : decode cX11_piece 47 = .ok (.i2l, 1) := by decide +kernel
theorem dX11_piece_48 : decode cX11_piece 48 = .ok (.invokestatic 25, 3) := by decide +kernel
theorem dX11_piece_51 : decode cX11_piece 51 = .ok (.ifCond .eq 16, 3) := by decide +kernel
theorem dX11_piece_54 : decode cX11_piece 54 = .ok (.aload_n 0, 1) := by decide +kernel
theorem dX11_piece_55 : decode cX11_piece 55 = .ok (.iload 4, 2) := by decide +kernel
theorem dX11_piece_57 : decode cX11_piece 57 = .ok (.invokevirtual 77, 3) := by decide +kernel
theorem dX11_piece_60 : decode cX11_piece 60 = .ok (.ifCond .eq 7, 3) := by decide +kernel
theorem dX11_piece_63 : decode cX11_piece 63 = .ok (.iconst 1, 1) := by decide +kernel
theorem dX11_piece_64 : decode cX11_piece 64 = .ok (.goto 4, 3) := by decide +kernel
theorem dX11_piece_67 : decode cX11_piece 67 = .ok (.iconst 0, 1) := by decide +kernel
theorem dX11_piece_68 : decode cX11_piece 68 = .ok (.istore 6, 2) := by decide +kernel
theorem dX11_piece_70 : decode cX11_piece 70 = .ok (.iload 6, 2) := by decide +kernel
theorem dX11_piece_72 : decode cX11_piece 72 = .ok (.ifCond .eq 27, 3) := by decide +kernel
theorem dX11_piece_75 : decode cX11_piece 75 = .ok (.iload 5, 2) := by decide +kernel
theorem dX11_piece_77 : decode cX11_piece 77 = .ok (.iconst (-1), 1) := by decide +kernel
theorem dX11_piece_78 : decode cX11_piece 78 = .ok (.if_icmp .eq 12, 3) := by decide +kernel
theorem dX11_piece_81 : decode cX11_piece 81 = .ok (.aload_n 0, 1) := by decide +kernel
theorem dX11_piece_82 : decode cX11_piece 82 = .ok (.iload 5, 2) := by decide +kernel
theorem dX11_piece_84 : decode cX11_piece 84 = .ok (.invokevirtual 77, 3) := by decide +kernel
theorem dX11_piece_87 : decode cX11_piece 87 = .ok (.ifCond .eq 12, 3) := by decide +kernel
theorem dX11_piece_90 : decode cX11_piece 90 = .ok (.aload_n 0, 1) := by decide +kernel
theorem dX11_piece_91 : decode cX11_piece 91 = .ok (.getfield 151, 3) := by decide +kernel
theorem dX11_piece_94 : decode cX11_piece 94 = .ok (.bipush 8, 2) := by decide +kernel
theorem dX11_piece_96 : decode cX11_piece 96 = .ok (.if_icmp .ne 5, 3) := by decide +kernel
theorem dX11_piece_99 : decode cX11_piece 99 = .ok (.iconst (-1), 1) := by decide +kernel
theorem dX11_piece_100 : decode cX11_piece 100 = .ok (.ireturn, 1) := by decide +kernel
theorem dX11_piece_101 : decode cX11_piece 101 = .ok (.aload_n 0, 1) := by decide +kernel
theorem dX11_piece_102 : decode cX11_piece 102 = .ok (.getfield 154, 3) := by decide +kernel
theorem dX11_piece_105 : decode cX11_piece 105 = .ok (.aload_n 0, 1) := by decide +kernel
theorem dX11_piece_106 : decode cX11_piece 106 = .ok (.getfield 151, 3) := by decide +kernel
theorem dX11_piece_109 : decode cX11_piece 109 = .ok (.iload_n 1, 1) := by decide +kernel
theorem dX11_piece_110 : decode cX11_piece 110 = .ok (.bipush 6, 2) := by decide +kernel
theorem dX11_piece_112 : decode cX11_piece 112 = .ok (.irem, 1) := by decide +kernel
theorem dX11_piece_113 : decode cX11_piece 113 = .ok (.iastore, 1) := by decide +kernel
theorem dX11_piece_114 : decode cX11_piece 114 = .ok (.aload_n 0, 1) := by decide +kernel
theorem dX11_piece_115 : decode cX11_piece 115 = .ok (.getfield 157, 3) := by decide +kernel
theorem dX11_piece_118 : decode cX11_piece 118 = .ok (.aload_n 0, 1) := by decide +kernel
theorem dX11_piece_119 : decode cX11_piece 119 = .ok (.getfield 151, 3) := by decide +kernel
theorem dX11_piece_122 : decode cX11_piece 122 = .ok (.iload_n 1, 1) := by decide +kernel
theorem dX11_piece_123 : decode cX11_piece 123 = .ok (.bipush 6, 2) := by decide +kernel
theorem dX11_piece_125 : decode cX11_piece 125 = .ok (.idiv, 1) := by decide +kernel
theorem dX11_piece_126 : decode cX11_piece 126 = .ok (.iastore, 1) := by decide +kernel
theorem dX11_piece_127 : decode cX11_piece 127 = .ok (.aload_n 0, 1) := by decide +kernel
theorem dX11_piece_128 : decode cX11_piece 128 = .ok (.getfield 146, 3) := by decide +kernel
theorem dX11_piece_131 : decode cX11_piece 131 = .ok (.aload_n 0, 1) := by decide +kernel
theorem dX11_piece_132 : decode cX11_piece 132 = .ok (.getfield 151, 3) := by decide +kernel
theorem dX11_piece_135 : decode cX11_piece 135 = .ok (.iload_n 2, 1) := by decide +kernel
theorem dX11_piece_136 : decode cX11_piece 136 = .ok (.iastore, 1) := by decide +kernel
theorem dX11_piece_137 : decode cX11_piece 137 = .ok (.aload_n 0, 1) := by decide +kernel
theorem dX11_piece_138 : decode cX11_piece 138 = .ok (.getfield 160, 3) := by decide +kernel
theorem dX11_piece_141 : decode cX11_piece 141 = .ok (.aload_n 0, 1) := by decide +kernel
theorem dX11_piece_142 : decode cX11_piece 142 = .ok (.getfield 151, 3) := by decide +kernel
theorem dX11_piece_145 : decode cX11_piece 145 = .ok (.iload_n 3, 1) := by decide +kernel
theorem dX11_piece_146 : decode cX11_piece 146 = .ok (.iastore, 1) := by decide +kernel
theorem dX11_piece_147 : decode cX11_piece 147 = .ok (.aload_n 0, 1) := by decide +kernel
theorem dX11_piece_148 : decode cX11_piece 148 = .ok (.getfield 143, 3) := by decide +kernel
theorem dX11_piece_151 : decode cX11_piece 151 = .ok (.aload_n 0, 1) := by decide +kernel
theorem dX11_piece_152 : decode cX11_piece 152 = .ok (.getfield 151, 3) := by decide +kernel
theorem dX11_piece_155 : decode cX11_piece 155 = .ok (.iload 4, 2) := by decide +kernel
theorem dX11_piece_157 : decode cX11_piece 157 = .ok (.iastore, 1) := by decide +kernel
theorem dX11_piece_158 : decode cX11_piece 158 = .ok (.aload_n 0, 1) := by decide +kernel
theorem dX11_piece_159 : decode cX11_piece 159 = .ok (.getfield 163, 3) := by decide +kernel
theorem dX11_piece_162 : decode cX11_piece 162 = .ok (.aload_n 0, 1) := by decide +kernel
theorem dX11_piece_163 : decode cX11_piece 163 = .ok (.getfield 151, 3) := by decide +kernel
theorem dX11_piece_166 : decode cX11_piece 166 = .ok (.iload 5, 2) := by decide +kernel
theorem dX11_piece_168 : decode cX11_piece 168 = .ok (.iastore, 1) := by decide +kernel
theorem dX11_piece_169 : decode cX11_piece 169 = .ok (.aload_n 0, 1) := by decide +kernel
theorem dX11_piece_170 : decode cX11_piece 170 = .ok (.aload_n 0, 1) := by decide +kernel
theorem dX11_piece_171 : decode cX11_piece 171 = .ok (.getfield 151, 3) := by decide +kernel
theorem dX11_piece_174 : decode cX11_piece 174 = .ok (.invokevirtual 166, 3) := by decide +kernel
theorem dX11_piece_177 : decode cX11_piece 177 = .ok (.aload_n 0, 1) := by decide +kernel
theorem dX11_piece_178 : decode cX11_piece 178 = .ok (.dup, 1) := by decide +kernel
theorem dX11_piece_179 : decode cX11_piece 179 = .ok (.getfield 151, 3) := by decide +kernel
theorem dX11_piece_182 : decode cX11_piece 182 = .ok (.iconst 1, 1) := by decide +kernel
theorem dX11_piece_183 : decode cX11_piece 183 = .ok (.iadd, 1) := by decide +kernel
theorem dX11_piece_184 : decode cX11_piece 184 = .ok (.putfield 151, 3) := by decide +kernel
theorem dX11_piece_187 : decode cX11_piece 187 = .ok (.aload_n 0, 1) := by decide +kernel
theorem dX11_piece_188 : decode cX11_piece 188 = .ok (.getfield 151, 3) := by decide +kernel
theorem dX11_piece_191 : decode cX11_piece 191 = .ok (.iconst 1, 1) := by decide +kernel
theorem dX11_piece_192 : decode cX11_piece 192 = .ok (.isub, 1) := by decide +kernel
theorem dX11_piece_193 : decode cX11_piece 193 = .ok (.ireturn, 1) := by decide +kernel
theorem dX11_sign_0 : decode cX11_sign 0 = .ok (.aload_n 0, 1) := by decide +kernel
theorem dX11_sign_1 : decode cX11_sign 1 = .ok (.iconst 0, 1) := by decide +kernel
theorem dX11_sign_2 : decode cX11_sign 2 = .ok (.putfield 3, 3) := by decide +kernel
theorem dX11_sign_5 : decode cX11_sign 5 = .ok (.aload_n 0, 1) := by decide +kernel
theorem dX11_sign_6 : decode cX11_sign 6 = .ok (.getfield 170, 3) := by decide +kernel
theorem dX11_sign_9 : decode cX11_sign 9 = .ok (.bipush 56, 2) := by decide +kernel
theorem dX11_sign_11 : decode cX11_sign 11 = .ok (.if_icmp .le 5, 3) := by decide +kernel
theorem dX11_sign_14 : decode cX11_sign 14 = .ok (.iconst (-1), 1) := by decide +kernel
theorem dX11_sign_15 : decode cX11_sign 15 = .ok (.ireturn, 1) := by decide +kernel
theorem dX11_sign_16 : decode cX11_sign 16 = .ok (.iconst 0, 1) := by decide +kernel
theorem dX11_sign_17 : decode cX11_sign 17 = .ok (.istore_n 2, 1) := by decide +kernel
theorem dX11_sign_18 : decode cX11_sign 18 = .ok (.iload_n 2, 1) := by decide +kernel
theorem dX11_sign_19 : decode cX11_sign 19 = .ok (.iconst 4, 1) := by decide +kernel
theorem dX11_sign_20 : decode cX11_sign 20 = .ok (.if_icmp .ge 33, 3) := by decide +kernel
theorem dX11_sign_23 : decode cX11_sign 23 = .ok (.aload_n 0, 1) := by decide +kernel
theorem dX11_sign_24 : decode cX11_sign 24 = .ok (.getfield 173, 3) := by decide +kernel
theorem dX11_sign_27 : decode cX11_sign 27 = .ok (.aload_n 0, 1) := by decide +kernel
theorem dX11_sign_28 : decode cX11_sign 28 = .ok (.getfield 170, 3) := by decide +kernel
theorem dX11_sign_31 : decode cX11_sign 31 = .ok (.iload_n 2, 1) := by decide +kernel
theorem dX11_sign_32 : decode cX11_sign 32 = .ok (.iadd, 1) := by decide +kernel
theorem dX11_sign_33 : decode cX11_sign 33 = .ok (.iload_n 1, 1) := by decide +kernel
theorem dX11_sign_34 : decode cX11_sign 34 = .ok (.bipush 24, 2) := by decide +kernel
theorem dX11_sign_36 : decode cX11_sign 36 = .ok (.bipush 8, 2) := by decide +kernel
theorem dX11_sign_38 : decode cX11_sign 38 = .ok (.iload_n 2, 1) := by decide +kernel
theorem dX11_sign_39 : decode cX11_sign 39 = .ok (.imul, 1) := by decide +kernel
theorem dX11_sign_40 : decode cX11_sign 40 = .ok (.isub, 1) := by decide +kernel
theorem dX11_sign_41 : decode cX11_sign 41 = .ok (.ishr, 1) := by decide +kernel
theorem dX11_sign_42 : decode cX11_sign 42 = .ok (.sipush 255, 3) := by decide +kernel
theorem dX11_sign_45 : decode cX11_sign 45 = .ok (.iand, 1) := by decide +kernel
theorem dX11_sign_46 : decode cX11_sign 46 = .ok (.iastore, 1) := by decide +kernel
theorem dX11_sign_47 : decode cX11_sign 47 = .ok (.iinc 2 1, 3) := by decide +kernel
theorem dX11_sign_50 : decode cX11_sign 50 = .ok (.goto (-32), 3) := by decide +kernel
theorem dX11_sign_53 : decode cX11_sign 53 = .ok (.aload_n 0, 1) := by decide +kernel
theorem dX11_sign_54 : decode cX11_sign 54 = .ok (.dup, 1) := by decide +kernel
theorem dX11_sign_55 : decode cX11_sign 55 = .ok (.getfield 170, 3) := by decide +kernel
theorem dX11_sign_58 : decode cX11_sign 58 = .ok (.iconst 4, 1) := by decide +kernel
theorem dX11_sign_59 : decode cX11_sign 59 = .ok (.iadd, 1) := by decide +kernel
theorem dX11_sign_60 : decode cX11_sign 60 = .ok (.putfield 170, 3) := by decide +kernel
theorem dX11_sign_63 : decode cX11_sign 63 = .ok (.aload_n 0, 1) := by decide +kernel
theorem dX11_sign_64 : decode cX11_sign 64 = .ok (.getfield 170, 3) := by decide +kernel
theorem dX11_sign_67 : decode cX11_sign 67 = .ok (.ireturn, 1) := by decide +kernel
theorem dX11_end_0 : decode cX11_end 0 = .ok (.aload_n 0, 1) := by decide +kernel
theorem dX11_end_1 : decode cX11_end 1 = .ok (.iconst 0, 1) := by decide +kernel
theorem dX11_end_2 : decode cX11_end 2 = .ok (.putfield 3, 3) := by decide +kernel
theorem dX11_end_5 : decode cX11_end 5 = .ok (.iload_n 1, 1) := by decide +kernel
theorem dX11_end_6 : decode cX11_end 6 = .ok (.i2l, 1) := by decide +kernel
theorem dX11_end_7 : decode cX11_end 7 = .ok (.lconst 0, 1) := by decide +kernel
theorem dX11_end_8 : decode cX11_end 8 = .ok (.aload_n 0, 1) := by decide +kernel
theorem dX11_end_9 : decode cX11_end 9 = .ok (.getfield 170, 3) := by decide +kernel
theorem dX11_end_12 : decode cX11_end 12 = .ok (.i2l, 1) := by decide +kernel
theorem dX11_end_13 : decode cX11_end 13 = .ok (.invokestatic 25, 3) := by decide +kernel
theorem dX11_end_16 : decode cX11_end 16 = .ok (.ifCond .ne 5, 3) := by decide +kernel
theorem dX11_end_19 : decode cX11_end 19 = .ok (.iconst 0, 1) := by decide +kernel
theorem dX11_end_20 : decode cX11_end 20 = .ok (.ireturn, 1) := by decide +kernel
theorem dX11_end_21 : decode cX11_end 21 = .ok (.aload_n 0, 1) := by decide +kernel
theorem dX11_end_22 : decode cX11_end 22 = .ok (.iload_n 1, 1) := by decide +kernel
theorem dX11_end_23 : decode cX11_end 23 = .ok (.putfield 170, 3) := by decide +kernel
theorem dX11_end_26 : decode cX11_end 26 = .ok (.iconst 1, 1) := by decide +kernel
theorem dX11_end_27 : decode cX11_end 27 = .ok (.ireturn, 1) := by decide +kernel
theorem dX11_isDigit_0 : decode cX11_isDigit 0 = .ok (.aload_n 0, 1) := by decide +kernel
theorem dX11_isDigit_1 : decode cX11_isDigit 1 = .ok (.getfield 176, 3) := by decide +kernel
theorem dX11_isDigit_4 : decode cX11_isDigit 4 = .ok (.aload_n 0, 1) := by decide +kernel
theorem dX11_isDigit_5 : decode cX11_isDigit 5 = .ok (.getfield 179, 3) := by decide +kernel
theorem dX11_isDigit_8 : decode cX11_isDigit 8 = .ok (.if_icmp .ge 29, 3) := by decide +kernel
theorem dX11_isDigit_11 : decode cX11_isDigit 11 = .ok (.aload_n 0, 1) := by decide +kernel
theorem dX11_isDigit_12 : decode cX11_isDigit 12 = .ok (.getfield 173, 3) := by decide +kernel
theorem dX11_isDigit_15 : decode cX11_isDigit 15 = .ok (.aload_n 0, 1) := by decide +kernel
theorem dX11_isDigit_16 : decode cX11_isDigit 16 = .ok (.getfield 176, 3) := by decide +kernel
theorem dX11_isDigit_19 : decode cX11_isDigit 19 = .ok (.iaload, 1) := by decide +kernel
theorem dX11_isDigit_20 : decode cX11_isDigit 20 = .ok (.i2l, 1) := by decide +kernel
theorem dX11_isDigit_21 : decode cX11_isDigit 21 = .ok (.ldc2_w 182, 3) := by decide +kernel
theorem dX11_isDigit_24 : decode cX11_isDigit 24 = .ok (.ldc2_w 184, 3) := by decide +kernel
theorem dX11_isDigit_27 : decode cX11_isDigit 27 = .ok (.invokestatic 25, 3) := by decide +kernel
theorem dX11_isDigit_30 : decode cX11_isDigit 30 = .ok (.ifCond .eq 7, 3) := by decide +kernel
theorem dX11_isDigit_33 : decode cX11_isDigit 33 = .ok (.iconst 1, 1) := by decide +kernel
theorem dX11_isDigit_34 : decode cX11_isDigit 34 = .ok (.goto 4, 3) := by decide +kernel
theorem dX11_isDigit_37 : decode cX11_isDigit 37 = .ok (.iconst 0, 1) := by decide +kernel
theorem dX11_isDigit_38 : decode cX11_isDigit 38 = .ok (.ireturn, 1) := by decide +kernel
theorem dX11_marks_0 : decode cX11_marks 0 = .ok (.aload_n 0, 1) := by decide +kernel
theorem dX11_marks_1 : decode cX11_marks 1 = .ok (.getfield 196, 3) := by decide +kernel
theorem dX11_marks_4 : decode cX11_marks 4 = .ok (.bipush 48, 2) := by decide +kernel
theorem dX11_marks_6 : decode cX11_marks 6 = .ok (.aload_n 0, 1) := by decide +kernel
theorem dX11_marks_7 : decode cX11_marks 7 = .ok (.getfield 199, 3) := by decide +kernel
theorem dX11_marks_10 : decode cX11_marks 10 = .ok (.iconst 1, 1) := by decide +kernel
theorem dX11_marks_11 : decode cX11_marks 11 = .ok (.iaload, 1) := by decide +kernel
theorem dX11_marks_12 : decode cX11_marks 12 = .ok (.iadd, 1) := by decide +kernel
theorem dX11_marks_13 : decode cX11_marks 13 = .ok (.iload_n 1, 1) := by decide +kernel
theorem dX11_marks_14 : decode cX11_marks 14 = .ok (.iastore, 1) := by decide +kernel
theorem dX11_marks_15 : decode cX11_marks 15 = .ok (.aload_n 0, 1) := by decide +kernel
theorem dX11_marks_16 : decode cX11_marks 16 = .ok (.getfield 199, 3) := by decide +kernel
theorem dX11_marks_19 : decode cX11_marks 19 = .ok (.iconst 1, 1) := by decide +kernel
theorem dX11_marks_20 : decode cX11_marks 20 = .ok (.dup2, 1) := by decide +kernel
theorem dX11_marks_21 : decode cX11_marks 21 = .ok (.iaload, 1) := by decide +kernel
theorem dX11_marks_22 : decode cX11_marks 22 = .ok (.iconst 1, 1) := by decide +kernel
theorem dX11_marks_23 : decode cX11_marks 23 = .ok (.iadd, 1) := by decide +kernel
theorem dX11_marks_24 : decode cX11_marks 24 = .ok (.iastore, 1) := by decide +kernel
theorem dX11_marks_25 : decode cX11_marks 25 = .ok (.return_, 1) := by decide +kernel
theorem dX11_opensIn_0 : decode cX11_opensIn 0 = .ok (.iconst 0, 1) := by decide +kernel
theorem dX11_opensIn_1 : decode cX11_opensIn 1 = .ok (.istore_n 3, 1) := by decide +kernel
theorem dX11_opensIn_2 : decode cX11_opensIn 2 = .ok (.iload_n 3, 1) := by decide +kernel
theorem dX11_opensIn_3 : decode cX11_opensIn 3 = .ok (.bipush 99, 2) := by decide +kernel
theorem dX11_opensIn_5 : decode cX11_opensIn 5 = .ok (.if_icmp .ge 20, 3) := by decide +kernel
theorem dX11_opensIn_8 : decode cX11_opensIn 8 = .ok (.aload_n 0, 1) := by decide +kernel
theorem dX11_opensIn_9 : decode cX11_opensIn 9 = .ok (.iload_n 1, 1) := by decide +kernel
theorem dX11_opensIn_10 : decode cX11_opensIn 10 = .ok (.iload_n 2, 1) := by decide +kernel
theorem dX11_opensIn_11 : decode cX11_opensIn 11 = .ok (.iload_n 3, 1) := by decide +kernel
theorem dX11_opensIn_12 : decode cX11_opensIn 12 = .ok (.iadd, 1) := by decide +kernel
theorem dX11_opensIn_13 : decode cX11_opensIn 13 = .ok (.invokevirtual 120, 3) := by decide +kernel
theorem dX11_opensIn_16 : decode cX11_opensIn 16 = .ok (.ifCond .ne 9, 3) := by decide +kernel
theorem dX11_opensIn_19 : decode cX11_opensIn 19 = .ok (.iinc 3 1, 3) := by decide +kernel
theorem dX11_opensIn_22 : decode cX11_opensIn 22 = .ok (.goto (-20), 3) := by decide +kernel
theorem dX11_opensIn_25 : decode cX11_opensIn 25 = .ok (.iload_n 3, 1) := by decide +kernel
theorem dX11_opensIn_26 : decode cX11_opensIn 26 = .ok (.ireturn, 1) := by decide +kernel
theorem dX11_valueOf_0 : decode cX11_valueOf 0 = .ok (.aload_n 0, 1) := by decide +kernel
theorem dX11_valueOf_1 : decode cX11_valueOf 1 = .ok (.getfield 140, 3) := by decide +kernel
theorem dX11_valueOf_4 : decode cX11_valueOf 4 = .ok (.iconst 3, 1) := by decide +kernel
theorem dX11_valueOf_5 : decode cX11_valueOf 5 = .ok (.iload_n 2, 1) := by decide +kernel
theorem dX11_valueOf_6 : decode cX11_valueOf 6 = .ok (.iadd, 1) := by decide +kernel
theorem dX11_valueOf_7 : decode cX11_valueOf 7 = .ok (.iaload, 1) := by decide +kernel
theorem dX11_valueOf_8 : decode cX11_valueOf 8 = .ok (.istore 5, 2) := by decide +kernel
theorem dX11_valueOf_10 : decode cX11_valueOf 10 = .ok (.iload_n 1, 1) := by decide +kernel
theorem dX11_valueOf_11 : decode cX11_valueOf 11 = .ok (.tableswitch 198 0 10 #[57, 70, 80, 90, 101, 109, 128, 143, 162, 181, 188], 57) := by decide +kernel
theorem dX11_valueOf_68 : decode cX11_valueOf 68 = .ok (.aload_n 0, 1) := by decide +kernel
theorem dX11_valueOf_69 : decode cX11_valueOf 69 = .ok (.getfield 60, 3) := by decide +kernel
theorem dX11_valueOf_72 : decode cX11_valueOf 72 = .ok (.bipush 6, 2) := by decide +kernel
theorem dX11_valueOf_74 : decode cX11_valueOf 74 = .ok (.iload 5, 2) := by decide +kernel
theorem dX11_valueOf_76 : decode cX11_valueOf 76 = .ok (.imul, 1) := by decide +kernel
theorem dX11_valueOf_77 : decode cX11_valueOf 77 = .ok (.iload_n 3, 1) := by decide +kernel
theorem dX11_valueOf_78 : decode cX11_valueOf 78 = .ok (.iadd, 1) := by decide +kernel
theorem dX11_valueOf_79 : decode cX11_valueOf 79 = .ok (.iaload, 1) := by decide +kernel
theorem dX11_valueOf_80 : decode cX11_valueOf 80 = .ok (.ireturn, 1) := by decide +kernel
theorem dX11_valueOf_81 : decode cX11_valueOf 81 = .ok (.aload_n 0, 1) := by decide +kernel
theorem dX11_valueOf_82 : decode cX11_valueOf 82 = .ok (.iload 5, 2) := by decide +kernel
theorem dX11_valueOf_84 : decode cX11_valueOf 84 = .ok (.iload_n 3, 1) := by decide +kernel
theorem dX11_valueOf_85 : decode cX11_valueOf 85 = .ok (.iload 4, 2) := by decide +kernel
theorem dX11_valueOf_87 : decode cX11_valueOf 87 = .ok (.invokevirtual 132, 3) := by decide +kernel
theorem dX11_valueOf_90 : decode cX11_valueOf 90 = .ok (.ireturn, 1) := by decide +kernel
theorem dX11_valueOf_91 : decode cX11_valueOf 91 = .ok (.aload_n 0, 1) := by decide +kernel
theorem dX11_valueOf_92 : decode cX11_valueOf 92 = .ok (.iload 5, 2) := by decide +kernel
theorem dX11_valueOf_94 : decode cX11_valueOf 94 = .ok (.iload_n 3, 1) := by decide +kernel
theorem dX11_valueOf_95 : decode cX11_valueOf 95 = .ok (.iload 4, 2) := by decide +kernel
theorem dX11_valueOf_97 : decode cX11_valueOf 97 = .ok (.invokevirtual 128, 3) := by decide +kernel
theorem dX11_valueOf_100 : decode cX11_valueOf 100 = .ok (.ireturn, 1) := by decide +kernel
theorem dX11_valueOf_101 : decode cX11_valueOf 101 = .ok (.aload_n 0, 1) := by decide +kernel
theorem dX11_valueOf_102 : decode cX11_valueOf 102 = .ok (.iload_n 3, 1) := by decide +kernel
theorem dX11_valueOf_103 : decode cX11_valueOf 103 = .ok (.iload 4, 2) := by decide +kernel
theorem dX11_valueOf_105 : decode cX11_valueOf 105 = .ok (.invokevirtual 120, 3) := by decide +kernel
theorem dX11_valueOf_108 : decode cX11_valueOf 108 = .ok (.invokestatic 124, 3) := by decide +kernel
theorem dX11_valueOf_111 : decode cX11_valueOf 111 = .ok (.ireturn, 1) := by decide +kernel
theorem dX11_valueOf_112 : decode cX11_valueOf 112 = .ok (.aload_n 0, 1) := by decide +kernel
theorem dX11_valueOf_113 : decode cX11_valueOf 113 = .ok (.iload_n 3, 1) := by decide +kernel
theorem dX11_valueOf_114 : decode cX11_valueOf 114 = .ok (.iload 4, 2) := by decide +kernel
theorem dX11_valueOf_116 : decode cX11_valueOf 116 = .ok (.invokevirtual 243, 3) := by decide +kernel
theorem dX11_valueOf_119 : decode cX11_valueOf 119 = .ok (.ireturn, 1) := by decide +kernel
theorem dX11_valueOf_120 : decode cX11_valueOf 120 = .ok (.aload_n 0, 1) := by decide +kernel
theorem dX11_valueOf_121 : decode cX11_valueOf 121 = .ok (.getfield 47, 3) := by decide +kernel
theorem dX11_valueOf_124 : decode cX11_valueOf 124 = .ok (.iload_n 3, 1) := by decide +kernel
theorem dX11_valueOf_125 : decode cX11_valueOf 125 = .ok (.iaload, 1) := by decide +kernel
theorem dX11_valueOf_126 : decode cX11_valueOf 126 = .ok (.aload_n 0, 1) := by decide +kernel
theorem dX11_valueOf_127 : decode cX11_valueOf 127 = .ok (.getfield 154, 3) := by decide +kernel
theorem dX11_valueOf_130 : decode cX11_valueOf 130 = .ok (.iload_n 2, 1) := by decide +kernel
theorem dX11_valueOf_131 : decode cX11_valueOf 131 = .ok (.iaload, 1) := by decide +kernel
theorem dX11_valueOf_132 : decode cX11_valueOf 132 = .ok (.invokestatic 137, 3) := by decide +kernel
theorem dX11_valueOf_135 : decode cX11_valueOf 135 = .ok (.invokestatic 124, 3) := by decide +kernel
theorem dX11_valueOf_138 : decode cX11_valueOf 138 = .ok (.ireturn, 1) := by decide +kernel
theorem dX11_valueOf_139 : decode cX11_valueOf 139 = .ok (.iload 5, 2) := by decide +kernel
theorem dX11_valueOf_141 : decode cX11_valueOf 141 = .ok (.iload_n 3, 1) := by decide +kernel
theorem dX11_valueOf_142 : decode cX11_valueOf 142 = .ok (.if_icmp .ne 7, 3) := by decide +kernel
theorem dX11_valueOf_145 : decode cX11_valueOf 145 = .ok (.iconst 1, 1) := by decide +kernel
theorem dX11_valueOf_146 : decode cX11_valueOf 146 = .ok (.goto 4, 3) := by decide +kernel
theorem dX11_valueOf_149 : decode cX11_valueOf 149 = .ok (.iconst 0, 1) := by decide +kernel
theorem dX11_valueOf_150 : decode cX11_valueOf 150 = .ok (.invokestatic 124, 3) := by decide +kernel
theorem dX11_valueOf_153 : decode cX11_valueOf 153 = .ok (.ireturn, 1) := by decide +kernel
theorem dX11_valueOf_154 : decode cX11_valueOf 154 = .ok (.aload_n 0, 1) := by decide +kernel
theorem dX11_valueOf_155 : decode cX11_valueOf 155 = .ok (.getfield 143, 3) := by decide +kernel
theorem dX11_valueOf_158 : decode cX11_valueOf 158 = .ok (.iload_n 2, 1) := by decide +kernel
theorem dX11_valueOf_159 : decode cX11_valueOf 159 = .ok (.iaload, 1) := by decide +kernel
theorem dX11_valueOf_160 : decode cX11_valueOf 160 = .ok (.iload_n 3, 1) := by decide +kernel
theorem dX11_valueOf_161 : decode cX11_valueOf 161 = .ok (.if_icmp .ne 7, 3) := by decide +kernel
theorem dX11_valueOf_164 : decode cX11_valueOf 164 = .ok (.iconst 1, 1) := by decide +kernel
theorem dX11_valueOf_165 : decode cX11_valueOf 165 = .ok (.goto 4, 3) := by decide +kernel
theorem dX11_valueOf_168 : decode cX11_valueOf 168 = .ok (.iconst 0, 1) := by decide +kernel
theorem dX11_valueOf_169 : decode cX11_valueOf 169 = .ok (.invokestatic 124, 3) := by decide +kernel
theorem dX11_valueOf_172 : decode cX11_valueOf 172 = .ok (.ireturn, 1) := by decide +kernel
theorem dX11_valueOf_173 : decode cX11_valueOf 173 = .ok (.aload_n 0, 1) := by decide +kernel
theorem dX11_valueOf_174 : decode cX11_valueOf 174 = .ok (.getfield 163, 3) := by decide +kernel
theorem dX11_valueOf_177 : decode cX11_valueOf 177 = .ok (.iload_n 2, 1) := by decide +kernel
theorem dX11_valueOf_178 : decode cX11_valueOf 178 = .ok (.iaload, 1) := by decide +kernel
theorem dX11_valueOf_179 : decode cX11_valueOf 179 = .ok (.iload_n 3, 1) := by decide +kernel
theorem dX11_valueOf_180 : decode cX11_valueOf 180 = .ok (.if_icmp .ne 7, 3) := by decide +kernel
theorem dX11_valueOf_183 : decode cX11_valueOf 183 = .ok (.iconst 1, 1) := by decide +kernel
theorem dX11_valueOf_184 : decode cX11_valueOf 184 = .ok (.goto 4, 3) := by decide +kernel
theorem dX11_valueOf_187 : decode cX11_valueOf 187 = .ok (.iconst 0, 1) := by decide +kernel
theorem dX11_valueOf_188 : decode cX11_valueOf 188 = .ok (.invokestatic 124, 3) := by decide +kernel
theorem dX11_valueOf_191 : decode cX11_valueOf 191 = .ok (.ireturn, 1) := by decide +kernel
theorem dX11_valueOf_192 : decode cX11_valueOf 192 = .ok (.aload_n 0, 1) := by decide +kernel
theorem dX11_valueOf_193 : decode cX11_valueOf 193 = .ok (.getfield 41, 3) := by decide +kernel
theorem dX11_valueOf_196 : decode cX11_valueOf 196 = .ok (.iload_n 3, 1) := by decide +kernel
theorem dX11_valueOf_197 : decode cX11_valueOf 197 = .ok (.iaload, 1) := by decide +kernel
theorem dX11_valueOf_198 : decode cX11_valueOf 198 = .ok (.ireturn, 1) := by decide +kernel
theorem dX11_valueOf_199 : decode cX11_valueOf 199 = .ok (.aload_n 0, 1) := by decide +kernel
theorem dX11_valueOf_200 : decode cX11_valueOf 200 = .ok (.getfield 140, 3) := by decide +kernel
theorem dX11_valueOf_203 : decode cX11_valueOf 203 = .ok (.bipush 11, 2) := by decide +kernel
theorem dX11_valueOf_205 : decode cX11_valueOf 205 = .ok (.iload_n 2, 1) := by decide +kernel
theorem dX11_valueOf_206 : decode cX11_valueOf 206 = .ok (.iadd, 1) := by decide +kernel
theorem dX11_valueOf_207 : decode cX11_valueOf 207 = .ok (.iaload, 1) := by decide +kernel
theorem dX11_valueOf_208 : decode cX11_valueOf 208 = .ok (.ireturn, 1) := by decide +kernel
theorem dX11_valueOf_209 : decode cX11_valueOf 209 = .ok (.iload_n 3, 1) := by decide +kernel
theorem dX11_valueOf_210 : decode cX11_valueOf 210 = .ok (.ireturn, 1) := by decide +kernel
theorem dX11_acted_0 : decode cX11_acted 0 = .ok (.iload_n 0, 1) := by decide +kernel
theorem dX11_acted_1 : decode cX11_acted 1 = .ok (.tableswitch 186 38 62 #[169, 186, 186, 186, 123, 115, 186, 119, 186, 186, 186, 186, 186, 186, 186, 186, 186, 186, 186, 186, 186, 186, 127, 155, 141], 115) := by decide +kernel
theorem dX11_acted_116 : decode cX11_acted 116 = .ok (.iload_n 1, 1) := by decide +kernel
theorem dX11_acted_117 : decode cX11_acted 117 = .ok (.iload_n 2, 1) := by decide +kernel
theorem dX11_acted_118 : decode cX11_acted 118 = .ok (.iadd, 1) := by decide +kernel
theorem dX11_acted_119 : decode cX11_acted 119 = .ok (.ireturn, 1) := by decide +kernel
theorem dX11_acted_120 : decode cX11_acted 120 = .ok (.iload_n 1, 1) := by decide +kernel
theorem dX11_acted_121 : decode cX11_acted 121 = .ok (.iload_n 2, 1) := by decide +kernel
theorem dX11_acted_122 : decode cX11_acted 122 = .ok (.isub, 1) := by decide +kernel
theorem dX11_acted_123 : decode cX11_acted 123 = .ok (.ireturn, 1) := by decide +kernel
theorem dX11_acted_124 : decode cX11_acted 124 = .ok (.iload_n 1, 1) := by decide +kernel
theorem dX11_acted_125 : decode cX11_acted 125 = .ok (.iload_n 2, 1) := by decide +kernel
theorem dX11_acted_126 : decode cX11_acted 126 = .ok (.imul, 1) := by decide +kernel
theorem dX11_acted_127 : decode cX11_acted 127 = .ok (.ireturn, 1) := by decide +kernel
theorem dX11_acted_128 : decode cX11_acted 128 = .ok (.iload_n 1, 1) := by decide +kernel
theorem dX11_acted_129 : decode cX11_acted 129 = .ok (.iload_n 2, 1) := by decide +kernel
theorem dX11_acted_130 : decode cX11_acted 130 = .ok (.if_icmp .ge 7, 3) := by decide +kernel
theorem dX11_acted_133 : decode cX11_acted 133 = .ok (.iconst 1, 1) := by decide +kernel
theorem dX11_acted_134 : decode cX11_acted 134 = .ok (.goto 4, 3) := by decide +kernel
theorem dX11_acted_137 : decode cX11_acted 137 = .ok (.iconst 0, 1) := by decide +kernel
theorem dX11_acted_138 : decode cX11_acted 138 = .ok (.invokestatic 124, 3) := by decide +kernel
theorem dX11_acted_141 : decode cX11_acted 141 = .ok (.ireturn, 1) := by decide +kernel
theorem dX11_acted_142 : decode cX11_acted 142 = .ok (.iload_n 1, 1) := by decide +kernel
theorem dX11_acted_143 : decode cX11_acted 143 = .ok (.iload_n 2, 1) := by decide +kernel
theorem dX11_acted_144 : decode cX11_acted 144 = .ok (.if_icmp .le 7, 3) := by decide +kernel
theorem dX11_acted_147 : decode cX11_acted 147 = .ok (.iconst 1, 1) := by decide +kernel
theorem dX11_acted_148 : decode cX11_acted 148 = .ok (.goto 4, 3) := by decide +kernel
theorem dX11_acted_151 : decode cX11_acted 151 = .ok (.iconst 0, 1) := by decide +kernel
theorem dX11_acted_152 : decode cX11_acted 152 = .ok (.invokestatic 124, 3) := by decide +kernel
theorem dX11_acted_155 : decode cX11_acted 155 = .ok (.ireturn, 1) := by decide +kernel
theorem dX11_acted_156 : decode cX11_acted 156 = .ok (.iload_n 1, 1) := by decide +kernel
theorem dX11_acted_157 : decode cX11_acted 157 = .ok (.iload_n 2, 1) := by decide +kernel
theorem dX11_acted_158 : decode cX11_acted 158 = .ok (.if_icmp .ne 7, 3) := by decide +kernel
theorem dX11_acted_161 : decode cX11_acted 161 = .ok (.iconst 1, 1) := by decide +kernel
theorem dX11_acted_162 : decode cX11_acted 162 = .ok (.goto 4, 3) := by decide +kernel
theorem dX11_acted_165 : decode cX11_acted 165 = .ok (.iconst 0, 1) := by decide +kernel
theorem dX11_acted_166 : decode cX11_acted 166 = .ok (.invokestatic 124, 3) := by decide +kernel
theorem dX11_acted_169 : decode cX11_acted 169 = .ok (.ireturn, 1) := by decide +kernel
theorem dX11_acted_170 : decode cX11_acted 170 = .ok (.iload_n 1, 1) := by decide +kernel
theorem dX11_acted_171 : decode cX11_acted 171 = .ok (.ifCond .eq 11, 3) := by decide +kernel
theorem dX11_acted_174 : decode cX11_acted 174 = .ok (.iload_n 2, 1) := by decide +kernel
theorem dX11_acted_175 : decode cX11_acted 175 = .ok (.ifCond .eq 7, 3) := by decide +kernel
theorem dX11_acted_178 : decode cX11_acted 178 = .ok (.iconst 1, 1) := by decide +kernel
theorem dX11_acted_179 : decode cX11_acted 179 = .ok (.goto 4, 3) := by decide +kernel
theorem dX11_acted_182 : decode cX11_acted 182 = .ok (.iconst 0, 1) := by decide +kernel
theorem dX11_acted_183 : decode cX11_acted 183 = .ok (.invokestatic 124, 3) := by decide +kernel
theorem dX11_acted_186 : decode cX11_acted 186 = .ok (.ireturn, 1) := by decide +kernel
theorem dX11_acted_187 : decode cX11_acted 187 = .ok (.iload_n 1, 1) := by decide +kernel
theorem dX11_acted_188 : decode cX11_acted 188 = .ok (.ifCond .ne 7, 3) := by decide +kernel
theorem dX11_acted_191 : decode cX11_acted 191 = .ok (.iload_n 2, 1) := by decide +kernel
theorem dX11_acted_192 : decode cX11_acted 192 = .ok (.ifCond .eq 7, 3) := by decide +kernel
theorem dX11_acted_195 : decode cX11_acted 195 = .ok (.iconst 1, 1) := by decide +kernel
theorem dX11_acted_196 : decode cX11_acted 196 = .ok (.goto 4, 3) := by decide +kernel
theorem dX11_acted_199 : decode cX11_acted 199 = .ok (.iconst 0, 1) := by decide +kernel
theorem dX11_acted_200 : decode cX11_acted 200 = .ok (.invokestatic 124, 3) := by decide +kernel
theorem dX11_acted_203 : decode cX11_acted 203 = .ok (.ireturn, 1) := by decide +kernel
theorem dX11_worked_0 : decode cX11_worked 0 = .ok (.iconst 0, 1) := by decide +kernel
theorem dX11_worked_1 : decode cX11_worked 1 = .ok (.istore 4, 2) := by decide +kernel
theorem dX11_worked_3 : decode cX11_worked 3 = .ok (.iconst 0, 1) := by decide +kernel
theorem dX11_worked_4 : decode cX11_worked 4 = .ok (.istore 5, 2) := by decide +kernel
theorem dX11_worked_6 : decode cX11_worked 6 = .ok (.iload 5, 2) := by decide +kernel
theorem dX11_worked_8 : decode cX11_worked 8 = .ok (.aload_n 0, 1) := by decide +kernel
theorem dX11_worked_9 : decode cX11_worked 9 = .ok (.getfield 199, 3) := by decide +kernel
theorem dX11_worked_12 : decode cX11_worked 12 = .ok (.iconst 0, 1) := by decide +kernel
theorem dX11_worked_13 : decode cX11_worked 13 = .ok (.iaload, 1) := by decide +kernel
theorem dX11_worked_14 : decode cX11_worked 14 = .ok (.if_icmp .ge 172, 3) := by decide +kernel
theorem dX11_worked_17 : decode cX11_worked 17 = .ok (.aload_n 0, 1) := by decide +kernel
theorem dX11_worked_18 : decode cX11_worked 18 = .ok (.getfield 196, 3) := by decide +kernel
theorem dX11_worked_21 : decode cX11_worked 21 = .ok (.iload 5, 2) := by decide +kernel
theorem dX11_worked_23 : decode cX11_worked 23 = .ok (.iaload, 1) := by decide +kernel
theorem dX11_worked_24 : decode cX11_worked 24 = .ok (.istore 6, 2) := by decide +kernel
theorem dX11_worked_26 : decode cX11_worked 26 = .ok (.iload 6, 2) := by decide +kernel
theorem dX11_worked_28 : decode cX11_worked 28 = .ok (.sipush 2000, 3) := by decide +kernel
theorem dX11_worked_31 : decode cX11_worked 31 = .ok (.if_icmp .ge 42, 3) := by decide +kernel
theorem dX11_worked_34 : decode cX11_worked 34 = .ok (.aload_n 0, 1) := by decide +kernel
theorem dX11_worked_35 : decode cX11_worked 35 = .ok (.getfield 246, 3) := by decide +kernel
theorem dX11_worked_38 : decode cX11_worked 38 = .ok (.iload 4, 2) := by decide +kernel
theorem dX11_worked_40 : decode cX11_worked 40 = .ok (.iload 6, 2) := by decide +kernel
theorem dX11_worked_42 : decode cX11_worked 42 = .ok (.sipush 1000, 3) := by decide +kernel
theorem dX11_worked_45 : decode cX11_worked 45 = .ok (.if_icmp .ge 8, 3) := by decide +kernel
theorem dX11_worked_48 : decode cX11_worked 48 = .ok (.iload 6, 2) := by decide +kernel
theorem dX11_worked_50 : decode cX11_worked 50 = .ok (.goto 16, 3) := by decide +kernel
theorem dX11_worked_53 : decode cX11_worked 53 = .ok (.aload_n 0, 1) := by decide +kernel
theorem dX11_worked_54 : decode cX11_worked 54 = .ok (.iload 6, 2) := by decide +kernel
theorem dX11_worked_56 : decode cX11_worked 56 = .ok (.sipush 1000, 3) := by decide +kernel
theorem dX11_worked_59 : decode cX11_worked 59 = .ok (.isub, 1) := by decide +kernel
theorem dX11_worked_60 : decode cX11_worked 60 = .ok (.iload_n 1, 1) := by decide +kernel
theorem dX11_worked_61 : decode cX11_worked 61 = .ok (.iload_n 2, 1) := by decide +kernel
theorem dX11_worked_62 : decode cX11_worked 62 = .ok (.iload_n 3, 1) := by decide +kernel
theorem dX11_worked_63 : decode cX11_worked 63 = .ok (.invokevirtual 249, 3) := by decide +kernel
theorem dX11_worked_66 : decode cX11_worked 66 = .ok (.iastore, 1) := by decide +kernel
theorem dX11_worked_67 : decode cX11_worked 67 = .ok (.iinc 4 1, 3) := by decide +kernel
theorem dX11_worked_70 : decode cX11_worked 70 = .ok (.goto 110, 3) := by decide +kernel
theorem dX11_worked_73 : decode cX11_worked 73 = .ok (.iload 6, 2) := by decide +kernel
theorem dX11_worked_75 : decode cX11_worked 75 = .ok (.sipush 2033, 3) := by decide +kernel
theorem dX11_worked_78 : decode cX11_worked 78 = .ok (.if_icmp .ne 35, 3) := by decide +kernel
theorem dX11_worked_81 : decode cX11_worked 81 = .ok (.aload_n 0, 1) := by decide +kernel
theorem dX11_worked_82 : decode cX11_worked 82 = .ok (.getfield 246, 3) := by decide +kernel
theorem dX11_worked_85 : decode cX11_worked 85 = .ok (.iload 4, 2) := by decide +kernel
theorem dX11_worked_87 : decode cX11_worked 87 = .ok (.iconst 1, 1) := by decide +kernel
theorem dX11_worked_88 : decode cX11_worked 88 = .ok (.isub, 1) := by decide +kernel
theorem dX11_worked_89 : decode cX11_worked 89 = .ok (.aload_n 0, 1) := by decide +kernel
theorem dX11_worked_90 : decode cX11_worked 90 = .ok (.getfield 246, 3) := by decide +kernel
theorem dX11_worked_93 : decode cX11_worked 93 = .ok (.iload 4, 2) := by decide +kernel
theorem dX11_worked_95 : decode cX11_worked 95 = .ok (.iconst 1, 1) := by decide +kernel
theorem dX11_worked_96 : decode cX11_worked 96 = .ok (.isub, 1) := by decide +kernel
theorem dX11_worked_97 : decode cX11_worked 97 = .ok (.iaload, 1) := by decide +kernel
theorem dX11_worked_98 : decode cX11_worked 98 = .ok (.ifCond .ne 7, 3) := by decide +kernel
theorem dX11_worked_101 : decode cX11_worked 101 = .ok (.iconst 1, 1) := by decide +kernel
theorem dX11_worked_102 : decode cX11_worked 102 = .ok (.goto 4, 3) := by decide +kernel
theorem dX11_worked_105 : decode cX11_worked 105 = .ok (.iconst 0, 1) := by decide +kernel
theorem dX11_worked_106 : decode cX11_worked 106 = .ok (.invokestatic 124, 3) := by decide +kernel
theorem dX11_worked_109 : decode cX11_worked 109 = .ok (.iastore, 1) := by decide +kernel
theorem dX11_worked_110 : decode cX11_worked 110 = .ok (.goto 70, 3) := by decide +kernel
theorem dX11_worked_113 : decode cX11_worked 113 = .ok (.iload 6, 2) := by decide +kernel
theorem dX11_worked_115 : decode cX11_worked 115 = .ok (.sipush 2126, 3) := by decide +kernel
theorem dX11_worked_118 : decode cX11_worked 118 = .ok (.if_icmp .ne 25, 3) := by decide +kernel
theorem dX11_worked_121 : decode cX11_worked 121 = .ok (.aload_n 0, 1) := by decide +kernel
theorem dX11_worked_122 : decode cX11_worked 122 = .ok (.getfield 246, 3) := by decide +kernel
theorem dX11_worked_125 : decode cX11_worked 125 = .ok (.iload 4, 2) := by decide +kernel
theorem dX11_worked_127 : decode cX11_worked 127 = .ok (.iconst 1, 1) := by decide +kernel
theorem dX11_worked_128 : decode cX11_worked 128 = .ok (.isub, 1) := by decide +kernel
theorem dX11_worked_129 : decode cX11_worked 129 = .ok (.aload_n 0, 1) := by decide +kernel
theorem dX11_worked_130 : decode cX11_worked 130 = .ok (.getfield 246, 3) := by decide +kernel
theorem dX11_worked_133 : decode cX11_worked 133 = .ok (.iload 4, 2) := by decide +kernel
theorem dX11_worked_135 : decode cX11_worked 135 = .ok (.iconst 1, 1) := by decide +kernel
theorem dX11_worked_136 : decode cX11_worked 136 = .ok (.isub, 1) := by decide +kernel
theorem dX11_worked_137 : decode cX11_worked 137 = .ok (.iaload, 1) := by decide +kernel
theorem dX11_worked_138 : decode cX11_worked 138 = .ok (.ineg, 1) := by decide +kernel
theorem dX11_worked_139 : decode cX11_worked 139 = .ok (.iastore, 1) := by decide +kernel
theorem dX11_worked_140 : decode cX11_worked 140 = .ok (.goto 40, 3) := by decide +kernel
theorem dX11_worked_143 : decode cX11_worked 143 = .ok (.iinc 4 (-1), 3) := by decide +kernel
theorem dX11_worked_146 : decode cX11_worked 146 = .ok (.aload_n 0, 1) := by decide +kernel
theorem dX11_worked_147 : decode cX11_worked 147 = .ok (.getfield 246, 3) := by decide +kernel
theorem dX11_worked_150 : decode cX11_worked 150 = .ok (.iload 4, 2) := by decide +kernel
theorem dX11_worked_152 : decode cX11_worked 152 = .ok (.iconst 1, 1) := by decide +kernel
theorem dX11_worked_153 : decode cX11_worked 153 = .ok (.isub, 1) := by decide +kernel
theorem dX11_worked_154 : decode cX11_worked 154 = .ok (.iload 6, 2) := by decide +kernel
theorem dX11_worked_156 : decode cX11_worked 156 = .ok (.sipush 2000, 3) := by decide +kernel
theorem dX11_worked_159 : decode cX11_worked 159 = .ok (.isub, 1) := by decide +kernel
theorem dX11_worked_160 : decode cX11_worked 160 = .ok (.aload_n 0, 1) := by decide +kernel
theorem dX11_worked_161 : decode cX11_worked 161 = .ok (.getfield 246, 3) := by decide +kernel
theorem dX11_worked_164 : decode cX11_worked 164 = .ok (.iload 4, 2) := by decide +kernel
theorem dX11_worked_166 : decode cX11_worked 166 = .ok (.iconst 1, 1) := by decide +kernel
theorem dX11_worked_167 : decode cX11_worked 167 = .ok (.isub, 1) := by decide +kernel
theorem dX11_worked_168 : decode cX11_worked 168 = .ok (.iaload, 1) := by decide +kernel
theorem dX11_worked_169 : decode cX11_worked 169 = .ok (.aload_n 0, 1) := by decide +kernel
theorem dX11_worked_170 : decode cX11_worked 170 = .ok (.getfield 246, 3) := by decide +kernel
theorem dX11_worked_173 : decode cX11_worked 173 = .ok (.iload 4, 2) := by decide +kernel
theorem dX11_worked_175 : decode cX11_worked 175 = .ok (.iaload, 1) := by decide +kernel
theorem dX11_worked_176 : decode cX11_worked 176 = .ok (.invokestatic 253, 3) := by decide +kernel
theorem dX11_worked_179 : decode cX11_worked 179 = .ok (.iastore, 1) := by decide +kernel
theorem dX11_worked_180 : decode cX11_worked 180 = .ok (.iinc 5 1, 3) := by decide +kernel
theorem dX11_worked_183 : decode cX11_worked 183 = .ok (.goto (-177), 3) := by decide +kernel
theorem dX11_worked_186 : decode cX11_worked 186 = .ok (.aload_n 0, 1) := by decide +kernel
theorem dX11_worked_187 : decode cX11_worked 187 = .ok (.getfield 246, 3) := by decide +kernel
theorem dX11_worked_190 : decode cX11_worked 190 = .ok (.iconst 0, 1) := by decide +kernel
theorem dX11_worked_191 : decode cX11_worked 191 = .ok (.iaload, 1) := by decide +kernel
theorem dX11_worked_192 : decode cX11_worked 192 = .ok (.ireturn, 1) := by decide +kernel
theorem dX11_isPiece_0 : decode cX11_isPiece 0 = .ok (.iload_n 1, 1) := by decide +kernel
theorem dX11_isPiece_1 : decode cX11_isPiece 1 = .ok (.i2l, 1) := by decide +kernel
theorem dX11_isPiece_2 : decode cX11_isPiece 2 = .ok (.lconst 0, 1) := by decide +kernel
theorem dX11_isPiece_3 : decode cX11_isPiece 3 = .ok (.aload_n 0, 1) := by decide +kernel
theorem dX11_isPiece_4 : decode cX11_isPiece 4 = .ok (.getfield 151, 3) := by decide +kernel
theorem dX11_isPiece_7 : decode cX11_isPiece 7 = .ok (.iconst 1, 1) := by decide +kernel
theorem dX11_isPiece_8 : decode cX11_isPiece 8 = .ok (.isub, 1) := by decide +kernel
theorem dX11_isPiece_9 : decode cX11_isPiece 9 = .ok (.i2l, 1) := by decide +kernel
theorem dX11_isPiece_10 : decode cX11_isPiece 10 = .ok (.invokestatic 25, 3) := by decide +kernel
theorem dX11_isPiece_13 : decode cX11_isPiece 13 = .ok (.ireturn, 1) := by decide +kernel
theorem dX11_value_0 : decode cX11_value 0 = .ok (.aload_n 0, 1) := by decide +kernel
theorem dX11_value_1 : decode cX11_value 1 = .ok (.iconst 0, 1) := by decide +kernel
theorem dX11_value_2 : decode cX11_value 2 = .ok (.putfield 3, 3) := by decide +kernel
theorem dX11_value_5 : decode cX11_value 5 = .ok (.aload_n 0, 1) := by decide +kernel
theorem dX11_value_6 : decode cX11_value 6 = .ok (.iload_n 1, 1) := by decide +kernel
theorem dX11_value_7 : decode cX11_value 7 = .ok (.invokevirtual 256, 3) := by decide +kernel
theorem dX11_value_10 : decode cX11_value 10 = .ok (.ifCond .eq 20, 3) := by decide +kernel
theorem dX11_value_13 : decode cX11_value 13 = .ok (.aload_n 0, 1) := by decide +kernel
theorem dX11_value_14 : decode cX11_value 14 = .ok (.iload_n 2, 1) := by decide +kernel
theorem dX11_value_15 : decode cX11_value 15 = .ok (.invokevirtual 77, 3) := by decide +kernel
theorem dX11_value_18 : decode cX11_value 18 = .ok (.ifCond .eq 12, 3) := by decide +kernel
theorem dX11_value_21 : decode cX11_value 21 = .ok (.aload_n 0, 1) := by decide +kernel
theorem dX11_value_22 : decode cX11_value 22 = .ok (.getfield 199, 3) := by decide +kernel
theorem dX11_value_25 : decode cX11_value 25 = .ok (.iconst 0, 1) := by decide +kernel
theorem dX11_value_26 : decode cX11_value 26 = .ok (.iaload, 1) := by decide +kernel
theorem dX11_value_27 : decode cX11_value 27 = .ok (.ifCond .ne 8, 3) := by decide +kernel
theorem dX11_value_30 : decode cX11_value 30 = .ok (.aload_n 0, 1) := by decide +kernel
theorem dX11_value_31 : decode cX11_value 31 = .ok (.invokevirtual 259, 3) := by decide +kernel
theorem dX11_value_34 : decode cX11_value 34 = .ok (.ireturn, 1) := by decide +kernel
theorem dX11_value_35 : decode cX11_value 35 = .ok (.aload_n 0, 1) := by decide +kernel
theorem dX11_value_36 : decode cX11_value 36 = .ok (.iload_n 1, 1) := by decide +kernel
theorem dX11_value_37 : decode cX11_value 37 = .ok (.iload_n 2, 1) := by decide +kernel
theorem dX11_value_38 : decode cX11_value 38 = .ok (.aload_n 0, 1) := by decide +kernel
theorem dX11_value_39 : decode cX11_value 39 = .ok (.getfield 140, 3) := by decide +kernel
theorem dX11_value_42 : decode cX11_value 42 = .ok (.iconst 0, 1) := by decide +kernel
theorem dX11_value_43 : decode cX11_value 43 = .ok (.iaload, 1) := by decide +kernel
theorem dX11_value_44 : decode cX11_value 44 = .ok (.iconst 1, 1) := by decide +kernel
theorem dX11_value_45 : decode cX11_value 45 = .ok (.iadd, 1) := by decide +kernel
theorem dX11_value_46 : decode cX11_value 46 = .ok (.invokevirtual 262, 3) := by decide +kernel
theorem dX11_value_49 : decode cX11_value 49 = .ok (.ireturn, 1) := by decide +kernel
theorem dX11_isDone_0 : decode cX11_isDone 0 = .ok (.aload_n 0, 1) := by decide +kernel
theorem dX11_isDone_1 : decode cX11_isDone 1 = .ok (.getfield 140, 3) := by decide +kernel
theorem dX11_isDone_4 : decode cX11_isDone 4 = .ok (.bipush 35, 2) := by decide +kernel
theorem dX11_isDone_6 : decode cX11_isDone 6 = .ok (.iload_n 1, 1) := by decide +kernel
theorem dX11_isDone_7 : decode cX11_isDone 7 = .ok (.iadd, 1) := by decide +kernel
theorem dX11_isDone_8 : decode cX11_isDone 8 = .ok (.iaload, 1) := by decide +kernel
theorem dX11_isDone_9 : decode cX11_isDone 9 = .ok (.ifCond .lt 7, 3) := by decide +kernel
theorem dX11_isDone_12 : decode cX11_isDone 12 = .ok (.iconst 1, 1) := by decide +kernel
theorem dX11_isDone_13 : decode cX11_isDone 13 = .ok (.goto 4, 3) := by decide +kernel
theorem dX11_isDone_16 : decode cX11_isDone 16 = .ok (.iconst 0, 1) := by decide +kernel
theorem dX11_isDone_17 : decode cX11_isDone 17 = .ok (.ireturn, 1) := by decide +kernel
theorem dX11_isReady_0 : decode cX11_isReady 0 = .ok (.aload_n 0, 1) := by decide +kernel
theorem dX11_isReady_1 : decode cX11_isReady 1 = .ok (.iload_n 1, 1) := by decide +kernel
theorem dX11_isReady_2 : decode cX11_isReady 2 = .ok (.invokevirtual 265, 3) := by decide +kernel
theorem dX11_isReady_5 : decode cX11_isReady 5 = .ok (.ifCond .ne 7, 3) := by decide +kernel
theorem dX11_isReady_8 : decode cX11_isReady 8 = .ok (.iconst 1, 1) := by decide +kernel
theorem dX11_isReady_9 : decode cX11_isReady 9 = .ok (.goto 4, 3) := by decide +kernel
theorem dX11_isReady_12 : decode cX11_isReady 12 = .ok (.iconst 0, 1) := by decide +kernel
theorem dX11_isReady_13 : decode cX11_isReady 13 = .ok (.istore_n 2, 1) := by decide +kernel
theorem dX11_isReady_14 : decode cX11_isReady 14 = .ok (.iconst 0, 1) := by decide +kernel
theorem dX11_isReady_15 : decode cX11_isReady 15 = .ok (.istore_n 3, 1) := by decide +kernel
theorem dX11_isReady_16 : decode cX11_isReady 16 = .ok (.iload_n 3, 1) := by decide +kernel
theorem dX11_isReady_17 : decode cX11_isReady 17 = .ok (.iload_n 1, 1) := by decide +kernel
theorem dX11_isReady_18 : decode cX11_isReady 18 = .ok (.if_icmp .ge 40, 3) := by decide +kernel
theorem dX11_isReady_21 : decode cX11_isReady 21 = .ok (.iload_n 2, 1) := by decide +kernel
theorem dX11_isReady_22 : decode cX11_isReady 22 = .ok (.ifCond .eq 28, 3) := by decide +kernel
theorem dX11_isReady_25 : decode cX11_isReady 25 = .ok (.aload_n 0, 1) := by decide +kernel
theorem dX11_isReady_26 : decode cX11_isReady 26 = .ok (.getfield 160, 3) := by decide +kernel
theorem dX11_isReady_29 : decode cX11_isReady 29 = .ok (.iload_n 1, 1) := by decide +kernel
theorem dX11_isReady_30 : decode cX11_isReady 30 = .ok (.iaload, 1) := by decide +kernel
theorem dX11_isReady_31 : decode cX11_isReady 31 = .ok (.iload_n 3, 1) := by decide +kernel
theorem dX11_isReady_32 : decode cX11_isReady 32 = .ok (.invokestatic 137, 3) := by decide +kernel
theorem dX11_isReady_35 : decode cX11_isReady 35 = .ok (.ifCond .eq 11, 3) := by decide +kernel
theorem dX11_isReady_38 : decode cX11_isReady 38 = .ok (.aload_n 0, 1) := by decide +kernel
theorem dX11_isReady_39 : decode cX11_isReady 39 = .ok (.iload_n 3, 1) := by decide +kernel
theorem dX11_isReady_40 : decode cX11_isReady 40 = .ok (.invokevirtual 265, 3) := by decide +kernel
theorem dX11_isReady_43 : decode cX11_isReady 43 = .ok (.ifCond .eq 7, 3) := by decide +kernel
theorem dX11_isReady_46 : decode cX11_isReady 46 = .ok (.iconst 1, 1) := by decide +kernel
theorem dX11_isReady_47 : decode cX11_isReady 47 = .ok (.goto 4, 3) := by decide +kernel
theorem dX11_isReady_50 : decode cX11_isReady 50 = .ok (.iconst 0, 1) := by decide +kernel
theorem dX11_isReady_51 : decode cX11_isReady 51 = .ok (.istore_n 2, 1) := by decide +kernel
theorem dX11_isReady_52 : decode cX11_isReady 52 = .ok (.iinc 3 1, 3) := by decide +kernel
theorem dX11_isReady_55 : decode cX11_isReady 55 = .ok (.goto (-39), 3) := by decide +kernel
theorem dX11_isReady_58 : decode cX11_isReady 58 = .ok (.iload_n 2, 1) := by decide +kernel
theorem dX11_isReady_59 : decode cX11_isReady 59 = .ok (.ireturn, 1) := by decide +kernel
theorem dX11_readyBits_0 : decode cX11_readyBits 0 = .ok (.iconst 0, 1) := by decide +kernel
theorem dX11_readyBits_1 : decode cX11_readyBits 1 = .ok (.istore_n 1, 1) := by decide +kernel
theorem dX11_readyBits_2 : decode cX11_readyBits 2 = .ok (.iconst 0, 1) := by decide +kernel
theorem dX11_readyBits_3 : decode cX11_readyBits 3 = .ok (.istore_n 2, 1) := by decide +kernel
theorem dX11_readyBits_4 : decode cX11_readyBits 4 = .ok (.iload_n 2, 1) := by decide +kernel
theorem dX11_readyBits_5 : decode cX11_readyBits 5 = .ok (.aload_n 0, 1) := by decide +kernel
theorem dX11_readyBits_6 : decode cX11_readyBits 6 = .ok (.getfield 151, 3) := by decide +kernel
theorem dX11_readyBits_9 : decode cX11_readyBits 9 = .ok (.if_icmp .ge 27, 3) := by decide +kernel
theorem dX11_readyBits_12 : decode cX11_readyBits 12 = .ok (.iload_n 1, 1) := by decide +kernel
theorem dX11_readyBits_13 : decode cX11_readyBits 13 = .ok (.aload_n 0, 1) := by decide +kernel
theorem dX11_readyBits_14 : decode cX11_readyBits 14 = .ok (.iload_n 2, 1) := by decide +kernel
theorem dX11_readyBits_15 : decode cX11_readyBits 15 = .ok (.invokevirtual 268, 3) := by decide +kernel
theorem dX11_readyBits_18 : decode cX11_readyBits 18 = .ok (.ifCond .eq 9, 3) := by decide +kernel
theorem dX11_readyBits_21 : decode cX11_readyBits 21 = .ok (.iconst 1, 1) := by decide +kernel
theorem dX11_readyBits_22 : decode cX11_readyBits 22 = .ok (.iload_n 2, 1) := by decide +kernel
theorem dX11_readyBits_23 : decode cX11_readyBits 23 = .ok (.ishl, 1) := by decide +kernel
theorem dX11_readyBits_24 : decode cX11_readyBits 24 = .ok (.goto 4, 3) := by decide +kernel
theorem dX11_readyBits_27 : decode cX11_readyBits 27 = .ok (.iconst 0, 1) := by decide +kernel
theorem dX11_readyBits_28 : decode cX11_readyBits 28 = .ok (.ior, 1) := by decide +kernel
theorem dX11_readyBits_29 : decode cX11_readyBits 29 = .ok (.istore_n 1, 1) := by decide +kernel
theorem dX11_readyBits_30 : decode cX11_readyBits 30 = .ok (.iinc 2 1, 3) := by decide +kernel
theorem dX11_readyBits_33 : decode cX11_readyBits 33 = .ok (.goto (-29), 3) := by decide +kernel
theorem dX11_readyBits_36 : decode cX11_readyBits 36 = .ok (.iload_n 1, 1) := by decide +kernel
theorem dX11_readyBits_37 : decode cX11_readyBits 37 = .ok (.ireturn, 1) := by decide +kernel
theorem dX11_asked_0 : decode cX11_asked 0 = .ok (.aload_n 0, 1) := by decide +kernel
theorem dX11_asked_1 : decode cX11_asked 1 = .ok (.getfield 271, 3) := by decide +kernel
theorem dX11_asked_4 : decode cX11_asked 4 = .ok (.ifCond .eq 7, 3) := by decide +kernel
theorem dX11_asked_7 : decode cX11_asked 7 = .ok (.iconst (-1), 1) := by decide +kernel
theorem dX11_asked_8 : decode cX11_asked 8 = .ok (.goto 9, 3) := by decide +kernel
theorem dX11_asked_11 : decode cX11_asked 11 = .ok (.aload_n 0, 1) := by decide +kernel
theorem dX11_asked_12 : decode cX11_asked 12 = .ok (.getfield 163, 3) := by decide +kernel
theorem dX11_asked_15 : decode cX11_asked 15 = .ok (.iload_n 1, 1) := by decide +kernel
theorem dX11_asked_16 : decode cX11_asked 16 = .ok (.iaload, 1) := by decide +kernel
theorem dX11_asked_17 : decode cX11_asked 17 = .ok (.ireturn, 1) := by decide +kernel
theorem dX11_works_0 : decode cX11_works 0 = .ok (.aload_n 0, 1) := by decide +kernel
theorem dX11_works_1 : decode cX11_works 1 = .ok (.getfield 140, 3) := by decide +kernel
theorem dX11_works_4 : decode cX11_works 4 = .ok (.iconst 0, 1) := by decide +kernel
theorem dX11_works_5 : decode cX11_works 5 = .ok (.iaload, 1) := by decide +kernel
theorem dX11_works_6 : decode cX11_works 6 = .ok (.istore_n 1, 1) := by decide +kernel
theorem dX11_works_7 : decode cX11_works 7 = .ok (.aload_n 0, 1) := by decide +kernel
theorem dX11_works_8 : decode cX11_works 8 = .ok (.aload_n 0, 1) := by decide +kernel
theorem dX11_works_9 : decode cX11_works 9 = .ok (.invokevirtual 275, 3) := by decide +kernel
theorem dX11_works_12 : decode cX11_works 12 = .ok (.putfield 278, 3) := by decide +kernel
theorem dX11_works_15 : decode cX11_works 15 = .ok (.aload_n 0, 1) := by decide +kernel
theorem dX11_works_16 : decode cX11_works 16 = .ok (.iconst 0, 1) := by decide +kernel
theorem dX11_works_17 : decode cX11_works 17 = .ok (.putfield 281, 3) := by decide +kernel
theorem dX11_works_20 : decode cX11_works 20 = .ok (.aload_n 0, 1) := by decide +kernel
theorem dX11_works_21 : decode cX11_works 21 = .ok (.iconst 0, 1) := by decide +kernel
theorem dX11_works_22 : decode cX11_works 22 = .ok (.putfield 284, 3) := by decide +kernel
theorem dX11_works_25 : decode cX11_works 25 = .ok (.iconst 0, 1) := by decide +kernel
theorem dX11_works_26 : decode cX11_works 26 = .ok (.istore_n 2, 1) := by decide +kernel
theorem dX11_works_27 : decode cX11_works 27 = .ok (.iload_n 2, 1) := by decide +kernel
theorem dX11_works_28 : decode cX11_works 28 = .ok (.aload_n 0, 1) := by decide +kernel
theorem dX11_works_29 : decode cX11_works 29 = .ok (.getfield 22, 3) := by decide +kernel
theorem dX11_works_32 : decode cX11_works 32 = .ok (.if_icmp .ge 16, 3) := by decide +kernel
theorem dX11_works_35 : decode cX11_works 35 = .ok (.aload_n 0, 1) := by decide +kernel
theorem dX11_works_36 : decode cX11_works 36 = .ok (.getfield 287, 3) := by decide +kernel
theorem dX11_works_39 : decode cX11_works 39 = .ok (.iload_n 2, 1) := by decide +kernel
theorem dX11_works_40 : decode cX11_works 40 = .ok (.iconst 0, 1) := by decide +kernel
theorem dX11_works_41 : decode cX11_works 41 = .ok (.iastore, 1) := by decide +kernel
theorem dX11_works_42 : decode cX11_works 42 = .ok (.iinc 2 1, 3) := by decide +kernel
theorem dX11_works_45 : decode cX11_works 45 = .ok (.goto (-18), 3) := by decide +kernel
theorem dX11_works_48 : decode cX11_works 48 = .ok (.iconst 0, 1) := by decide +kernel
theorem dX11_works_49 : decode cX11_works 49 = .ok (.istore_n 2, 1) := by decide +kernel
theorem dX11_works_50 : decode cX11_works 50 = .ok (.iload_n 2, 1) := by decide +kernel
theorem dX11_works_51 : decode cX11_works 51 = .ok (.aload_n 0, 1) := by decide +kernel
theorem dX11_works_52 : decode cX11_works 52 = .ok (.getfield 151, 3) := by decide +kernel
theorem dX11_works_55 : decode cX11_works 55 = .ok (.if_icmp .ge 294, 3) := by decide +kernel
theorem dX11_works_58 : decode cX11_works 58 = .ok (.aload_n 0, 1) := by decide +kernel
theorem dX11_works_59 : decode cX11_works 59 = .ok (.getfield 278, 3) := by decide +kernel
theorem dX11_works_62 : decode cX11_works 62 = .ok (.iload_n 2, 1) := by decide +kernel
theorem dX11_works_63 : decode cX11_works 63 = .ok (.invokestatic 137, 3) := by decide +kernel
theorem dX11_works_66 : decode cX11_works 66 = .ok (.ifCond .ne 6, 3) := by decide +kernel
theorem dX11_works_69 : decode cX11_works 69 = .ok (.goto 274, 3) := by decide +kernel
theorem dX11_works_72 : decode cX11_works 72 = .ok (.aload_n 0, 1) := by decide +kernel
theorem dX11_works_73 : decode cX11_works 73 = .ok (.getfield 140, 3) := by decide +kernel
theorem dX11_works_76 : decode cX11_works 76 = .ok (.iconst 3, 1) := by decide +kernel
theorem dX11_works_77 : decode cX11_works 77 = .ok (.iload_n 2, 1) := by decide +kernel
theorem dX11_works_78 : decode cX11_works 78 = .ok (.iadd, 1) := by decide +kernel
theorem dX11_works_79 : decode cX11_works 79 = .ok (.iaload, 1) := by decide +kernel
theorem dX11_works_80 : decode cX11_works 80 = .ok (.istore_n 3, 1) := by decide +kernel
theorem dX11_works_81 : decode cX11_works 81 = .ok (.aload_n 0, 1) := by decide +kernel
theorem dX11_works_82 : decode cX11_works 82 = .ok (.getfield 140, 3) := by decide +kernel
theorem dX11_works_85 : decode cX11_works 85 = .ok (.bipush 27, 2) := by decide +kernel
theorem dX11_works_87 : decode cX11_works 87 = .ok (.iload_n 2, 1) := by decide +kernel
theorem dX11_works_88 : decode cX11_works 88 = .ok (.iadd, 1) := by decide +kernel
theorem dX11_works_89 : decode cX11_works 89 = .ok (.iaload, 1) := by decide +kernel
theorem dX11_works_90 : decode cX11_works 90 = .ok (.iconst 1, 1) := by decide +kernel
theorem dX11_works_91 : decode cX11_works 91 = .ok (.if_icmp .ne 58, 3) := by decide +kernel
theorem dX11_works_94 : decode cX11_works 94 = .ok (.aload_n 0, 1) := by decide +kernel
theorem dX11_works_95 : decode cX11_works 95 = .ok (.dup, 1) := by decide +kernel
theorem dX11_works_96 : decode cX11_works 96 = .ok (.getfield 281, 3) := by decide +kernel
theorem dX11_works_99 : decode cX11_works 99 = .ok (.iconst 1, 1) := by decide +kernel
theorem dX11_works_100 : decode cX11_works 100 = .ok (.iload_n 2, 1) := by decide +kernel
theorem dX11_works_101 : decode cX11_works 101 = .ok (.ishl, 1) := by decide +kernel
theorem dX11_works_102 : decode cX11_works 102 = .ok (.ior, 1) := by decide +kernel
theorem dX11_works_103 : decode cX11_works 103 = .ok (.putfield 281, 3) := by decide +kernel
theorem dX11_works_106 : decode cX11_works 106 = .ok (.aload_n 0, 1) := by decide +kernel
theorem dX11_works_107 : decode cX11_works 107 = .ok (.getfield 140, 3) := by decide +kernel
theorem dX11_works_110 : decode cX11_works 110 = .ok (.bipush 27, 2) := by decide +kernel
theorem dX11_works_112 : decode cX11_works 112 = .ok (.iload_n 2, 1) := by decide +kernel
theorem dX11_works_113 : decode cX11_works 113 = .ok (.iadd, 1) := by decide +kernel
theorem dX11_works_114 : decode cX11_works 114 = .ok (.aload_n 0, 1) := by decide +kernel
theorem dX11_works_115 : decode cX11_works 115 = .ok (.iload_n 3, 1) := by decide +kernel
theorem dX11_works_116 : decode cX11_works 116 = .ok (.iload_n 1, 1) := by decide +kernel
theorem dX11_works_117 : decode cX11_works 117 = .ok (.invokevirtual 120, 3) := by decide +kernel
theorem dX11_works_120 : decode cX11_works 120 = .ok (.ifCond .eq 17, 3) := by decide +kernel
theorem dX11_works_123 : decode cX11_works 123 = .ok (.aload_n 0, 1) := by decide +kernel
theorem dX11_works_124 : decode cX11_works 124 = .ok (.aload_n 0, 1) := by decide +kernel
theorem dX11_works_125 : decode cX11_works 125 = .ok (.getfield 163, 3) := by decide +kernel
theorem dX11_works_128 : decode cX11_works 128 = .ok (.iload_n 2, 1) := by decide +kernel
theorem dX11_works_129 : decode cX11_works 129 = .ok (.iaload, 1) := by decide +kernel
theorem dX11_works_130 : decode cX11_works 130 = .ok (.iload_n 1, 1) := by decide +kernel
theorem dX11_works_131 : decode cX11_works 131 = .ok (.invokevirtual 120, 3) := by decide +kernel
theorem dX11_works_134 : decode cX11_works 134 = .ok (.ifCond .ne 7, 3) := by decide +kernel
theorem dX11_works_137 : decode cX11_works 137 = .ok (.iconst 1, 1) := by decide +kernel
theorem dX11_works_138 : decode cX11_works 138 = .ok (.goto 4, 3) := by decide +kernel
theorem dX11_works_141 : decode cX11_works 141 = .ok (.iconst 0, 1) := by decide +kernel
theorem dX11_works_142 : decode cX11_works 142 = .ok (.invokestatic 124, 3) := by decide +kernel
theorem dX11_works_145 : decode cX11_works 145 = .ok (.iastore, 1) := by decide +kernel
theorem dX11_works_146 : decode cX11_works 146 = .ok (.goto 197, 3) := by decide +kernel
theorem dX11_works_149 : decode cX11_works 149 = .ok (.aload_n 0, 1) := by decide +kernel
theorem dX11_works_150 : decode cX11_works 150 = .ok (.iload_n 3, 1) := by decide +kernel
theorem dX11_works_151 : decode cX11_works 151 = .ok (.iload_n 1, 1) := by decide +kernel
theorem dX11_works_152 : decode cX11_works 152 = .ok (.invokevirtual 120, 3) := by decide +kernel
theorem dX11_works_155 : decode cX11_works 155 = .ok (.ifCond .eq 188, 3) := by decide +kernel
theorem dX11_works_158 : decode cX11_works 158 = .ok (.aload_n 0, 1) := by decide +kernel
theorem dX11_works_159 : decode cX11_works 159 = .ok (.getfield 47, 3) := by decide +kernel
theorem dX11_works_162 : decode cX11_works 162 = .ok (.iload_n 3, 1) := by decide +kernel
theorem dX11_works_163 : decode cX11_works 163 = .ok (.iaload, 1) := by decide +kernel
theorem dX11_works_164 : decode cX11_works 164 = .ok (.aload_n 0, 1) := by decide +kernel
theorem dX11_works_165 : decode cX11_works 165 = .ok (.getfield 154, 3) := by decide +kernel
theorem dX11_works_168 : decode cX11_works 168 = .ok (.iload_n 2, 1) := by decide +kernel
theorem dX11_works_169 : decode cX11_works 169 = .ok (.iaload, 1) := by decide +kernel
theorem dX11_works_170 : decode cX11_works 170 = .ok (.invokestatic 137, 3) := by decide +kernel
theorem dX11_works_173 : decode cX11_works 173 = .ok (.ifCond .eq 170, 3) := by decide +kernel
theorem dX11_works_176 : decode cX11_works 176 = .ok (.aload_n 0, 1) := by decide +kernel
theorem dX11_works_177 : decode cX11_works 177 = .ok (.getfield 287, 3) := by decide +kernel
theorem dX11_works_180 : decode cX11_works 180 = .ok (.iload_n 3, 1) := by decide +kernel
theorem dX11_works_181 : decode cX11_works 181 = .ok (.iaload, 1) := by decide +kernel
theorem dX11_works_182 : decode cX11_works 182 = .ok (.aload_n 0, 1) := by decide +kernel
theorem dX11_works_183 : decode cX11_works 183 = .ok (.getfield 44, 3) := by decide +kernel
theorem dX11_works_186 : decode cX11_works 186 = .ok (.iload_n 3, 1) := by decide +kernel
theorem dX11_works_187 : decode cX11_works 187 = .ok (.iaload, 1) := by decide +kernel
theorem dX11_works_188 : decode cX11_works 188 = .ok (.if_icmp .lt 6, 3) := by decide +kernel
theorem dX11_works_191 : decode cX11_works 191 = .ok (.goto 152, 3) := by decide +kernel
theorem dX11_works_194 : decode cX11_works 194 = .ok (.aload_n 0, 1) := by decide +kernel
theorem dX11_works_195 : decode cX11_works 195 = .ok (.getfield 287, 3) := by decide +kernel
theorem dX11_works_198 : decode cX11_works 198 = .ok (.iload_n 3, 1) := by decide +kernel
theorem dX11_works_199 : decode cX11_works 199 = .ok (.dup2, 1) := by decide +kernel
theorem dX11_works_200 : decode cX11_works 200 = .ok (.iaload, 1) := by decide +kernel
theorem dX11_works_201 : decode cX11_works 201 = .ok (.iconst 1, 1) := by decide +kernel
theorem dX11_works_202 : decode cX11_works 202 = .ok (.iadd, 1) := by decide +kernel
theorem dX11_works_203 : decode cX11_works 203 = .ok (.iastore, 1) := by decide +kernel
theorem dX11_works_204 : decode cX11_works 204 = .ok (.aload_n 0, 1) := by decide +kernel
theorem dX11_works_205 : decode cX11_works 205 = .ok (.dup, 1) := by decide +kernel
theorem dX11_works_206 : decode cX11_works 206 = .ok (.getfield 284, 3) := by decide +kernel
theorem dX11_works_209 : decode cX11_works 209 = .ok (.iconst 1, 1) := by decide +kernel
theorem dX11_works_210 : decode cX11_works 210 = .ok (.iload_n 2, 1) := by decide +kernel
theorem dX11_works_211 : decode cX11_works 211 = .ok (.ishl, 1) := by decide +kernel
theorem dX11_works_212 : decode cX11_works 212 = .ok (.ior, 1) := by decide +kernel
theorem dX11_works_213 : decode cX11_works 213 = .ok (.putfield 284, 3) := by decide +kernel
theorem dX11_works_216 : decode cX11_works 216 = .ok (.aload_n 0, 1) := by decide +kernel
theorem dX11_works_217 : decode cX11_works 217 = .ok (.getfield 140, 3) := by decide +kernel
theorem dX11_works_220 : decode cX11_works 220 = .ok (.bipush 11, 2) := by decide +kernel
theorem dX11_works_222 : decode cX11_works 222 = .ok (.iload_n 2, 1) := by decide +kernel
theorem dX11_works_223 : decode cX11_works 223 = .ok (.iadd, 1) := by decide +kernel
theorem dX11_works_224 : decode cX11_works 224 = .ok (.dup2, 1) := by decide +kernel
theorem dX11_works_225 : decode cX11_works 225 = .ok (.iaload, 1) := by decide +kernel
theorem dX11_works_226 : decode cX11_works 226 = .ok (.iconst 1, 1) := by decide +kernel
theorem dX11_works_227 : decode cX11_works 227 = .ok (.isub, 1) := by decide +kernel
theorem dX11_works_228 : decode cX11_works 228 = .ok (.iastore, 1) := by decide +kernel
theorem dX11_works_229 : decode cX11_works 229 = .ok (.aload_n 0, 1) := by decide +kernel
theorem dX11_works_230 : decode cX11_works 230 = .ok (.getfield 140, 3) := by decide +kernel
theorem dX11_works_233 : decode cX11_works 233 = .ok (.bipush 19, 2) := by decide +kernel
theorem dX11_works_235 : decode cX11_works 235 = .ok (.iload_n 2, 1) := by decide +kernel
theorem dX11_works_236 : decode cX11_works 236 = .ok (.iadd, 1) := by decide +kernel
theorem dX11_works_237 : decode cX11_works 237 = .ok (.dup2, 1) := by decide +kernel
theorem dX11_works_238 : decode cX11_works 238 = .ok (.iaload, 1) := by decide +kernel
theorem dX11_works_239 : decode cX11_works 239 = .ok (.iconst 1, 1) := by decide +kernel
theorem dX11_works_240 : decode cX11_works 240 = .ok (.iadd, 1) := by decide +kernel
theorem dX11_works_241 : decode cX11_works 241 = .ok (.iastore, 1) := by decide +kernel
theorem dX11_works_242 : decode cX11_works 242 = .ok (.aload_n 0, 1) := by decide +kernel
theorem dX11_works_243 : decode cX11_works 243 = .ok (.getfield 140, 3) := by decide +kernel
theorem dX11_works_246 : decode cX11_works 246 = .ok (.bipush 43, 2) := by decide +kernel
theorem dX11_works_248 : decode cX11_works 248 = .ok (.iload_n 2, 1) := by decide +kernel
theorem dX11_works_249 : decode cX11_works 249 = .ok (.iadd, 1) := by decide +kernel
theorem dX11_works_250 : decode cX11_works 250 = .ok (.dup2, 1) := by decide +kernel
theorem dX11_works_251 : decode cX11_works 251 = .ok (.iaload, 1) := by decide +kernel
theorem dX11_works_252 : decode cX11_works 252 = .ok (.iconst 1, 1) := by decide +kernel
theorem dX11_works_253 : decode cX11_works 253 = .ok (.iadd, 1) := by decide +kernel
theorem dX11_works_254 : decode cX11_works 254 = .ok (.iastore, 1) := by decide +kernel
theorem dX11_works_255 : decode cX11_works 255 = .ok (.aload_n 0, 1) := by decide +kernel
theorem dX11_works_256 : decode cX11_works 256 = .ok (.getfield 140, 3) := by decide +kernel
theorem dX11_works_259 : decode cX11_works 259 = .ok (.iconst 1, 1) := by decide +kernel
theorem dX11_works_260 : decode cX11_works 260 = .ok (.dup2, 1) := by decide +kernel
theorem dX11_works_261 : decode cX11_works 261 = .ok (.iaload, 1) := by decide +kernel
theorem dX11_works_262 : decode cX11_works 262 = .ok (.aload_n 0, 1) := by decide +kernel
theorem dX11_works_263 : decode cX11_works 263 = .ok (.getfield 41, 3) := by decide +kernel
theorem dX11_works_266 : decode cX11_works 266 = .ok (.iload_n 3, 1) := by decide +kernel
theorem dX11_works_267 : decode cX11_works 267 = .ok (.iaload, 1) := by decide +kernel
theorem dX11_works_268 : decode cX11_works 268 = .ok (.iadd, 1) := by decide +kernel
theorem dX11_works_269 : decode cX11_works 269 = .ok (.iastore, 1) := by decide +kernel
theorem dX11_works_270 : decode cX11_works 270 = .ok (.aload_n 0, 1) := by decide +kernel
theorem dX11_works_271 : decode cX11_works 271 = .ok (.getfield 140, 3) := by decide +kernel
theorem dX11_works_274 : decode cX11_works 274 = .ok (.bipush 11, 2) := by decide +kernel
theorem dX11_works_276 : decode cX11_works 276 = .ok (.iload_n 2, 1) := by decide +kernel
theorem dX11_works_277 : decode cX11_works 277 = .ok (.iadd, 1) := by decide +kernel
theorem dX11_works_278 : decode cX11_works 278 = .ok (.iaload, 1) := by decide +kernel
theorem dX11_works_279 : decode cX11_works 279 = .ok (.ifCond .ne 18, 3) := by decide +kernel
theorem dX11_works_282 : decode cX11_works 282 = .ok (.aload_n 0, 1) := by decide +kernel
theorem dX11_works_283 : decode cX11_works 283 = .ok (.getfield 140, 3) := by decide +kernel
theorem dX11_works_286 : decode cX11_works 286 = .ok (.bipush 35, 2) := by decide +kernel
theorem dX11_works_288 : decode cX11_works 288 = .ok (.iload_n 2, 1) := by decide +kernel
theorem dX11_works_289 : decode cX11_works 289 = .ok (.iadd, 1) := by decide +kernel
theorem dX11_works_290 : decode cX11_works 290 = .ok (.iload_n 1, 1) := by decide +kernel
theorem dX11_works_291 : decode cX11_works 291 = .ok (.iconst 1, 1) := by decide +kernel
theorem dX11_works_292 : decode cX11_works 292 = .ok (.iadd, 1) := by decide +kernel
theorem dX11_works_293 : decode cX11_works 293 = .ok (.iastore, 1) := by decide +kernel
theorem dX11_works_294 : decode cX11_works 294 = .ok (.goto 49, 3) := by decide +kernel
theorem dX11_works_297 : decode cX11_works 297 = .ok (.aload_n 0, 1) := by decide +kernel
theorem dX11_works_298 : decode cX11_works 298 = .ok (.iload_n 2, 1) := by decide +kernel
theorem dX11_works_299 : decode cX11_works 299 = .ok (.invokevirtual 290, 3) := by decide +kernel
theorem dX11_works_302 : decode cX11_works 302 = .ok (.ifCond .lt 41, 3) := by decide +kernel
theorem dX11_works_305 : decode cX11_works 305 = .ok (.aload_n 0, 1) := by decide +kernel
theorem dX11_works_306 : decode cX11_works 306 = .ok (.getfield 140, 3) := by decide +kernel
theorem dX11_works_309 : decode cX11_works 309 = .ok (.bipush 19, 2) := by decide +kernel
theorem dX11_works_311 : decode cX11_works 311 = .ok (.iload_n 2, 1) := by decide +kernel
theorem dX11_works_312 : decode cX11_works 312 = .ok (.iadd, 1) := by decide +kernel
theorem dX11_works_313 : decode cX11_works 313 = .ok (.iaload, 1) := by decide +kernel
theorem dX11_works_314 : decode cX11_works 314 = .ok (.aload_n 0, 1) := by decide +kernel
theorem dX11_works_315 : decode cX11_works 315 = .ok (.getfield 157, 3) := by decide +kernel
theorem dX11_works_318 : decode cX11_works 318 = .ok (.iload_n 2, 1) := by decide +kernel
theorem dX11_works_319 : decode cX11_works 319 = .ok (.iaload, 1) := by decide +kernel
theorem dX11_works_320 : decode cX11_works 320 = .ok (.if_icmp .ne 23, 3) := by decide +kernel
theorem dX11_works_323 : decode cX11_works 323 = .ok (.aload_n 0, 1) := by decide +kernel
theorem dX11_works_324 : decode cX11_works 324 = .ok (.getfield 140, 3) := by decide +kernel
theorem dX11_works_327 : decode cX11_works 327 = .ok (.bipush 27, 2) := by decide +kernel
theorem dX11_works_329 : decode cX11_works 329 = .ok (.iload_n 2, 1) := by decide +kernel
theorem dX11_works_330 : decode cX11_works 330 = .ok (.iadd, 1) := by decide +kernel
theorem dX11_works_331 : decode cX11_works 331 = .ok (.iconst 1, 1) := by decide +kernel
theorem dX11_works_332 : decode cX11_works 332 = .ok (.iastore, 1) := by decide +kernel
theorem dX11_works_333 : decode cX11_works 333 = .ok (.aload_n 0, 1) := by decide +kernel
theorem dX11_works_334 : decode cX11_works 334 = .ok (.getfield 140, 3) := by decide +kernel
theorem dX11_works_337 : decode cX11_works 337 = .ok (.bipush 19, 2) := by decide +kernel
theorem dX11_works_339 : decode cX11_works 339 = .ok (.iload_n 2, 1) := by decide +kernel
theorem dX11_works_340 : decode cX11_works 340 = .ok (.iadd, 1) := by decide +kernel
theorem dX11_works_341 : decode cX11_works 341 = .ok (.iconst 0, 1) := by decide +kernel
theorem dX11_works_342 : decode cX11_works 342 = .ok (.iastore, 1) := by decide +kernel
theorem dX11_works_343 : decode cX11_works 343 = .ok (.iinc 2 1, 3) := by decide +kernel
theorem dX11_works_346 : decode cX11_works 346 = .ok (.goto (-296), 3) := by decide +kernel
theorem dX11_works_349 : decode cX11_works 349 = .ok (.return_, 1) := by decide +kernel
noncomputable def f_X11_piece_90 (fu : Nat) (x1 : Int32) (x2 : Int32) (x3 : Int32) (x4 : Int32) (x5 : Int32) (m : hM) : Option (Int32 × hM) :=
  if ¬ (gI m 96 16) = 8 then (
if hIn (gI m 96 16) 8 then (
hLet (sI m 108 (Int32.toNatClampNeg (gI m 96 16)) (x1 - x1 / 6 * 6)) fun m7 =>
if hIn (gI m7 96 16) 8 then (
hLet (sI m7 113 (Int32.toNatClampNeg (gI m7 96 16)) (x1 / 6)) fun m9 =>
if hIn (gI m9 96 16) 8 then (
hLet (sI m9 109 (Int32.toNatClampNeg (gI m9 96 16)) x2) fun m11 =>
if hIn (gI m11 96 16) 8 then (
hLet (sI m11 110 (Int32.toNatClampNeg (gI m11 96 16)) x3) fun m13 =>
if hIn (gI m13 96 16) 8 then (
hLet (sI m13 111 (Int32.toNatClampNeg (gI m13 96 16)) x4) fun m15 =>
if hIn (gI m15 96 16) 8 then (
hLet (sI m15 112 (Int32.toNatClampNeg (gI m15 96 16)) x5) fun m17 =>
hBd (f_X11_lays fu (gI m17 96 16) m17) fun _ m18 =>
hLet (sI m18 96 16 ((gI m18 96 16) + 1)) fun m19 =>
some ((gI m19 96 16) - 1, m19)) else none) else none) else none) else none) else none) else none) else (
some ((-1), m))
set_option maxRecDepth 100000 in
set_option maxHeartbeats 4000000 in
theorem r_X11_piece_90 {G : hG} {X : hX} (C : Cx G X 3 cX11_piece 7 RX11 (some .int)) (K : Cr G X) (fu : Nat) (x1 : Int32) (x2 : Int32) (x3 : Int32) (x4 : Int32) (x5 : Int32) (m : hM) : Rf vI G X 90 [(0, hA G 96), (1, .int x1), (2, .int x2), (3, .int x3), (4, .int x4), (5, .int x5)] [] m (f_X11_piece_90 fu x1 x2 x3 x4 x5 m) := by
  unfold f_X11_piece_90
  refine rf_aload_n C (n := 91) (q := 0) dX11_piece_90 rfl rfl rfl ?_
  refine rf_getI C (n := 94) fl_RX11_151 ly_96 rfl dX11_piece_91 rfl ?_
  refine rf_bipush C (n := 96) (v := 8) dX11_piece_94 rfl (by decide) ?_
  refine rf_icmp_ne C (tgt := 101) (n := 99) dX11_piece_96 (by decide) rfl (fun h5 => ?_) (fun h5 => ?_)
  · refine rf_aload_n C (n := 102) (q := 0) dX11_piece_101 rfl rfl rfl ?_
    refine rf_getS C (n := 105) fl_RX11_154 ly_96 rfl dX11_piece_102 rfl ?_
    refine rf_aload_n C (n := 106) (q := 0) dX11_piece_105 rfl rfl rfl ?_
    refine rf_getI C (n := 109) fl_RX11_151 ly_96 rfl dX11_piece_106 rfl ?_
    refine rf_iload_n C (n := 110) (q := 1) dX11_piece_109 rfl rfl rfl ?_
    refine rf_bipush C (n := 112) (v := 6) dX11_piece_110 rfl (by decide) ?_
    refine rf_irem C (n := 113) dX11_piece_112 rfl (by decide) ?_
    refine rf_guard (fun h6 => ?_)
    refine rf_iast C (n := 114) ly_108 h6 rfl dX11_piece_113 rfl ?_
    refine rf_letM (fun m7 => ?_)
    refine rf_aload_n C (n := 115) (q := 0) dX11_piece_114 rfl rfl rfl ?_
    refine rf_getS C (n := 118) fl_RX11_157 ly_96 rfl dX11_piece_115 rfl ?_
    refine rf_aload_n C (n := 119) (q := 0) dX11_piece_118 rfl rfl rfl ?_
    refine rf_getI C (n := 122) fl_RX11_151 ly_96 rfl dX11_piece_119 rfl ?_
    refine rf_iload_n C (n := 123) (q := 1) dX11_piece_122 rfl rfl rfl ?_
    refine rf_bipush C (n := 125) (v := 6) dX11_piece_123 rfl (by decide) ?_
    refine rf_idiv C (n := 126) dX11_piece_125 rfl (by decide) ?_
    refine rf_guard (fun h8 => ?_)
    refine rf_iast C (n := 127) ly_113 h8 rfl dX11_piece_126 rfl ?_
    refine rf_letM (fun m9 => ?_)
    refine rf_aload_n C (n := 128) (q := 0) dX11_piece_127 rfl rfl rfl ?_
    refine rf_getS C (n := 131) fl_RX11_146 ly_96 rfl dX11_piece_128 rfl ?_
    refine rf_aload_n C (n := 132) (q := 0) dX11_piece_131 rfl rfl rfl ?_
    refine rf_getI C (n := 135) fl_RX11_151 ly_96 rfl dX11_piece_132 rfl ?_
    refine rf_iload_n C (n := 136) (q := 2) dX11_piece_135 rfl rfl rfl ?_
    refine rf_guard (fun h10 => ?_)
    refine rf_iast C (n := 137) ly_109 h10 rfl dX11_piece_136 rfl ?_
    refine rf_letM (fun m11 => ?_)
    refine rf_aload_n C (n := 138) (q := 0) dX11_piece_137 rfl rfl rfl ?_
    refine rf_getS C (n := 141) fl_RX11_160 ly_96 rfl dX11_piece_138 rfl ?_
    refine rf_aload_n C (n := 142) (q := 0) dX11_piece_141 rfl rfl rfl ?_
    refine rf_getI C (n := 145) fl_RX11_151 ly_96 rfl dX11_piece_142 rfl ?_
    refine rf_iload_n C (n := 146) (q := 3) dX11_piece_145 rfl rfl rfl ?_
    refine rf_guard (fun h12 => ?_)
    refine rf_iast C (n := 147) ly_110 h12 rfl dX11_piece_146 rfl ?_
    refine rf_letM (fun m13 => ?_)
    refine rf_aload_n C (n := 148) (q := 0) dX11_piece_147 rfl rfl rfl ?_
    refine rf_getS C (n := 151) fl_RX11_143 ly_96 rfl dX11_piece_148 rfl ?_
    refine rf_aload_n C (n := 152) (q := 0) dX11_piece_151 rfl rfl rfl ?_
    refine rf_getI C (n := 155) fl_RX11_151 ly_96 rfl dX11_piece_152 rfl ?_
    refine rf_iload C (n := 157) (q := 4) dX11_piece_155 rfl rfl ?_
    refine rf_guard (fun h14 => ?_)
    refine rf_iast C (n := 158) ly_111 h14 rfl dX11_piece_157 rfl ?_
    refine rf_letM (fun m15 => ?_)
    refine rf_aload_n C (n := 159) (q := 0) dX11_piece_158 rfl rfl rfl ?_
    refine rf_getS C (n := 162) fl_RX11_163 ly_96 rfl dX11_piece_159 rfl ?_
    refine rf_aload_n C (n := 163) (q := 0) dX11_piece_162 rfl rfl rfl ?_
    refine rf_getI C (n := 166) fl_RX11_151 ly_96 rfl dX11_piece_163 rfl ?_
    refine rf_iload C (n := 168) (q := 5) dX11_piece_166 rfl rfl ?_
    refine rf_guard (fun h16 => ?_)
    refine rf_iast C (n := 169) ly_112 h16 rfl dX11_piece_168 rfl ?_
    refine rf_letM (fun m17 => ?_)
    refine rf_aload_n C (n := 170) (q := 0) dX11_piece_169 rfl rfl rfl ?_
    refine rf_aload_n C (n := 171) (q := 0) dX11_piece_170 rfl rfl rfl ?_
    refine rf_getI C (n := 174) fl_RX11_151 ly_96 rfl dX11_piece_171 rfl ?_
    refine rf_callVv C (n := 177) (c_X11_lays G fu _ _) mw_RX11_166 ly_96 rfl ⟨by decide, by decide⟩ rfl (Nat.le_of_ble_eq_true rfl) rfl dX11_piece_174 rfl (fun _ m18 => ?_)
    refine rf_aload_n C (n := 178) (q := 0) dX11_piece_177 rfl rfl rfl ?_
    refine rf_dup C (n := 179) dX11_piece_178 rfl rfl ?_
    refine rf_getI C (n := 182) fl_RX11_151 ly_96 rfl dX11_piece_179 rfl ?_
    refine rf_iconst C (n := 183) (v := 1) dX11_piece_182 rfl (by decide) ?_
    refine rf_iadd C (n := 184) dX11_piece_183 rfl ?_
    refine rf_putI C (n := 187) pl_RX11_151 ly_96 rfl ⟨rfl, rfl⟩ dX11_piece_184 rfl ?_
    refine rf_letM (fun m19 => ?_)
    refine rf_aload_n C (n := 188) (q := 0) dX11_piece_187 rfl rfl rfl ?_
    refine rf_getI C (n := 191) fl_RX11_151 ly_96 rfl dX11_piece_188 rfl ?_
    refine rf_iconst C (n := 192) (v := 1) dX11_piece_191 rfl (by decide) ?_
    refine rf_isub C (n := 193) dX11_piece_192 rfl ?_
    exact rf_iret C K dX11_piece_193
  · refine rf_iconst C (n := 100) (v := (-1)) dX11_piece_99 rfl (by decide) ?_
    exact rf_iret C K dX11_piece_100
noncomputable def f_X11_piece_68 (fu : Nat) (x1 : Int32) (x2 : Int32) (x3 : Int32) (x4 : Int32) (x5 : Int32) (s0 : Int32) (m : hM) : Option (Int32 × hM) :=
  if s0 = 0 then (
some ((-1), m)) else (
if x5 = (-1) then (
f_X11_piece_90 fu x1 x2 x3 x4 x5 m) else (
hBd (f_X11_isOffice fu x5 m) fun y20 m21 =>
if y20 = 0 then (
some ((-1), m21)) else (
f_X11_piece_90 fu x1 x2 x3 x4 x5 m21)))
set_option maxRecDepth 100000 in
set_option maxHeartbeats 4000000 in
theorem r_X11_piece_68 {G : hG} {X : hX} (C : Cx G X 3 cX11_piece 7 RX11 (some .int)) (K : Cr G X) (fu : Nat) (x1 : Int32) (x2 : Int32) (x3 : Int32) (x4 : Int32) (x5 : Int32) (s0 : Int32) (m : hM) : Rf vI G X 68 [(0, hA G 96), (1, .int x1), (2, .int x2), (3, .int x3), (4, .int x4), (5, .int x5)] [.int s0] m (f_X11_piece_68 fu x1 x2 x3 x4 x5 s0 m) := by
  unfold f_X11_piece_68
  refine rf_istore C (n := 70) [(6, .int s0), (0, hA G 96), (1, .int x1), (2, .int x2), (3, .int x3), (4, .int x4), (5, .int x5)] dX11_piece_68 rfl (by decide) rfl ?_
  refine rf_iload C (n := 72) (q := 0) dX11_piece_70 rfl rfl ?_
  refine rf_if_eq C (tgt := 99) (n := 75) dX11_piece_72 (by decide) rfl (fun h3 => ?_) (fun h3 => ?_)
  · refine rf_iconst C (n := 100) (v := (-1)) dX11_piece_99 rfl (by decide) ?_
    exact rf_iret C K dX11_piece_100
  · refine rf_iload C (n := 77) (q := 6) dX11_piece_75 rfl rfl ?_
    refine rf_iconst C (n := 78) (v := (-1)) dX11_piece_77 rfl (by decide) ?_
    refine rf_icmp_eq C (tgt := 90) (n := 81) dX11_piece_78 (by decide) rfl (fun h4 => ?_) (fun h4 => ?_)
    · exact rf_lv _ [1, 2, 3, 4, 5, 6] rfl (r_X11_piece_90 C K fu _ _ _ _ _ _)
    · refine rf_aload_n C (n := 82) (q := 1) dX11_piece_81 rfl rfl rfl ?_
      refine rf_iload C (n := 84) (q := 6) dX11_piece_82 rfl rfl ?_
      refine rf_callVi C (n := 87) (c_X11_isOffice G fu _ _) mw_RX11_77 ly_96 rfl ⟨by decide, by decide⟩ rfl (Nat.le_of_ble_eq_true rfl) rfl dX11_piece_84 rfl (fun y20 m21 => ?_)
      refine rf_if_eq C (tgt := 99) (n := 90) dX11_piece_87 (by decide) rfl (fun h22 => ?_) (fun h22 => ?_)
      · refine rf_iconst C (n := 100) (v := (-1)) dX11_piece_99 rfl (by decide) ?_
        exact rf_iret C K dX11_piece_100
      · exact rf_lv _ [1, 2, 3, 4, 5, 6] rfl (r_X11_piece_90 C K fu _ _ _ _ _ _)
noncomputable def f_X11_piece_67 (fu : Nat) (x1 : Int32) (x2 : Int32) (x3 : Int32) (x4 : Int32) (x5 : Int32) (m : hM) : Option (Int32 × hM) :=
  f_X11_piece_68 fu x1 x2 x3 x4 x5 0 m
set_option maxRecDepth 100000 in
set_option maxHeartbeats 4000000 in
theorem r_X11_piece_67 {G : hG} {X : hX} (C : Cx G X 3 cX11_piece 7 RX11 (some .int)) (K : Cr G X) (fu : Nat) (x1 : Int32) (x2 : Int32) (x3 : Int32) (x4 : Int32) (x5 : Int32) (m : hM) : Rf vI G X 67 [(0, hA G 96), (1, .int x1), (2, .int x2), (3, .int x3), (4, .int x4), (5, .int x5)] [] m (f_X11_piece_67 fu x1 x2 x3 x4 x5 m) := by
  unfold f_X11_piece_67
  refine rf_iconst C (n := 68) (v := 0) dX11_piece_67 rfl (by decide) ?_
  exact rf_lv _ [0, 1, 2, 3, 4, 5] rfl (r_X11_piece_68 C K fu _ _ _ _ _ _ _)
noncomputable def f_X11_piece (fu : Nat) (x1 : Int32) (x2 : Int32) (x3 : Int32) (x4 : Int32) (x5 : Int32) (m : hM) : Option (Int32 × hM) :=
  hLet (sI m 96 0 0) fun m1 =>
if x1 < 0 then (
f_X11_piece_67 fu x1 x2 x3 x4 x5 m1) else (
hBd (f_X11_in fu (Int32.toInt64 (x1 / 6)) 1 60 m1) fun y23 m24 =>
if y23 = 0 then (
f_X11_piece_67 fu x1 x2 x3 x4 x5 m24) else (
hBd (f_X11_in fu (Int32.toInt64 x2) 1 60 m24) fun y26 m27 =>
if y26 = 0 then (
f_X11_piece_67 fu x1 x2 x3 x4 x5 m27) else (
hBd (f_X11_in fu (Int32.toInt64 x3) 0 (Int32.toInt64 ((1 <<< ((gI m27 96 16) &&& 31)) - 1)) m27) fun y29 m30 =>
if y29 = 0 then (
f_X11_piece_67 fu x1 x2 x3 x4 x5 m30) else (
hBd (f_X11_isOffice fu x4 m30) fun y32 m33 =>
if y32 = 0 then (
f_X11_piece_67 fu x1 x2 x3 x4 x5 m33) else (
f_X11_piece_68 fu x1 x2 x3 x4 x5 1 m33)))))
set_option maxRecDepth 100000 in
set_option maxHeartbeats 4000000 in
theorem c_X11_piece (G : hG) (fu : Nat) (x1 : Int32) (x2 : Int32) (x3 : Int32) (x4 : Int32) (x5 : Int32) (m : hM) : Mt vI G 3 yX11_piece cX11_piece 7 (some .int) [hA G 96, .int x1, .int x2, .int x3, .int x4, .int x5] m (f_X11_piece fu x1 x2 x3 x4 x5 m) := by
  refine mt_of (by decide +kernel) (Nat.le_of_ble_eq_true rfl) (fun X C K => ?_)
  have C : Cx G X 3 cX11_piece 7 RX11 (some .int) := C
  show Rf vI G X 0 [(0, hA G 96), (1, .int x1), (2, .int x2), (3, .int x3), (4, .int x4), (5, .int x5)] [] m _
  unfold f_X11_piece
  refine rf_aload_n C (n := 1) (q := 0) dX11_piece_0 rfl rfl rfl ?_
  refine rf_iconst C (n := 2) (v := 0) dX11_piece_1 rfl (by decide) ?_
  refine rf_putI C (n := 5) pl_RX11_3 ly_96 rfl ⟨rfl, rfl⟩ dX11_piece_2 rfl ?_
  refine rf_letM (fun m1 => ?_)
  refine rf_iload_n C (n := 6) (q := 1) dX11_piece_5 rfl rfl rfl ?_
  refine rf_if_lt C (tgt := 67) (n := 9) dX11_piece_6 (by decide) rfl (fun h2 => ?_) (fun h2 => ?_)
  · exact rf_lv _ [0, 1, 2, 3, 4, 5] rfl (r_X11_piece_67 C K fu _ _ _ _ _ _)
  · refine rf_iload_n C (n := 10) (q := 1) dX11_piece_9 rfl rfl rfl ?_
    refine rf_bipush C (n := 12) (v := 6) dX11_piece_10 rfl (by decide) ?_
    refine rf_idiv C (n := 13) dX11_piece_12 rfl (by decide) ?_
    refine rf_i2l C (n := 14) dX11_piece_13 rfl ?_
    refine rf_lconst C (n := 15) (v := 1) dX11_piece_14 rfl (by decide) ?_
    refine rf_ldc2 C (n := 18) dX11_piece_15 rfl kl_RX11_149 ?_
    refine rf_callSi C (n := 21) (c_X11_in G fu _ _ _ _) sw_RX11_25 ⟨by decide, by decide⟩ rfl (Nat.le_of_ble_eq_true rfl) rfl dX11_piece_18 rfl (fun y23 m24 => ?_)
    refine rf_if_eq C (tgt := 67) (n := 24) dX11_piece_21 (by decide) rfl (fun h25 => ?_) (fun h25 => ?_)
    · exact rf_lv _ [0, 1, 2, 3, 4, 5] rfl (r_X11_piece_67 C K fu _ _ _ _ _ _)
    · refine rf_iload_n C (n := 25) (q := 2) dX11_piece_24 rfl rfl rfl ?_
      refine rf_i2l C (n := 26) dX11_piece_25 rfl ?_
      refine rf_lconst C (n := 27) (v := 1) dX11_piece_26 rfl (by decide) ?_
      refine rf_ldc2 C (n := 30) dX11_piece_27 rfl kl_RX11_149 ?_
      refine rf_callSi C (n := 33) (c_X11_in G fu _ _ _ _) sw_RX11_25 ⟨by decide, by decide⟩ rfl (Nat.le_of_ble_eq_true rfl) rfl dX11_piece_30 rfl (fun y26 m27 => ?_)
      refine rf_if_eq C (tgt := 67) (n := 36) dX11_piece_33 (by decide) rfl (fun h28 => ?_) (fun h28 => ?_)
      · exact rf_lv _ [0, 1, 2, 3, 4, 5] rfl (r_X11_piece_67 C K fu _ _ _ _ _ _)
      · refine rf_iload_n C (n := 37) (q := 3) dX11_piece_36 rfl rfl rfl ?_
        refine rf_i2l C (n := 38) dX11_piece_37 rfl ?_
        refine rf_lconst C (n := 39) (v := 0) dX11_piece_38 rfl (by decide) ?_
        refine rf_iconst C (n := 40) (v := 1) dX11_piece_39 rfl (by decide) ?_
        refine rf_aload_n C (n := 41) (q := 0) dX11_piece_40 rfl rfl rfl ?_
        refine rf_getI C (n := 44) fl_RX11_151 ly_96 rfl dX11_piece_41 rfl ?_
        refine rf_ishl C (n := 45) dX11_piece_44 rfl ?_
        refine rf_iconst C (n := 46) (v := 1) dX11_piece_45 rfl (by decide) ?_
        refine rf_isub C (n := 47) dX11_piece_46 rfl ?_
        refine rf_i2l C (n := 48) dX11_piece_47 rfl ?_
        refine rf_callSi C (n := 51) (c_X11_in G fu _ _ _ _) sw_RX11_25 ⟨by decide, by decide⟩ rfl (Nat.le_of_ble_eq_true rfl) rfl dX11_piece_48 rfl (fun y29 m30 => ?_)
        refine rf_if_eq C (tgt := 67) (n := 54) dX11_piece_51 (by decide) rfl (fun h31 => ?_) (fun h31 => ?_)
        · exact rf_lv _ [0, 1, 2, 3, 4, 5] rfl (r_X11_piece_67 C K fu _ _ _ _ _ _)
        · refine rf_aload_n C (n := 55) (q := 0) dX11_piece_54 rfl rfl rfl ?_
          refine rf_iload C (n := 57) (q := 4) dX11_piece_55 rfl rfl ?_
          refine rf_callVi C (n := 60) (c_X11_isOffice G fu _ _) mw_RX11_77 ly_96 rfl ⟨by decide, by decide⟩ rfl (Nat.le_of_ble_eq_true rfl) rfl dX11_piece_57 rfl (fun y32 m33 => ?_)
          refine rf_if_eq C (tgt := 67) (n := 63) dX11_piece_60 (by decide) rfl (fun h34 => ?_) (fun h34 => ?_)
          · exact rf_lv _ [0, 1, 2, 3, 4, 5] rfl (r_X11_piece_67 C K fu _ _ _ _ _ _)
          · refine rf_iconst C (n := 64) (v := 1) dX11_piece_63 rfl (by decide) ?_
            refine rf_goto C (n := 68) dX11_piece_64 (by decide) ?_
            exact rf_lv _ [0, 1, 2, 3, 4, 5] rfl (r_X11_piece_68 C K fu _ _ _ _ _ _ _)
noncomputable def f_X11_sign_53 (fu : Nat) (m : hM) : Option (Int32 × hM) :=
  hLet (sI m 96 29 ((gI m 96 29) + 4)) fun m4 =>
some (gI m4 96 29, m4)
set_option maxRecDepth 100000 in
set_option maxHeartbeats 4000000 in
theorem r_X11_sign_53 {G : hG} {X : hX} (C : Cx G X 1 cX11_sign 3 RX11 (some .int)) (K : Cr G X) (fu : Nat) (m : hM) : Rf vI G X 53 [(0, hA G 96)] [] m (f_X11_sign_53 fu m) := by
  unfold f_X11_sign_53
  refine rf_aload_n C (n := 54) (q := 0) dX11_sign_53 rfl rfl rfl ?_
  refine rf_dup C (n := 55) dX11_sign_54 rfl rfl ?_
  refine rf_getI C (n := 58) fl_RX11_170 ly_96 rfl dX11_sign_55 rfl ?_
  refine rf_iconst C (n := 59) (v := 4) dX11_sign_58 rfl (by decide) ?_
  refine rf_iadd C (n := 60) dX11_sign_59 rfl ?_
  refine rf_putI C (n := 63) pl_RX11_170 ly_96 rfl ⟨rfl, rfl⟩ dX11_sign_60 rfl ?_
  refine rf_letM (fun m4 => ?_)
  refine rf_aload_n C (n := 64) (q := 0) dX11_sign_63 rfl rfl rfl ?_
  refine rf_getI C (n := 67) fl_RX11_170 ly_96 rfl dX11_sign_64 rfl ?_
  exact rf_iret C K dX11_sign_67
noncomputable def s_X11_sign_18 (fu : Nat) (ih : Int32 → Int32 → hM → Option (Int32 × hM)) (x1 : Int32) (x2 : Int32) (m : hM) : Option (Int32 × hM) :=
  if 4 ≤ x2 then (
f_X11_sign_53 fu m) else (
if hIn ((gI m 96 29) + x2) 60 then (
hLet (sI m 119 (Int32.toNatClampNeg ((gI m 96 29) + x2)) ((x1 >>> ((24 - (8 * x2)) &&& 31)) &&& 255)) fun m6 =>
hLet (x2 + 1) fun y7 =>
ih x1 y7 m6) else none)
noncomputable def f_X11_sign_18 (fu : Nat) (n : Nat) : Int32 → Int32 → hM → Option (Int32 × hM) :=
  Nat.rec (motive := fun _ => Int32 → Int32 → hM → Option (Int32 × hM)) (fun _ _ _ => none) (fun _ ih => s_X11_sign_18 fu ih) n
theorem f_X11_sign_18_s (fu : Nat) (n : Nat) (x1 : Int32) (x2 : Int32) (m : hM) : f_X11_sign_18 fu (n + 1) x1 x2 m = s_X11_sign_18 fu (f_X11_sign_18 fu n) x1 x2 m := rfl
set_option maxRecDepth 100000 in
set_option maxHeartbeats 4000000 in
theorem r_X11_sign_18 {G : hG} {X : hX} (C : Cx G X 1 cX11_sign 3 RX11 (some .int)) (K : Cr G X) (fu : Nat) (n : Nat) : ∀ (x1 : Int32) (x2 : Int32) (m : hM), Rf vI G X 18 [(0, hA G 96), (1, .int x1), (2, .int x2)] [] m (f_X11_sign_18 fu n x1 x2 m) := by
  induction n with
  | zero => intros; exact rf_none
  | succ n ih =>
    intro x1 x2 m
    show Rf vI G X 18 [(0, hA G 96), (1, .int x1), (2, .int x2)] [] m (s_X11_sign_18 fu (f_X11_sign_18 fu n) x1 x2 m)
    unfold s_X11_sign_18
    refine rf_iload_n C (n := 19) (q := 2) dX11_sign_18 rfl rfl rfl ?_
    refine rf_iconst C (n := 20) (v := 4) dX11_sign_19 rfl (by decide) ?_
    refine rf_icmp_ge C (tgt := 53) (n := 23) dX11_sign_20 (by decide) rfl (fun h3 => ?_) (fun h3 => ?_)
    · exact rf_lv _ [0] rfl (r_X11_sign_53 C K fu _)
    · refine rf_aload_n C (n := 24) (q := 0) dX11_sign_23 rfl rfl rfl ?_
      refine rf_getS C (n := 27) fl_RX11_173 ly_96 rfl dX11_sign_24 rfl ?_
      refine rf_aload_n C (n := 28) (q := 0) dX11_sign_27 rfl rfl rfl ?_
      refine rf_getI C (n := 31) fl_RX11_170 ly_96 rfl dX11_sign_28 rfl ?_
      refine rf_iload_n C (n := 32) (q := 2) dX11_sign_31 rfl rfl rfl ?_
      refine rf_iadd C (n := 33) dX11_sign_32 rfl ?_
      refine rf_iload_n C (n := 34) (q := 1) dX11_sign_33 rfl rfl rfl ?_
      refine rf_bipush C (n := 36) (v := 24) dX11_sign_34 rfl (by decide) ?_
      refine rf_bipush C (n := 38) (v := 8) dX11_sign_36 rfl (by decide) ?_
      refine rf_iload_n C (n := 39) (q := 2) dX11_sign_38 rfl rfl rfl ?_
      refine rf_imul C (n := 40) dX11_sign_39 rfl ?_
      refine rf_isub C (n := 41) dX11_sign_40 rfl ?_
      refine rf_ishr C (n := 42) dX11_sign_41 rfl ?_
      refine rf_sipush C (n := 45) (v := 255) dX11_sign_42 rfl (by decide) ?_
      refine rf_iand C (n := 46) dX11_sign_45 rfl ?_
      refine rf_guard (fun h5 => ?_)
      refine rf_iast C (n := 47) ly_119 h5 rfl dX11_sign_46 rfl ?_
      refine rf_letM (fun m6 => ?_)
      refine rf_iinc2 C (n := 50) (q := 2) (fun y7 => [(2, .int y7), (0, hA G 96), (1, .int x1)]) dX11_sign_47 rfl rfl (by decide) (by decide) (fun _ => rfl) (fun y7 => ?_)
      refine rf_goto C (n := 18) dX11_sign_50 (by decide) ?_
      exact rf_lv _ [1, 2, 0] rfl (ih _ _ _)
noncomputable def f_X11_sign (fu : Nat) (x1 : Int32) (m : hM) : Option (Int32 × hM) :=
  hLet (sI m 96 0 0) fun m1 =>
if (gI m1 96 29) ≤ 56 then (
f_X11_sign_18 fu fu x1 0 m1) else (
some ((-1), m1))
set_option maxRecDepth 100000 in
set_option maxHeartbeats 4000000 in
theorem c_X11_sign (G : hG) (fu : Nat) (x1 : Int32) (m : hM) : Mt vI G 1 yX11_sign cX11_sign 3 (some .int) [hA G 96, .int x1] m (f_X11_sign fu x1 m) := by
  refine mt_of (by decide +kernel) (Nat.le_of_ble_eq_true rfl) (fun X C K => ?_)
  have C : Cx G X 1 cX11_sign 3 RX11 (some .int) := C
  show Rf vI G X 0 [(0, hA G 96), (1, .int x1)] [] m _
  unfold f_X11_sign
  refine rf_aload_n C (n := 1) (q := 0) dX11_sign_0 rfl rfl rfl ?_
  refine rf_iconst C (n := 2) (v := 0) dX11_sign_1 rfl (by decide) ?_
  refine rf_putI C (n := 5) pl_RX11_3 ly_96 rfl ⟨rfl, rfl⟩ dX11_sign_2 rfl ?_
  refine rf_letM (fun m1 => ?_)
  refine rf_aload_n C (n := 6) (q := 0) dX11_sign_5 rfl rfl rfl ?_
  refine rf_getI C (n := 9) fl_RX11_170 ly_96 rfl dX11_sign_6 rfl ?_
  refine rf_bipush C (n := 11) (v := 56) dX11_sign_9 rfl (by decide) ?_
  refine rf_icmp_le C (tgt := 16) (n := 14) dX11_sign_11 (by decide) rfl (fun h2 => ?_) (fun h2 => ?_)
  · refine rf_iconst C (n := 17) (v := 0) dX11_sign_16 rfl (by decide) ?_
    refine rf_istore_n C (n := 18) [(2, .int 0), (0, hA G 96), (1, .int x1)] dX11_sign_17 rfl rfl (by decide) rfl ?_
    exact rf_lv _ [1, 2, 0] rfl (r_X11_sign_18 C K fu fu _ _ _)
  · refine rf_iconst C (n := 15) (v := (-1)) dX11_sign_14 rfl (by decide) ?_
    exact rf_iret C K dX11_sign_15
noncomputable def f_X11_end (fu : Nat) (x1 : Int32) (m : hM) : Option (Int32 × hM) :=
  hLet (sI m 96 0 0) fun m1 =>
hBd (f_X11_in fu (Int32.toInt64 x1) 0 (Int32.toInt64 (gI m1 96 29)) m1) fun y2 m3 =>
if ¬ y2 = 0 then (
hLet (sI m3 96 29 x1) fun m5 =>
some (1, m5)) else (
some (0, m3))
set_option maxRecDepth 100000 in
set_option maxHeartbeats 4000000 in
theorem c_X11_end (G : hG) (fu : Nat) (x1 : Int32) (m : hM) : Mt vI G 2 yX11_end cX11_end 2 (some .boolean) [hA G 96, .int x1] m (f_X11_end fu x1 m) := by
  refine mt_of (by decide +kernel) (Nat.le_of_ble_eq_true rfl) (fun X C K => ?_)
  have C : Cx G X 2 cX11_end 2 RX11 (some .boolean) := C
  show Rf vI G X 0 [(0, hA G 96), (1, .int x1)] [] m _
  unfold f_X11_end
  refine rf_aload_n C (n := 1) (q := 0) dX11_end_0 rfl rfl rfl ?_
  refine rf_iconst C (n := 2) (v := 0) dX11_end_1 rfl (by decide) ?_
  refine rf_putI C (n := 5) pl_RX11_3 ly_96 rfl ⟨rfl, rfl⟩ dX11_end_2 rfl ?_
  refine rf_letM (fun m1 => ?_)
  refine rf_iload_n C (n := 6) (q := 1) dX11_end_5 rfl rfl rfl ?_
  refine rf_i2l C (n := 7) dX11_end_6 rfl ?_
  refine rf_lconst C (n := 8) (v := 0) dX11_end_7 rfl (by decide) ?_
  refine rf_aload_n C (n := 9) (q := 0) dX11_end_8 rfl rfl rfl ?_
  refine rf_getI C (n := 12) fl_RX11_170 ly_96 rfl dX11_end_9 rfl ?_
  refine rf_i2l C (n := 13) dX11_end_12 rfl ?_
  refine rf_callSi C (n := 16) (c_X11_in G fu _ _ _ _) sw_RX11_25 ⟨by decide, by decide⟩ rfl (Nat.le_of_ble_eq_true rfl) rfl dX11_end_13 rfl (fun y2 m3 => ?_)
  refine rf_if_ne C (tgt := 21) (n := 19) dX11_end_16 (by decide) rfl (fun h4 => ?_) (fun h4 => ?_)
  · refine rf_aload_n C (n := 22) (q := 0) dX11_end_21 rfl rfl rfl ?_
    refine rf_iload_n C (n := 23) (q := 1) dX11_end_22 rfl rfl rfl ?_
    refine rf_putI C (n := 26) pl_RX11_170 ly_96 rfl ⟨rfl, rfl⟩ dX11_end_23 rfl ?_
    refine rf_letM (fun m5 => ?_)
    refine rf_iconst C (n := 27) (v := 1) dX11_end_26 rfl (by decide) ?_
    exact rf_zret C K (by decide) dX11_end_27
  · refine rf_iconst C (n := 20) (v := 0) dX11_end_19 rfl (by decide) ?_
    exact rf_zret C K (by decide) dX11_end_20
noncomputable def f_X11_isDigit (fu : Nat) (m : hM) : Option (Int32 × hM) :=
  if (gI m 96 31) ≤ (gI m 96 30) then (
some (0, m)) else (
if hIn (gI m 96 30) 60 then (
hBd (f_X11_in fu (Int32.toInt64 (gI m 119 (Int32.toNatClampNeg (gI m 96 30)))) 48 57 m) fun y3 m4 =>
if y3 = 0 then (
some (0, m4)) else (
some (1, m4))) else none)
set_option maxRecDepth 100000 in
set_option maxHeartbeats 4000000 in
theorem c_X11_isDigit (G : hG) (fu : Nat) (m : hM) : Mt vI G 2 yX11_isDigit cX11_isDigit 1 (some .boolean) [hA G 96] m (f_X11_isDigit fu m) := by
  refine mt_of (by decide +kernel) (Nat.le_of_ble_eq_true rfl) (fun X C K => ?_)
  have C : Cx G X 2 cX11_isDigit 1 RX11 (some .boolean) := C
  show Rf vI G X 0 [(0, hA G 96)] [] m _
  unfold f_X11_isDigit
  refine rf_aload_n C (n := 1) (q := 0) dX11_isDigit_0 rfl rfl rfl ?_
  refine rf_getI C (n := 4) fl_RX11_176 ly_96 rfl dX11_isDigit_1 rfl ?_
  refine rf_aload_n C (n := 5) (q := 0) dX11_isDigit_4 rfl rfl rfl ?_
  refine rf_getI C (n := 8) fl_RX11_179 ly_96 rfl dX11_isDigit_5 rfl ?_
  refine rf_icmp_ge C (tgt := 37) (n := 11) dX11_isDigit_8 (by decide) rfl (fun h1 => ?_) (fun h1 => ?_)
  · refine rf_iconst C (n := 38) (v := 0) dX11_isDigit_37 rfl (by decide) ?_
    exact rf_zret C K (by decide) dX11_isDigit_38
  · refine rf_aload_n C (n := 12) (q := 0) dX11_isDigit_11 rfl rfl rfl ?_
    refine rf_getS C (n := 15) fl_RX11_173 ly_96 rfl dX11_isDigit_12 rfl ?_
    refine rf_aload_n C (n := 16) (q := 0) dX11_isDigit_15 rfl rfl rfl ?_
    refine rf_getI C (n := 19) fl_RX11_176 ly_96 rfl dX11_isDigit_16 rfl ?_
    refine rf_guard (fun h2 => ?_)
    refine rf_iald C (n := 20) ly_119 h2 rfl dX11_isDigit_19 rfl ?_
    refine rf_i2l C (n := 21) dX11_isDigit_20 rfl ?_
    refine rf_ldc2 C (n := 24) dX11_isDigit_21 rfl kl_RX11_182 ?_
    refine rf_ldc2 C (n := 27) dX11_isDigit_24 rfl kl_RX11_184 ?_
    refine rf_callSi C (n := 30) (c_X11_in G fu _ _ _ _) sw_RX11_25 ⟨by decide, by decide⟩ rfl (Nat.le_of_ble_eq_true rfl) rfl dX11_isDigit_27 rfl (fun y3 m4 => ?_)
    refine rf_if_eq C (tgt := 37) (n := 33) dX11_isDigit_30 (by decide) rfl (fun h5 => ?_) (fun h5 => ?_)
    · refine rf_iconst C (n := 38) (v := 0) dX11_isDigit_37 rfl (by decide) ?_
      exact rf_zret C K (by decide) dX11_isDigit_38
    · refine rf_iconst C (n := 34) (v := 1) dX11_isDigit_33 rfl (by decide) ?_
      refine rf_goto C (n := 38) dX11_isDigit_34 (by decide) ?_
      exact rf_zret C K (by decide) dX11_isDigit_38
noncomputable def f_X11_marks (fu : Nat) (x1 : Int32) (m : hM) : Option (Unit × hM) :=
  if hIn (48 + (gI m 117 1)) 96 then (
hLet (sI m 116 (Int32.toNatClampNeg (48 + (gI m 117 1))) x1) fun m2 =>
hLet (sI m2 117 1 ((gI m2 117 1) + 1)) fun m3 =>
some ((), m3)) else none
set_option maxRecDepth 100000 in
set_option maxHeartbeats 4000000 in
theorem c_X11_marks (G : hG) (fu : Nat) (x1 : Int32) (m : hM) : Mt vU G 1 yX11_marks cX11_marks 2 none [hA G 96, .int x1] m (f_X11_marks fu x1 m) := by
  refine mt_of (by decide +kernel) (Nat.le_of_ble_eq_true rfl) (fun X C K => ?_)
  have C : Cx G X 1 cX11_marks 2 RX11 none := C
  show Rf vU G X 0 [(0, hA G 96), (1, .int x1)] [] m _
  unfold f_X11_marks
  refine rf_aload_n C (n := 1) (q := 0) dX11_marks_0 rfl rfl rfl ?_
  refine rf_getS C (n := 4) fl_RX11_196 ly_96 rfl dX11_marks_1 rfl ?_
  refine rf_bipush C (n := 6) (v := 48) dX11_marks_4 rfl (by decide) ?_
  refine rf_aload_n C (n := 7) (q := 0) dX11_marks_6 rfl rfl rfl ?_
  refine rf_getS C (n := 10) fl_RX11_199 ly_96 rfl dX11_marks_7 rfl ?_
  refine rf_iconst C (n := 11) (v := 1) dX11_marks_10 rfl (by decide) ?_
  refine rf_iald C (n := 12) (j := 1) ly_117 (by decide) (by decide) dX11_marks_11 rfl ?_
  refine rf_iadd C (n := 13) dX11_marks_12 rfl ?_
  refine rf_iload_n C (n := 14) (q := 1) dX11_marks_13 rfl rfl rfl ?_
  refine rf_guard (fun h1 => ?_)
  refine rf_iast C (n := 15) ly_116 h1 rfl dX11_marks_14 rfl ?_
  refine rf_letM (fun m2 => ?_)
  refine rf_aload_n C (n := 16) (q := 0) dX11_marks_15 rfl rfl rfl ?_
  refine rf_getS C (n := 19) fl_RX11_199 ly_96 rfl dX11_marks_16 rfl ?_
  refine rf_iconst C (n := 20) (v := 1) dX11_marks_19 rfl (by decide) ?_
  refine rf_dup2 C (n := 21) dX11_marks_20 rfl rfl rfl ?_
  refine rf_iald C (n := 22) (j := 1) ly_117 (by decide) (by decide) dX11_marks_21 rfl ?_
  refine rf_iconst C (n := 23) (v := 1) dX11_marks_22 rfl (by decide) ?_
  refine rf_iadd C (n := 24) dX11_marks_23 rfl ?_
  refine rf_iast C (n := 25) (j0 := 1) ly_117 (by decide) (by decide) dX11_marks_24 rfl ?_
  refine rf_letM (fun m3 => ?_)
  exact rf_vret C K dX11_marks_25
noncomputable def s_X11_opensIn_2 (fu : Nat) (ih : Int32 → Int32 → Int32 → hM → Option (Int32 × hM)) (x1 : Int32) (x2 : Int32) (x3 : Int32) (m : hM) : Option (Int32 × hM) :=
  if 99 ≤ x3 then (
some (x3, m)) else (
hBd (f_X11_isOpen fu x1 (x2 + x3) m) fun y2 m3 =>
if ¬ y2 = 0 then (
some (x3, m3)) else (
hLet (x3 + 1) fun y5 =>
ih x1 x2 y5 m3))
noncomputable def f_X11_opensIn_2 (fu : Nat) (n : Nat) : Int32 → Int32 → Int32 → hM → Option (Int32 × hM) :=
  Nat.rec (motive := fun _ => Int32 → Int32 → Int32 → hM → Option (Int32 × hM)) (fun _ _ _ _ => none) (fun _ ih => s_X11_opensIn_2 fu ih) n
theorem f_X11_opensIn_2_s (fu : Nat) (n : Nat) (x1 : Int32) (x2 : Int32) (x3 : Int32) (m : hM) : f_X11_opensIn_2 fu (n + 1) x1 x2 x3 m = s_X11_opensIn_2 fu (f_X11_opensIn_2 fu n) x1 x2 x3 m := rfl
set_option maxRecDepth 100000 in
set_option maxHeartbeats 4000000 in
theorem r_X11_opensIn_2 {G : hG} {X : hX} (C : Cx G X 4 cX11_opensIn 4 RX11 (some .int)) (K : Cr G X) (fu : Nat) (n : Nat) : ∀ (x1 : Int32) (x2 : Int32) (x3 : Int32) (m : hM), Rf vI G X 2 [(0, hA G 96), (1, .int x1), (2, .int x2), (3, .int x3)] [] m (f_X11_opensIn_2 fu n x1 x2 x3 m) := by
  induction n with
  | zero => intros; exact rf_none
  | succ n ih =>
    intro x1 x2 x3 m
    show Rf vI G X 2 [(0, hA G 96), (1, .int x1), (2, .int x2), (3, .int x3)] [] m (s_X11_opensIn_2 fu (f_X11_opensIn_2 fu n) x1 x2 x3 m)
    unfold s_X11_opensIn_2
    refine rf_iload_n C (n := 3) (q := 3) dX11_opensIn_2 rfl rfl rfl ?_
    refine rf_bipush C (n := 5) (v := 99) dX11_opensIn_3 rfl (by decide) ?_
    refine rf_icmp_ge C (tgt := 25) (n := 8) dX11_opensIn_5 (by decide) rfl (fun h1 => ?_) (fun h1 => ?_)
    · refine rf_iload_n C (n := 26) (q := 3) dX11_opensIn_25 rfl rfl rfl ?_
      exact rf_iret C K dX11_opensIn_26
    · refine rf_aload_n C (n := 9) (q := 0) dX11_opensIn_8 rfl rfl rfl ?_
      refine rf_iload_n C (n := 10) (q := 1) dX11_opensIn_9 rfl rfl rfl ?_
      refine rf_iload_n C (n := 11) (q := 2) dX11_opensIn_10 rfl rfl rfl ?_
      refine rf_iload_n C (n := 12) (q := 3) dX11_opensIn_11 rfl rfl rfl ?_
      refine rf_iadd C (n := 13) dX11_opensIn_12 rfl ?_
      refine rf_callVi C (n := 16) (c_X11_isOpen G fu _ _ _) mw_RX11_120 ly_96 rfl ⟨by decide, by decide⟩ rfl (Nat.le_of_ble_eq_true rfl) rfl dX11_opensIn_13 rfl (fun y2 m3 => ?_)
      refine rf_if_ne C (tgt := 25) (n := 19) dX11_opensIn_16 (by decide) rfl (fun h4 => ?_) (fun h4 => ?_)
      · refine rf_iload_n C (n := 26) (q := 3) dX11_opensIn_25 rfl rfl rfl ?_
        exact rf_iret C K dX11_opensIn_26
      · refine rf_iinc2 C (n := 22) (q := 3) (fun y5 => [(3, .int y5), (0, hA G 96), (1, .int x1), (2, .int x2)]) dX11_opensIn_19 rfl rfl (by decide) (by decide) (fun _ => rfl) (fun y5 => ?_)
        refine rf_goto C (n := 2) dX11_opensIn_22 (by decide) ?_
        exact rf_lv _ [1, 2, 3, 0] rfl (ih _ _ _ _)
noncomputable def f_X11_opensIn (fu : Nat) (x1 : Int32) (x2 : Int32) (m : hM) : Option (Int32 × hM) :=
  f_X11_opensIn_2 fu fu x1 x2 0 m
set_option maxRecDepth 100000 in
set_option maxHeartbeats 4000000 in
theorem c_X11_opensIn (G : hG) (fu : Nat) (x1 : Int32) (x2 : Int32) (m : hM) : Mt vI G 4 yX11_opensIn cX11_opensIn 4 (some .int) [hA G 96, .int x1, .int x2] m (f_X11_opensIn fu x1 x2 m) := by
  refine mt_of (by decide +kernel) (Nat.le_of_ble_eq_true rfl) (fun X C K => ?_)
  have C : Cx G X 4 cX11_opensIn 4 RX11 (some .int) := C
  show Rf vI G X 0 [(0, hA G 96), (1, .int x1), (2, .int x2)] [] m _
  unfold f_X11_opensIn
  refine rf_iconst C (n := 1) (v := 0) dX11_opensIn_0 rfl (by decide) ?_
  refine rf_istore_n C (n := 2) [(3, .int 0), (0, hA G 96), (1, .int x1), (2, .int x2)] dX11_opensIn_1 rfl rfl (by decide) rfl ?_
  exact rf_lv _ [1, 2, 3, 0] rfl (r_X11_opensIn_2 C K fu fu _ _ _ _)
noncomputable def f_X11_valueOf_150 (fu : Nat) (s0 : Int32) (m : hM) : Option (Int32 × hM) :=
  hBd (f_X11_flag fu s0 m) fun y28 m29 =>
some (y28, m29)
set_option maxRecDepth 100000 in
set_option maxHeartbeats 4000000 in
theorem r_X11_valueOf_150 {G : hG} {X : hX} (C : Cx G X 6 cX11_valueOf 6 RX11 (some .int)) (K : Cr G X) (fu : Nat) (s0 : Int32) (m : hM) : Rf vI G X 150 [] [.int s0] m (f_X11_valueOf_150 fu s0 m) := by
  unfold f_X11_valueOf_150
  refine rf_callSi C (n := 153) (c_X11_flag G fu _ _) sw_RX11_124 ⟨by decide, by decide⟩ rfl (Nat.le_of_ble_eq_true rfl) rfl dX11_valueOf_150 rfl (fun y28 m29 => ?_)
  exact rf_iret C K dX11_valueOf_153
noncomputable def f_X11_valueOf_169 (fu : Nat) (s0 : Int32) (m : hM) : Option (Int32 × hM) :=
  hBd (f_X11_flag fu s0 m) fun y33 m34 =>
some (y33, m34)
set_option maxRecDepth 100000 in
set_option maxHeartbeats 4000000 in
theorem r_X11_valueOf_169 {G : hG} {X : hX} (C : Cx G X 6 cX11_valueOf 6 RX11 (some .int)) (K : Cr G X) (fu : Nat) (s0 : Int32) (m : hM) : Rf vI G X 169 [] [.int s0] m (f_X11_valueOf_169 fu s0 m) := by
  unfold f_X11_valueOf_169
  refine rf_callSi C (n := 172) (c_X11_flag G fu _ _) sw_RX11_124 ⟨by decide, by decide⟩ rfl (Nat.le_of_ble_eq_true rfl) rfl dX11_valueOf_169 rfl (fun y33 m34 => ?_)
  exact rf_iret C K dX11_valueOf_172
noncomputable def f_X11_valueOf_188 (fu : Nat) (s0 : Int32) (m : hM) : Option (Int32 × hM) :=
  hBd (f_X11_flag fu s0 m) fun y38 m39 =>
some (y38, m39)
set_option maxRecDepth 100000 in
set_option maxHeartbeats 4000000 in
theorem r_X11_valueOf_188 {G : hG} {X : hX} (C : Cx G X 6 cX11_valueOf 6 RX11 (some .int)) (K : Cr G X) (fu : Nat) (s0 : Int32) (m : hM) : Rf vI G X 188 [] [.int s0] m (f_X11_valueOf_188 fu s0 m) := by
  unfold f_X11_valueOf_188
  refine rf_callSi C (n := 191) (c_X11_flag G fu _ _) sw_RX11_124 ⟨by decide, by decide⟩ rfl (Nat.le_of_ble_eq_true rfl) rfl dX11_valueOf_188 rfl (fun y38 m39 => ?_)
  exact rf_iret C K dX11_valueOf_191
noncomputable def f_X11_valueOf (fu : Nat) (x1 : Int32) (x2 : Int32) (x3 : Int32) (x4 : Int32) (m : hM) : Option (Int32 × hM) :=
  if hIn (3 + x2) 127 then (
hLet (gI m 114 (Int32.toNatClampNeg (3 + x2))) fun y2 =>
if x1 = 0 then (
if hIn ((6 * y2) + x3) 36 then (
some (gI m 107 (Int32.toNatClampNeg ((6 * y2) + x3)), m)) else none) else if x1 = 1 then (
hBd (f_X11_lostOf fu y2 x3 x4 m) fun y6 m7 =>
some (y6, m7)) else if x1 = 2 then (
hBd (f_X11_overlapOf fu y2 x3 x4 m) fun y9 m10 =>
some (y9, m10)) else if x1 = 3 then (
hBd (f_X11_isOpen fu x3 x4 m) fun y12 m13 =>
hBd (f_X11_flag fu y12 m13) fun y14 m15 =>
some (y14, m15)) else if x1 = 4 then (
hBd (f_X11_opensIn fu x3 x4 m) fun y17 m18 =>
some (y17, m18)) else if x1 = 5 then (
if hIn x3 6 then (
if hIn x2 8 then (
hBd (f_X11_has fu (gI m 103 (Int32.toNatClampNeg x3)) (gI m 108 (Int32.toNatClampNeg x2)) m) fun y22 m23 =>
hBd (f_X11_flag fu y22 m23) fun y24 m25 =>
some (y24, m25)) else none) else none) else if x1 = 6 then (
if ¬ y2 = x3 then (
f_X11_valueOf_150 fu 0 m) else (
f_X11_valueOf_150 fu 1 m)) else if x1 = 7 then (
if hIn x2 8 then (
if ¬ (gI m 111 (Int32.toNatClampNeg x2)) = x3 then (
f_X11_valueOf_169 fu 0 m) else (
f_X11_valueOf_169 fu 1 m)) else none) else if x1 = 8 then (
if hIn x2 8 then (
if ¬ (gI m 112 (Int32.toNatClampNeg x2)) = x3 then (
f_X11_valueOf_188 fu 0 m) else (
f_X11_valueOf_188 fu 1 m)) else none) else if x1 = 9 then (
if hIn x3 6 then (
some (gI m 101 (Int32.toNatClampNeg x3), m)) else none) else if x1 = 10 then (
if hIn (11 + x2) 127 then (
some (gI m 114 (Int32.toNatClampNeg (11 + x2)), m)) else none) else (
some (x3, m))) else none
set_option maxRecDepth 100000 in
set_option maxHeartbeats 4000000 in
theorem c_X11_valueOf (G : hG) (fu : Nat) (x1 : Int32) (x2 : Int32) (x3 : Int32) (x4 : Int32) (m : hM) : Mt vI G 6 yX11_valueOf cX11_valueOf 6 (some .int) [hA G 96, .int x1, .int x2, .int x3, .int x4] m (f_X11_valueOf fu x1 x2 x3 x4 m) := by
  refine mt_of (by decide +kernel) (Nat.le_of_ble_eq_true rfl) (fun X C K => ?_)
  have C : Cx G X 6 cX11_valueOf 6 RX11 (some .int) := C
  show Rf vI G X 0 [(0, hA G 96), (1, .int x1), (2, .int x2), (3, .int x3), (4, .int x4)] [] m _
  unfold f_X11_valueOf
  refine rf_aload_n C (n := 1) (q := 0) dX11_valueOf_0 rfl rfl rfl ?_
  refine rf_getS C (n := 4) fl_RX11_140 ly_96 rfl dX11_valueOf_1 rfl ?_
  refine rf_iconst C (n := 5) (v := 3) dX11_valueOf_4 rfl (by decide) ?_
  refine rf_iload_n C (n := 6) (q := 2) dX11_valueOf_5 rfl rfl rfl ?_
  refine rf_iadd C (n := 7) dX11_valueOf_6 rfl ?_
  refine rf_guard (fun h1 => ?_)
  refine rf_iald C (n := 8) ly_114 h1 rfl dX11_valueOf_7 rfl ?_
  refine rf_letI (fun y2 => ?_)
  refine rf_istore C (n := 10) [(5, .int y2), (0, hA G 96), (1, .int x1), (2, .int x2), (3, .int x3), (4, .int x4)] dX11_valueOf_8 rfl (by decide) rfl ?_
  refine rf_iload_n C (n := 11) (q := 2) dX11_valueOf_10 rfl rfl rfl ?_
  refine rf_sw (fun h3 => ?_) (fun h3 => ?_)
  · refine rf_tabIn C (n := 68) (off := 57) dX11_valueOf_11 h3 (by decide) (by decide) (by decide) (by decide) ?_
    refine rf_aload_n C (n := 69) (q := 1) dX11_valueOf_68 rfl rfl rfl ?_
    refine rf_getS C (n := 72) fl_RX11_60 ly_96 rfl dX11_valueOf_69 rfl ?_
    refine rf_bipush C (n := 74) (v := 6) dX11_valueOf_72 rfl (by decide) ?_
    refine rf_iload C (n := 76) (q := 0) dX11_valueOf_74 rfl rfl ?_
    refine rf_imul C (n := 77) dX11_valueOf_76 rfl ?_
    refine rf_iload_n C (n := 78) (q := 4) dX11_valueOf_77 rfl rfl rfl ?_
    refine rf_iadd C (n := 79) dX11_valueOf_78 rfl ?_
    refine rf_guard (fun h4 => ?_)
    refine rf_iald C (n := 80) ly_107 h4 rfl dX11_valueOf_79 rfl ?_
    exact rf_iret C K dX11_valueOf_80
  refine rf_sw (fun h5 => ?_) (fun h5 => ?_)
  · refine rf_tabIn C (n := 81) (off := 70) dX11_valueOf_11 h5 (by decide) (by decide) (by decide) (by decide) ?_
    refine rf_aload_n C (n := 82) (q := 1) dX11_valueOf_81 rfl rfl rfl ?_
    refine rf_iload C (n := 84) (q := 0) dX11_valueOf_82 rfl rfl ?_
    refine rf_iload_n C (n := 85) (q := 4) dX11_valueOf_84 rfl rfl rfl ?_
    refine rf_iload C (n := 87) (q := 5) dX11_valueOf_85 rfl rfl ?_
    refine rf_callVi C (n := 90) (c_X11_lostOf G fu _ _ _ _) mw_RX11_132 ly_96 rfl ⟨by decide, by decide⟩ rfl (Nat.le_of_ble_eq_true rfl) rfl dX11_valueOf_87 rfl (fun y6 m7 => ?_)
    exact rf_iret C K dX11_valueOf_90
  refine rf_sw (fun h8 => ?_) (fun h8 => ?_)
  · refine rf_tabIn C (n := 91) (off := 80) dX11_valueOf_11 h8 (by decide) (by decide) (by decide) (by decide) ?_
    refine rf_aload_n C (n := 92) (q := 1) dX11_valueOf_91 rfl rfl rfl ?_
    refine rf_iload C (n := 94) (q := 0) dX11_valueOf_92 rfl rfl ?_
    refine rf_iload_n C (n := 95) (q := 4) dX11_valueOf_94 rfl rfl rfl ?_
    refine rf_iload C (n := 97) (q := 5) dX11_valueOf_95 rfl rfl ?_
    refine rf_callVi C (n := 100) (c_X11_overlapOf G fu _ _ _ _) mw_RX11_128 ly_96 rfl ⟨by decide, by decide⟩ rfl (Nat.le_of_ble_eq_true rfl) rfl dX11_valueOf_97 rfl (fun y9 m10 => ?_)
    exact rf_iret C K dX11_valueOf_100
  refine rf_sw (fun h11 => ?_) (fun h11 => ?_)
  · refine rf_tabIn C (n := 101) (off := 90) dX11_valueOf_11 h11 (by decide) (by decide) (by decide) (by decide) ?_
    refine rf_aload_n C (n := 102) (q := 1) dX11_valueOf_101 rfl rfl rfl ?_
    refine rf_iload_n C (n := 103) (q := 4) dX11_valueOf_102 rfl rfl rfl ?_
    refine rf_iload C (n := 105) (q := 5) dX11_valueOf_103 rfl rfl ?_
    refine rf_callVi C (n := 108) (c_X11_isOpen G fu _ _ _) mw_RX11_120 ly_96 rfl ⟨by decide, by decide⟩ rfl (Nat.le_of_ble_eq_true rfl) rfl dX11_valueOf_105 rfl (fun y12 m13 => ?_)
    refine rf_callSi C (n := 111) (c_X11_flag G fu _ _) sw_RX11_124 ⟨by decide, by decide⟩ rfl (Nat.le_of_ble_eq_true rfl) rfl dX11_valueOf_108 rfl (fun y14 m15 => ?_)
    exact rf_iret C K dX11_valueOf_111
  refine rf_sw (fun h16 => ?_) (fun h16 => ?_)
  · refine rf_tabIn C (n := 112) (off := 101) dX11_valueOf_11 h16 (by decide) (by decide) (by decide) (by decide) ?_
    refine rf_aload_n C (n := 113) (q := 1) dX11_valueOf_112 rfl rfl rfl ?_
    refine rf_iload_n C (n := 114) (q := 4) dX11_valueOf_113 rfl rfl rfl ?_
    refine rf_iload C (n := 116) (q := 5) dX11_valueOf_114 rfl rfl ?_
    refine rf_callVi C (n := 119) (c_X11_opensIn G fu _ _ _) mw_RX11_243 ly_96 rfl ⟨by decide, by decide⟩ rfl (Nat.le_of_ble_eq_true rfl) rfl dX11_valueOf_116 rfl (fun y17 m18 => ?_)
    exact rf_iret C K dX11_valueOf_119
  refine rf_sw (fun h19 => ?_) (fun h19 => ?_)
  · refine rf_tabIn C (n := 120) (off := 109) dX11_valueOf_11 h19 (by decide) (by decide) (by decide) (by decide) ?_
    refine rf_aload_n C (n := 121) (q := 1) dX11_valueOf_120 rfl rfl rfl ?_
    refine rf_getS C (n := 124) fl_RX11_47 ly_96 rfl dX11_valueOf_121 rfl ?_
    refine rf_iload_n C (n := 125) (q := 4) dX11_valueOf_124 rfl rfl rfl ?_
    refine rf_guard (fun h20 => ?_)
    refine rf_iald C (n := 126) ly_103 h20 rfl dX11_valueOf_125 rfl ?_
    refine rf_aload_n C (n := 127) (q := 1) dX11_valueOf_126 rfl rfl rfl ?_
    refine rf_getS C (n := 130) fl_RX11_154 ly_96 rfl dX11_valueOf_127 rfl ?_
    refine rf_iload_n C (n := 131) (q := 3) dX11_valueOf_130 rfl rfl rfl ?_
    refine rf_guard (fun h21 => ?_)
    refine rf_iald C (n := 132) ly_108 h21 rfl dX11_valueOf_131 rfl ?_
    refine rf_callSi C (n := 135) (c_X11_has G fu _ _ _) sw_RX11_137 ⟨by decide, by decide⟩ rfl (Nat.le_of_ble_eq_true rfl) rfl dX11_valueOf_132 rfl (fun y22 m23 => ?_)
    refine rf_callSi C (n := 138) (c_X11_flag G fu _ _) sw_RX11_124 ⟨by decide, by decide⟩ rfl (Nat.le_of_ble_eq_true rfl) rfl dX11_valueOf_135 rfl (fun y24 m25 => ?_)
    exact rf_iret C K dX11_valueOf_138
  refine rf_sw (fun h26 => ?_) (fun h26 => ?_)
  · refine rf_tabIn C (n := 139) (off := 128) dX11_valueOf_11 h26 (by decide) (by decide) (by decide) (by decide) ?_
    refine rf_iload C (n := 141) (q := 0) dX11_valueOf_139 rfl rfl ?_
    refine rf_iload_n C (n := 142) (q := 4) dX11_valueOf_141 rfl rfl rfl ?_
    refine rf_icmp_ne C (tgt := 149) (n := 145) dX11_valueOf_142 (by decide) rfl (fun h27 => ?_) (fun h27 => ?_)
    · refine rf_iconst C (n := 150) (v := 0) dX11_valueOf_149 rfl (by decide) ?_
      exact rf_lv _ [] rfl (r_X11_valueOf_150 C K fu _ _)
    · refine rf_iconst C (n := 146) (v := 1) dX11_valueOf_145 rfl (by decide) ?_
      refine rf_goto C (n := 150) dX11_valueOf_146 (by decide) ?_
      exact rf_lv _ [] rfl (r_X11_valueOf_150 C K fu _ _)
  refine rf_sw (fun h30 => ?_) (fun h30 => ?_)
  · refine rf_tabIn C (n := 154) (off := 143) dX11_valueOf_11 h30 (by decide) (by decide) (by decide) (by decide) ?_
    refine rf_aload_n C (n := 155) (q := 1) dX11_valueOf_154 rfl rfl rfl ?_
    refine rf_getS C (n := 158) fl_RX11_143 ly_96 rfl dX11_valueOf_155 rfl ?_
    refine rf_iload_n C (n := 159) (q := 3) dX11_valueOf_158 rfl rfl rfl ?_
    refine rf_guard (fun h31 => ?_)
    refine rf_iald C (n := 160) ly_111 h31 rfl dX11_valueOf_159 rfl ?_
    refine rf_iload_n C (n := 161) (q := 4) dX11_valueOf_160 rfl rfl rfl ?_
    refine rf_icmp_ne C (tgt := 168) (n := 164) dX11_valueOf_161 (by decide) rfl (fun h32 => ?_) (fun h32 => ?_)
    · refine rf_iconst C (n := 169) (v := 0) dX11_valueOf_168 rfl (by decide) ?_
      exact rf_lv _ [] rfl (r_X11_valueOf_169 C K fu _ _)
    · refine rf_iconst C (n := 165) (v := 1) dX11_valueOf_164 rfl (by decide) ?_
      refine rf_goto C (n := 169) dX11_valueOf_165 (by decide) ?_
      exact rf_lv _ [] rfl (r_X11_valueOf_169 C K fu _ _)
  refine rf_sw (fun h35 => ?_) (fun h35 => ?_)
  · refine rf_tabIn C (n := 173) (off := 162) dX11_valueOf_11 h35 (by decide) (by decide) (by decide) (by decide) ?_
    refine rf_aload_n C (n := 174) (q := 1) dX11_valueOf_173 rfl rfl rfl ?_
    refine rf_getS C (n := 177) fl_RX11_163 ly_96 rfl dX11_valueOf_174 rfl ?_
    refine rf_iload_n C (n := 178) (q := 3) dX11_valueOf_177 rfl rfl rfl ?_
    refine rf_guard (fun h36 => ?_)
    refine rf_iald C (n := 179) ly_112 h36 rfl dX11_valueOf_178 rfl ?_
    refine rf_iload_n C (n := 180) (q := 4) dX11_valueOf_179 rfl rfl rfl ?_
    refine rf_icmp_ne C (tgt := 187) (n := 183) dX11_valueOf_180 (by decide) rfl (fun h37 => ?_) (fun h37 => ?_)
    · refine rf_iconst C (n := 188) (v := 0) dX11_valueOf_187 rfl (by decide) ?_
      exact rf_lv _ [] rfl (r_X11_valueOf_188 C K fu _ _)
    · refine rf_iconst C (n := 184) (v := 1) dX11_valueOf_183 rfl (by decide) ?_
      refine rf_goto C (n := 188) dX11_valueOf_184 (by decide) ?_
      exact rf_lv _ [] rfl (r_X11_valueOf_188 C K fu _ _)
  refine rf_sw (fun h40 => ?_) (fun h40 => ?_)
  · refine rf_tabIn C (n := 192) (off := 181) dX11_valueOf_11 h40 (by decide) (by decide) (by decide) (by decide) ?_
    refine rf_aload_n C (n := 193) (q := 1) dX11_valueOf_192 rfl rfl rfl ?_
    refine rf_getS C (n := 196) fl_RX11_41 ly_96 rfl dX11_valueOf_193 rfl ?_
    refine rf_iload_n C (n := 197) (q := 4) dX11_valueOf_196 rfl rfl rfl ?_
    refine rf_guard (fun h41 => ?_)
    refine rf_iald C (n := 198) ly_101 h41 rfl dX11_valueOf_197 rfl ?_
    exact rf_iret C K dX11_valueOf_198
  refine rf_sw (fun h42 => ?_) (fun h42 => ?_)
  · refine rf_tabIn C (n := 199) (off := 188) dX11_valueOf_11 h42 (by decide) (by decide) (by decide) (by decide) ?_
    refine rf_aload_n C (n := 200) (q := 1) dX11_valueOf_199 rfl rfl rfl ?_
    refine rf_getS C (n := 203) fl_RX11_140 ly_96 rfl dX11_valueOf_200 rfl ?_
    refine rf_bipush C (n := 205) (v := 11) dX11_valueOf_203 rfl (by decide) ?_
    refine rf_iload_n C (n := 206) (q := 3) dX11_valueOf_205 rfl rfl rfl ?_
    refine rf_iadd C (n := 207) dX11_valueOf_206 rfl ?_
    refine rf_guard (fun h43 => ?_)
    refine rf_iald C (n := 208) ly_114 h43 rfl dX11_valueOf_207 rfl ?_
    exact rf_iret C K dX11_valueOf_208
  refine rf_tabD C (n := 209) dX11_valueOf_11 [0, 1, 2, 3, 4, 5, 6, 7, 8, 9, 10] (by intro c hc; simp only [List.mem_cons, List.not_mem_nil, or_false] at hc; rcases hc with rfl | rfl | rfl | rfl | rfl | rfl | rfl | rfl | rfl | rfl | rfl <;> assumption) (by decide) (by decide) (by decide) ?_
  refine rf_iload_n C (n := 210) (q := 4) dX11_valueOf_209 rfl rfl rfl ?_
  exact rf_iret C K dX11_valueOf_210
noncomputable def f_X11_acted_183 (fu : Nat) (s0 : Int32) (m : hM) : Option (Int32 × hM) :=
  hBd (f_X11_flag fu s0 m) fun y3 m4 =>
some (y3, m4)
set_option maxRecDepth 100000 in
set_option maxHeartbeats 4000000 in
theorem r_X11_acted_183 {G : hG} {X : hX} (C : Cx G X 2 cX11_acted 3 RX11 (some .int)) (K : Cr G X) (fu : Nat) (s0 : Int32) (m : hM) : Rf vI G X 183 [] [.int s0] m (f_X11_acted_183 fu s0 m) := by
  unfold f_X11_acted_183
  refine rf_callSi C (n := 186) (c_X11_flag G fu _ _) sw_RX11_124 ⟨by decide, by decide⟩ rfl (Nat.le_of_ble_eq_true rfl) rfl dX11_acted_183 rfl (fun y3 m4 => ?_)
  exact rf_iret C K dX11_acted_186
noncomputable def f_X11_acted_182 (fu : Nat) (m : hM) : Option (Int32 × hM) :=
  f_X11_acted_183 fu 0 m
set_option maxRecDepth 100000 in
set_option maxHeartbeats 4000000 in
theorem r_X11_acted_182 {G : hG} {X : hX} (C : Cx G X 2 cX11_acted 3 RX11 (some .int)) (K : Cr G X) (fu : Nat) (m : hM) : Rf vI G X 182 [] [] m (f_X11_acted_182 fu m) := by
  unfold f_X11_acted_182
  refine rf_iconst C (n := 183) (v := 0) dX11_acted_182 rfl (by decide) ?_
  exact rf_lv _ [] rfl (r_X11_acted_183 C K fu _ _)
noncomputable def f_X11_acted_138 (fu : Nat) (s0 : Int32) (m : hM) : Option (Int32 × hM) :=
  hBd (f_X11_flag fu s0 m) fun y11 m12 =>
some (y11, m12)
set_option maxRecDepth 100000 in
set_option maxHeartbeats 4000000 in
theorem r_X11_acted_138 {G : hG} {X : hX} (C : Cx G X 2 cX11_acted 3 RX11 (some .int)) (K : Cr G X) (fu : Nat) (s0 : Int32) (m : hM) : Rf vI G X 138 [] [.int s0] m (f_X11_acted_138 fu s0 m) := by
  unfold f_X11_acted_138
  refine rf_callSi C (n := 141) (c_X11_flag G fu _ _) sw_RX11_124 ⟨by decide, by decide⟩ rfl (Nat.le_of_ble_eq_true rfl) rfl dX11_acted_138 rfl (fun y11 m12 => ?_)
  exact rf_iret C K dX11_acted_141
noncomputable def f_X11_acted_166 (fu : Nat) (s0 : Int32) (m : hM) : Option (Int32 × hM) :=
  hBd (f_X11_flag fu s0 m) fun y15 m16 =>
some (y15, m16)
set_option maxRecDepth 100000 in
set_option maxHeartbeats 4000000 in
theorem r_X11_acted_166 {G : hG} {X : hX} (C : Cx G X 2 cX11_acted 3 RX11 (some .int)) (K : Cr G X) (fu : Nat) (s0 : Int32) (m : hM) : Rf vI G X 166 [] [.int s0] m (f_X11_acted_166 fu s0 m) := by
  unfold f_X11_acted_166
  refine rf_callSi C (n := 169) (c_X11_flag G fu _ _) sw_RX11_124 ⟨by decide, by decide⟩ rfl (Nat.le_of_ble_eq_true rfl) rfl dX11_acted_166 rfl (fun y15 m16 => ?_)
  exact rf_iret C K dX11_acted_169
noncomputable def f_X11_acted_152 (fu : Nat) (s0 : Int32) (m : hM) : Option (Int32 × hM) :=
  hBd (f_X11_flag fu s0 m) fun y19 m20 =>
some (y19, m20)
set_option maxRecDepth 100000 in
set_option maxHeartbeats 4000000 in
theorem r_X11_acted_152 {G : hG} {X : hX} (C : Cx G X 2 cX11_acted 3 RX11 (some .int)) (K : Cr G X) (fu : Nat) (s0 : Int32) (m : hM) : Rf vI G X 152 [] [.int s0] m (f_X11_acted_152 fu s0 m) := by
  unfold f_X11_acted_152
  refine rf_callSi C (n := 155) (c_X11_flag G fu _ _) sw_RX11_124 ⟨by decide, by decide⟩ rfl (Nat.le_of_ble_eq_true rfl) rfl dX11_acted_152 rfl (fun y19 m20 => ?_)
  exact rf_iret C K dX11_acted_155
noncomputable def f_X11_acted_200 (fu : Nat) (s0 : Int32) (m : hM) : Option (Int32 × hM) :=
  hBd (f_X11_flag fu s0 m) fun y22 m23 =>
some (y22, m23)
set_option maxRecDepth 100000 in
set_option maxHeartbeats 4000000 in
theorem r_X11_acted_200 {G : hG} {X : hX} (C : Cx G X 2 cX11_acted 3 RX11 (some .int)) (K : Cr G X) (fu : Nat) (s0 : Int32) (m : hM) : Rf vI G X 200 [] [.int s0] m (f_X11_acted_200 fu s0 m) := by
  unfold f_X11_acted_200
  refine rf_callSi C (n := 203) (c_X11_flag G fu _ _) sw_RX11_124 ⟨by decide, by decide⟩ rfl (Nat.le_of_ble_eq_true rfl) rfl dX11_acted_200 rfl (fun y22 m23 => ?_)
  exact rf_iret C K dX11_acted_203
noncomputable def f_X11_acted_195 (fu : Nat) (m : hM) : Option (Int32 × hM) :=
  f_X11_acted_200 fu 1 m
set_option maxRecDepth 100000 in
set_option maxHeartbeats 4000000 in
theorem r_X11_acted_195 {G : hG} {X : hX} (C : Cx G X 2 cX11_acted 3 RX11 (some .int)) (K : Cr G X) (fu : Nat) (m : hM) : Rf vI G X 195 [] [] m (f_X11_acted_195 fu m) := by
  unfold f_X11_acted_195
  refine rf_iconst C (n := 196) (v := 1) dX11_acted_195 rfl (by decide) ?_
  refine rf_goto C (n := 200) dX11_acted_196 (by decide) ?_
  exact rf_lv _ [] rfl (r_X11_acted_200 C K fu _ _)
noncomputable def f_X11_acted (fu : Nat) (x0 : Int32) (x1 : Int32) (x2 : Int32) (m : hM) : Option (Int32 × hM) :=
  if x0 = 38 then (
if x1 = 0 then (
f_X11_acted_182 fu m) else (
if x2 = 0 then (
f_X11_acted_182 fu m) else (
f_X11_acted_183 fu 1 m))) else if x0 = 42 then (
some (x1 * x2, m)) else if x0 = 43 then (
some (x1 + x2, m)) else if x0 = 45 then (
some (x1 - x2, m)) else if x0 = 60 then (
if x2 ≤ x1 then (
f_X11_acted_138 fu 0 m) else (
f_X11_acted_138 fu 1 m)) else if x0 = 61 then (
if ¬ x1 = x2 then (
f_X11_acted_166 fu 0 m) else (
f_X11_acted_166 fu 1 m)) else if x0 = 62 then (
if x1 ≤ x2 then (
f_X11_acted_152 fu 0 m) else (
f_X11_acted_152 fu 1 m)) else (
if ¬ x1 = 0 then (
f_X11_acted_195 fu m) else (
if x2 = 0 then (
f_X11_acted_200 fu 0 m) else (
f_X11_acted_195 fu m)))
set_option maxRecDepth 100000 in
set_option maxHeartbeats 4000000 in
theorem c_X11_acted (G : hG) (fu : Nat) (x0 : Int32) (x1 : Int32) (x2 : Int32) (m : hM) : Mt vI G 2 yX11_acted cX11_acted 3 (some .int) [.int x0, .int x1, .int x2] m (f_X11_acted fu x0 x1 x2 m) := by
  refine mt_of (by decide +kernel) (Nat.le_of_ble_eq_true rfl) (fun X C K => ?_)
  have C : Cx G X 2 cX11_acted 3 RX11 (some .int) := C
  show Rf vI G X 0 [(0, .int x0), (1, .int x1), (2, .int x2)] [] m _
  unfold f_X11_acted
  refine rf_iload_n C (n := 1) (q := 0) dX11_acted_0 rfl rfl rfl ?_
  refine rf_sw (fun h1 => ?_) (fun h1 => ?_)
  · refine rf_tabIn C (n := 170) (off := 169) dX11_acted_1 h1 (by decide) (by decide) (by decide) (by decide) ?_
    refine rf_iload_n C (n := 171) (q := 1) dX11_acted_170 rfl rfl rfl ?_
    refine rf_if_eq C (tgt := 182) (n := 174) dX11_acted_171 (by decide) rfl (fun h2 => ?_) (fun h2 => ?_)
    · exact rf_lv _ [] rfl (r_X11_acted_182 C K fu _)
    · refine rf_iload_n C (n := 175) (q := 2) dX11_acted_174 rfl rfl rfl ?_
      refine rf_if_eq C (tgt := 182) (n := 178) dX11_acted_175 (by decide) rfl (fun h5 => ?_) (fun h5 => ?_)
      · exact rf_lv _ [] rfl (r_X11_acted_182 C K fu _)
      · refine rf_iconst C (n := 179) (v := 1) dX11_acted_178 rfl (by decide) ?_
        refine rf_goto C (n := 183) dX11_acted_179 (by decide) ?_
        exact rf_lv _ [] rfl (r_X11_acted_183 C K fu _ _)
  refine rf_sw (fun h6 => ?_) (fun h6 => ?_)
  · refine rf_tabIn C (n := 124) (off := 123) dX11_acted_1 h6 (by decide) (by decide) (by decide) (by decide) ?_
    refine rf_iload_n C (n := 125) (q := 1) dX11_acted_124 rfl rfl rfl ?_
    refine rf_iload_n C (n := 126) (q := 2) dX11_acted_125 rfl rfl rfl ?_
    refine rf_imul C (n := 127) dX11_acted_126 rfl ?_
    exact rf_iret C K dX11_acted_127
  refine rf_sw (fun h7 => ?_) (fun h7 => ?_)
  · refine rf_tabIn C (n := 116) (off := 115) dX11_acted_1 h7 (by decide) (by decide) (by decide) (by decide) ?_
    refine rf_iload_n C (n := 117) (q := 1) dX11_acted_116 rfl rfl rfl ?_
    refine rf_iload_n C (n := 118) (q := 2) dX11_acted_117 rfl rfl rfl ?_
    refine rf_iadd C (n := 119) dX11_acted_118 rfl ?_
    exact rf_iret C K dX11_acted_119
  refine rf_sw (fun h8 => ?_) (fun h8 => ?_)
  · refine rf_tabIn C (n := 120) (off := 119) dX11_acted_1 h8 (by decide) (by decide) (by decide) (by decide) ?_
    refine rf_iload_n C (n := 121) (q := 1) dX11_acted_120 rfl rfl rfl ?_
    refine rf_iload_n C (n := 122) (q := 2) dX11_acted_121 rfl rfl rfl ?_
    refine rf_isub C (n := 123) dX11_acted_122 rfl ?_
    exact rf_iret C K dX11_acted_123
  refine rf_sw (fun h9 => ?_) (fun h9 => ?_)
  · refine rf_tabIn C (n := 128) (off := 127) dX11_acted_1 h9 (by decide) (by decide) (by decide) (by decide) ?_
    refine rf_iload_n C (n := 129) (q := 1) dX11_acted_128 rfl rfl rfl ?_
    refine rf_iload_n C (n := 130) (q := 2) dX11_acted_129 rfl rfl rfl ?_
    refine rf_icmp_ge C (tgt := 137) (n := 133) dX11_acted_130 (by decide) rfl (fun h10 => ?_) (fun h10 => ?_)
    · refine rf_iconst C (n := 138) (v := 0) dX11_acted_137 rfl (by decide) ?_
      exact rf_lv _ [] rfl (r_X11_acted_138 C K fu _ _)
    · refine rf_iconst C (n := 134) (v := 1) dX11_acted_133 rfl (by decide) ?_
      refine rf_goto C (n := 138) dX11_acted_134 (by decide) ?_
      exact rf_lv _ [] rfl (r_X11_acted_138 C K fu _ _)
  refine rf_sw (fun h13 => ?_) (fun h13 => ?_)
  · refine rf_tabIn C (n := 156) (off := 155) dX11_acted_1 h13 (by decide) (by decide) (by decide) (by decide) ?_
    refine rf_iload_n C (n := 157) (q := 1) dX11_acted_156 rfl rfl rfl ?_
    refine rf_iload_n C (n := 158) (q := 2) dX11_acted_157 rfl rfl rfl ?_
    refine rf_icmp_ne C (tgt := 165) (n := 161) dX11_acted_158 (by decide) rfl (fun h14 => ?_) (fun h14 => ?_)
    · refine rf_iconst C (n := 166) (v := 0) dX11_acted_165 rfl (by decide) ?_
      exact rf_lv _ [] rfl (r_X11_acted_166 C K fu _ _)
    · refine rf_iconst C (n := 162) (v := 1) dX11_acted_161 rfl (by decide) ?_
      refine rf_goto C (n := 166) dX11_acted_162 (by decide) ?_
      exact rf_lv _ [] rfl (r_X11_acted_166 C K fu _ _)
  refine rf_sw (fun h17 => ?_) (fun h17 => ?_)
  · refine rf_tabIn C (n := 142) (off := 141) dX11_acted_1 h17 (by decide) (by decide) (by decide) (by decide) ?_
    refine rf_iload_n C (n := 143) (q := 1) dX11_acted_142 rfl rfl rfl ?_
    refine rf_iload_n C (n := 144) (q := 2) dX11_acted_143 rfl rfl rfl ?_
    refine rf_icmp_le C (tgt := 151) (n := 147) dX11_acted_144 (by decide) rfl (fun h18 => ?_) (fun h18 => ?_)
    · refine rf_iconst C (n := 152) (v := 0) dX11_acted_151 rfl (by decide) ?_
      exact rf_lv _ [] rfl (r_X11_acted_152 C K fu _ _)
    · refine rf_iconst C (n := 148) (v := 1) dX11_acted_147 rfl (by decide) ?_
      refine rf_goto C (n := 152) dX11_acted_148 (by decide) ?_
      exact rf_lv _ [] rfl (r_X11_acted_152 C K fu _ _)
  refine rf_tabD C (n := 187) dX11_acted_1 [38, 42, 43, 45, 60, 61, 62] (by intro c hc; simp only [List.mem_cons, List.not_mem_nil, or_false] at hc; rcases hc with rfl | rfl | rfl | rfl | rfl | rfl | rfl <;> assumption) (by decide) (by decide) (by decide) ?_
  refine rf_iload_n C (n := 188) (q := 1) dX11_acted_187 rfl rfl rfl ?_
  refine rf_if_ne C (tgt := 195) (n := 191) dX11_acted_188 (by decide) rfl (fun h21 => ?_) (fun h21 => ?_)
  · exact rf_lv _ [] rfl (r_X11_acted_195 C K fu _)
  · refine rf_iload_n C (n := 192) (q := 2) dX11_acted_191 rfl rfl rfl ?_
    refine rf_if_eq C (tgt := 199) (n := 195) dX11_acted_192 (by decide) rfl (fun h24 => ?_) (fun h24 => ?_)
    · refine rf_iconst C (n := 200) (v := 0) dX11_acted_199 rfl (by decide) ?_
      exact rf_lv _ [] rfl (r_X11_acted_200 C K fu _ _)
    · exact rf_lv _ [] rfl (r_X11_acted_195 C K fu _)
noncomputable def f_X11_worked_186 (fu : Nat) (m : hM) : Option (Int32 × hM) :=
  some (gI m 118 0, m)
set_option maxRecDepth 100000 in
set_option maxHeartbeats 4000000 in
theorem r_X11_worked_186 {G : hG} {X : hX} (C : Cx G X 7 cX11_worked 7 RX11 (some .int)) (K : Cr G X) (fu : Nat) (m : hM) : Rf vI G X 186 [(0, hA G 96)] [] m (f_X11_worked_186 fu m) := by
  unfold f_X11_worked_186
  refine rf_aload_n C (n := 187) (q := 0) dX11_worked_186 rfl rfl rfl ?_
  refine rf_getS C (n := 190) fl_RX11_246 ly_96 rfl dX11_worked_187 rfl ?_
  refine rf_iconst C (n := 191) (v := 0) dX11_worked_190 rfl (by decide) ?_
  refine rf_iald C (n := 192) (j := 0) ly_118 (by decide) (by decide) dX11_worked_191 rfl ?_
  exact rf_iret C K dX11_worked_192
noncomputable def f_X11_worked_180 (fu : Nat) (k6 : Int32 → Int32 → Int32 → Int32 → Int32 → hM → Option (Int32 × hM)) (x1 : Int32) (x2 : Int32) (x3 : Int32) (x4 : Int32) (x5 : Int32) (m : hM) : Option (Int32 × hM) :=
  hLet (x5 + 1) fun y14 =>
k6 x1 x2 x3 x4 y14 m
set_option maxRecDepth 100000 in
set_option maxHeartbeats 4000000 in
theorem r_X11_worked_180 {G : hG} {X : hX} (C : Cx G X 7 cX11_worked 7 RX11 (some .int)) (K : Cr G X) (fu : Nat) (k6 : Int32 → Int32 → Int32 → Int32 → Int32 → hM → Option (Int32 × hM)) (hk6 : ∀ (x1 : Int32) (x2 : Int32) (x3 : Int32) (x4 : Int32) (x5 : Int32) (m : hM), Rf vI G X 6 [(0, hA G 96), (1, .int x1), (2, .int x2), (3, .int x3), (4, .int x4), (5, .int x5)] [] m (k6 x1 x2 x3 x4 x5 m)) (x1 : Int32) (x2 : Int32) (x3 : Int32) (x4 : Int32) (x5 : Int32) (m : hM) : Rf vI G X 180 [(0, hA G 96), (1, .int x1), (2, .int x2), (3, .int x3), (4, .int x4), (5, .int x5)] [] m (f_X11_worked_180 fu k6 x1 x2 x3 x4 x5 m) := by
  unfold f_X11_worked_180
  refine rf_iinc2 C (n := 183) (q := 5) (fun y14 => [(5, .int y14), (0, hA G 96), (1, .int x1), (2, .int x2), (3, .int x3), (4, .int x4)]) dX11_worked_180 rfl rfl (by decide) (by decide) (fun _ => rfl) (fun y14 => ?_)
  refine rf_goto C (n := 6) dX11_worked_183 (by decide) ?_
  exact rf_lv _ [1, 2, 3, 4, 5, 0] rfl (hk6 _ _ _ _ _ _)
noncomputable def f_X11_worked_106 (fu : Nat) (k6 : Int32 → Int32 → Int32 → Int32 → Int32 → hM → Option (Int32 × hM)) (x1 : Int32) (x2 : Int32) (x3 : Int32) (x4 : Int32) (x5 : Int32) (s1 : Int32) (s2 : Int32) (m : hM) : Option (Int32 × hM) :=
  hBd (f_X11_flag fu s2 m) fun y20 m21 =>
if hIn s1 48 then (
hLet (sI m21 118 (Int32.toNatClampNeg s1) y20) fun m23 =>
f_X11_worked_180 fu k6 x1 x2 x3 x4 x5 m23) else none
set_option maxRecDepth 100000 in
set_option maxHeartbeats 4000000 in
theorem r_X11_worked_106 {G : hG} {X : hX} (C : Cx G X 7 cX11_worked 7 RX11 (some .int)) (K : Cr G X) (fu : Nat) (k6 : Int32 → Int32 → Int32 → Int32 → Int32 → hM → Option (Int32 × hM)) (hk6 : ∀ (x1 : Int32) (x2 : Int32) (x3 : Int32) (x4 : Int32) (x5 : Int32) (m : hM), Rf vI G X 6 [(0, hA G 96), (1, .int x1), (2, .int x2), (3, .int x3), (4, .int x4), (5, .int x5)] [] m (k6 x1 x2 x3 x4 x5 m)) (x1 : Int32) (x2 : Int32) (x3 : Int32) (x4 : Int32) (x5 : Int32) (s1 : Int32) (s2 : Int32) (m : hM) : Rf vI G X 106 [(0, hA G 96), (1, .int x1), (2, .int x2), (3, .int x3), (4, .int x4), (5, .int x5)] [.int s2, .int s1, hA G 118] m (f_X11_worked_106 fu k6 x1 x2 x3 x4 x5 s1 s2 m) := by
  unfold f_X11_worked_106
  refine rf_callSi C (n := 109) (c_X11_flag G fu _ _) sw_RX11_124 ⟨by decide, by decide⟩ rfl (Nat.le_of_ble_eq_true rfl) rfl dX11_worked_106 rfl (fun y20 m21 => ?_)
  refine rf_guard (fun h22 => ?_)
  refine rf_iast C (n := 110) ly_118 h22 rfl dX11_worked_109 rfl ?_
  refine rf_letM (fun m23 => ?_)
  refine rf_goto C (n := 180) dX11_worked_110 (by decide) ?_
  exact rf_lv _ [0, 1, 2, 3, 4, 5] rfl (r_X11_worked_180 C K fu _ hk6 _ _ _ _ _ _)
noncomputable def f_X11_worked_66 (fu : Nat) (k6 : Int32 → Int32 → Int32 → Int32 → Int32 → hM → Option (Int32 × hM)) (x1 : Int32) (x2 : Int32) (x3 : Int32) (x4 : Int32) (x5 : Int32) (s1 : Int32) (s2 : Int32) (m : hM) : Option (Int32 × hM) :=
  if hIn s1 48 then (
hLet (sI m 118 (Int32.toNatClampNeg s1) s2) fun m28 =>
hLet (x4 + 1) fun y29 =>
f_X11_worked_180 fu k6 x1 x2 x3 y29 x5 m28) else none
set_option maxRecDepth 100000 in
set_option maxHeartbeats 4000000 in
theorem r_X11_worked_66 {G : hG} {X : hX} (C : Cx G X 7 cX11_worked 7 RX11 (some .int)) (K : Cr G X) (fu : Nat) (k6 : Int32 → Int32 → Int32 → Int32 → Int32 → hM → Option (Int32 × hM)) (hk6 : ∀ (x1 : Int32) (x2 : Int32) (x3 : Int32) (x4 : Int32) (x5 : Int32) (m : hM), Rf vI G X 6 [(0, hA G 96), (1, .int x1), (2, .int x2), (3, .int x3), (4, .int x4), (5, .int x5)] [] m (k6 x1 x2 x3 x4 x5 m)) (x1 : Int32) (x2 : Int32) (x3 : Int32) (x4 : Int32) (x5 : Int32) (s1 : Int32) (s2 : Int32) (m : hM) : Rf vI G X 66 [(0, hA G 96), (1, .int x1), (2, .int x2), (3, .int x3), (4, .int x4), (5, .int x5)] [.int s2, .int s1, hA G 118] m (f_X11_worked_66 fu k6 x1 x2 x3 x4 x5 s1 s2 m) := by
  unfold f_X11_worked_66
  refine rf_guard (fun h27 => ?_)
  refine rf_iast C (n := 67) ly_118 h27 rfl dX11_worked_66 rfl ?_
  refine rf_letM (fun m28 => ?_)
  refine rf_iinc2 C (n := 70) (q := 4) (fun y29 => [(4, .int y29), (0, hA G 96), (1, .int x1), (2, .int x2), (3, .int x3), (5, .int x5)]) dX11_worked_67 rfl rfl (by decide) (by decide) (fun _ => rfl) (fun y29 => ?_)
  refine rf_goto C (n := 180) dX11_worked_70 (by decide) ?_
  exact rf_lv _ [1, 2, 3, 4, 0, 5] rfl (r_X11_worked_180 C K fu _ hk6 _ _ _ _ _ _)
noncomputable def s_X11_worked_6 (fu : Nat) (ih : Int32 → Int32 → Int32 → Int32 → Int32 → hM → Option (Int32 × hM)) (x1 : Int32) (x2 : Int32) (x3 : Int32) (x4 : Int32) (x5 : Int32) (m : hM) : Option (Int32 × hM) :=
  if (gI m 117 0) ≤ x5 then (
f_X11_worked_186 fu m) else (
if hIn x5 96 then (
hLet (gI m 116 (Int32.toNatClampNeg x5)) fun y3 =>
if 2000 ≤ y3 then (
if ¬ y3 = 2033 then (
if ¬ y3 = 2126 then (
hLet (x4 + (-1)) fun y7 =>
if hIn (y7 - 1) 48 then (
if hIn y7 48 then (
hBd (f_X11_acted fu (y3 - 2000) (gI m 118 (Int32.toNatClampNeg (y7 - 1))) (gI m 118 (Int32.toNatClampNeg y7)) m) fun y10 m11 =>
if hIn (y7 - 1) 48 then (
hLet (sI m11 118 (Int32.toNatClampNeg (y7 - 1)) y10) fun m13 =>
f_X11_worked_180 fu ih x1 x2 x3 y7 x5 m13) else none) else none) else none) else (
if hIn (x4 - 1) 48 then (
if hIn (x4 - 1) 48 then (
hLet (sI m 118 (Int32.toNatClampNeg (x4 - 1)) (-(gI m 118 (Int32.toNatClampNeg (x4 - 1))))) fun m17 =>
f_X11_worked_180 fu ih x1 x2 x3 x4 x5 m17) else none) else none)) else (
if hIn (x4 - 1) 48 then (
if ¬ (gI m 118 (Int32.toNatClampNeg (x4 - 1))) = 0 then (
f_X11_worked_106 fu ih x1 x2 x3 x4 x5 (x4 - 1) 0 m) else (
f_X11_worked_106 fu ih x1 x2 x3 x4 x5 (x4 - 1) 1 m)) else none)) else (
if 1000 ≤ y3 then (
hBd (f_X11_valueOf fu (y3 - 1000) x1 x2 x3 m) fun y25 m26 =>
f_X11_worked_66 fu ih x1 x2 x3 x4 x5 x4 y25 m26) else (
f_X11_worked_66 fu ih x1 x2 x3 x4 x5 x4 y3 m))) else none)
noncomputable def f_X11_worked_6 (fu : Nat) (n : Nat) : Int32 → Int32 → Int32 → Int32 → Int32 → hM → Option (Int32 × hM) :=
  Nat.rec (motive := fun _ => Int32 → Int32 → Int32 → Int32 → Int32 → hM → Option (Int32 × hM)) (fun _ _ _ _ _ _ => none) (fun _ ih => s_X11_worked_6 fu ih) n
theorem f_X11_worked_6_s (fu : Nat) (n : Nat) (x1 : Int32) (x2 : Int32) (x3 : Int32) (x4 : Int32) (x5 : Int32) (m : hM) : f_X11_worked_6 fu (n + 1) x1 x2 x3 x4 x5 m = s_X11_worked_6 fu (f_X11_worked_6 fu n) x1 x2 x3 x4 x5 m := rfl
set_option maxRecDepth 100000 in
set_option maxHeartbeats 4000000 in
theorem r_X11_worked_6 {G : hG} {X : hX} (C : Cx G X 7 cX11_worked 7 RX11 (some .int)) (K : Cr G X) (fu : Nat) (n : Nat) : ∀ (x1 : Int32) (x2 : Int32) (x3 : Int32) (x4 : Int32) (x5 : Int32) (m : hM), Rf vI G X 6 [(0, hA G 96), (1, .int x1), (2, .int x2), (3, .int x3), (4, .int x4), (5, .int x5)] [] m (f_X11_worked_6 fu n x1 x2 x3 x4 x5 m) := by
  induction n with
  | zero => intros; exact rf_none
  | succ n ih =>
    intro x1 x2 x3 x4 x5 m
    show Rf vI G X 6 [(0, hA G 96), (1, .int x1), (2, .int x2), (3, .int x3), (4, .int x4), (5, .int x5)] [] m (s_X11_worked_6 fu (f_X11_worked_6 fu n) x1 x2 x3 x4 x5 m)
    unfold s_X11_worked_6
    refine rf_iload C (n := 8) (q := 5) dX11_worked_6 rfl rfl ?_
    refine rf_aload_n C (n := 9) (q := 0) dX11_worked_8 rfl rfl rfl ?_
    refine rf_getS C (n := 12) fl_RX11_199 ly_96 rfl dX11_worked_9 rfl ?_
    refine rf_iconst C (n := 13) (v := 0) dX11_worked_12 rfl (by decide) ?_
    refine rf_iald C (n := 14) (j := 0) ly_117 (by decide) (by decide) dX11_worked_13 rfl ?_
    refine rf_icmp_ge C (tgt := 186) (n := 17) dX11_worked_14 (by decide) rfl (fun h1 => ?_) (fun h1 => ?_)
    · exact rf_lv _ [0] rfl (r_X11_worked_186 C K fu _)
    · refine rf_aload_n C (n := 18) (q := 0) dX11_worked_17 rfl rfl rfl ?_
      refine rf_getS C (n := 21) fl_RX11_196 ly_96 rfl dX11_worked_18 rfl ?_
      refine rf_iload C (n := 23) (q := 5) dX11_worked_21 rfl rfl ?_
      refine rf_guard (fun h2 => ?_)
      refine rf_iald C (n := 24) ly_116 h2 rfl dX11_worked_23 rfl ?_
      refine rf_letI (fun y3 => ?_)
      refine rf_istore C (n := 26) [(6, .int y3), (0, hA G 96), (1, .int x1), (2, .int x2), (3, .int x3), (4, .int x4), (5, .int x5)] dX11_worked_24 rfl (by decide) rfl ?_
      refine rf_iload C (n := 28) (q := 0) dX11_worked_26 rfl rfl ?_
      refine rf_sipush C (n := 31) (v := 2000) dX11_worked_28 rfl (by decide) ?_
      refine rf_icmp_ge C (tgt := 73) (n := 34) dX11_worked_31 (by decide) rfl (fun h4 => ?_) (fun h4 => ?_)
      · refine rf_iload C (n := 75) (q := 0) dX11_worked_73 rfl rfl ?_
        refine rf_sipush C (n := 78) (v := 2033) dX11_worked_75 rfl (by decide) ?_
        refine rf_icmp_ne C (tgt := 113) (n := 81) dX11_worked_78 (by decide) rfl (fun h5 => ?_) (fun h5 => ?_)
        · refine rf_iload C (n := 115) (q := 0) dX11_worked_113 rfl rfl ?_
          refine rf_sipush C (n := 118) (v := 2126) dX11_worked_115 rfl (by decide) ?_
          refine rf_icmp_ne C (tgt := 143) (n := 121) dX11_worked_118 (by decide) rfl (fun h6 => ?_) (fun h6 => ?_)
          · refine rf_iinc2 C (n := 146) (q := 5) (fun y7 => [(4, .int y7), (6, .int y3), (0, hA G 96), (1, .int x1), (2, .int x2), (3, .int x3), (5, .int x5)]) dX11_worked_143 rfl rfl (by decide) (by decide) (fun _ => rfl) (fun y7 => ?_)
            refine rf_aload_n C (n := 147) (q := 2) dX11_worked_146 rfl rfl rfl ?_
            refine rf_getS C (n := 150) fl_RX11_246 ly_96 rfl dX11_worked_147 rfl ?_
            refine rf_iload C (n := 152) (q := 0) dX11_worked_150 rfl rfl ?_
            refine rf_iconst C (n := 153) (v := 1) dX11_worked_152 rfl (by decide) ?_
            refine rf_isub C (n := 154) dX11_worked_153 rfl ?_
            refine rf_iload C (n := 156) (q := 1) dX11_worked_154 rfl rfl ?_
            refine rf_sipush C (n := 159) (v := 2000) dX11_worked_156 rfl (by decide) ?_
            refine rf_isub C (n := 160) dX11_worked_159 rfl ?_
            refine rf_aload_n C (n := 161) (q := 2) dX11_worked_160 rfl rfl rfl ?_
            refine rf_getS C (n := 164) fl_RX11_246 ly_96 rfl dX11_worked_161 rfl ?_
            refine rf_iload C (n := 166) (q := 0) dX11_worked_164 rfl rfl ?_
            refine rf_iconst C (n := 167) (v := 1) dX11_worked_166 rfl (by decide) ?_
            refine rf_isub C (n := 168) dX11_worked_167 rfl ?_
            refine rf_guard (fun h8 => ?_)
            refine rf_iald C (n := 169) ly_118 h8 rfl dX11_worked_168 rfl ?_
            refine rf_aload_n C (n := 170) (q := 2) dX11_worked_169 rfl rfl rfl ?_
            refine rf_getS C (n := 173) fl_RX11_246 ly_96 rfl dX11_worked_170 rfl ?_
            refine rf_iload C (n := 175) (q := 0) dX11_worked_173 rfl rfl ?_
            refine rf_guard (fun h9 => ?_)
            refine rf_iald C (n := 176) ly_118 h9 rfl dX11_worked_175 rfl ?_
            refine rf_callSi C (n := 179) (c_X11_acted G fu _ _ _ _) sw_RX11_253 ⟨by decide, by decide⟩ rfl (Nat.le_of_ble_eq_true rfl) rfl dX11_worked_176 rfl (fun y10 m11 => ?_)
            refine rf_guard (fun h12 => ?_)
            refine rf_iast C (n := 180) ly_118 h12 rfl dX11_worked_179 rfl ?_
            refine rf_letM (fun m13 => ?_)
            exact rf_lv _ [2, 3, 4, 5, 0, 6] rfl (r_X11_worked_180 C K fu _ ih _ _ _ _ _ _)
          · refine rf_aload_n C (n := 122) (q := 1) dX11_worked_121 rfl rfl rfl ?_
            refine rf_getS C (n := 125) fl_RX11_246 ly_96 rfl dX11_worked_122 rfl ?_
            refine rf_iload C (n := 127) (q := 5) dX11_worked_125 rfl rfl ?_
            refine rf_iconst C (n := 128) (v := 1) dX11_worked_127 rfl (by decide) ?_
            refine rf_isub C (n := 129) dX11_worked_128 rfl ?_
            refine rf_aload_n C (n := 130) (q := 1) dX11_worked_129 rfl rfl rfl ?_
            refine rf_getS C (n := 133) fl_RX11_246 ly_96 rfl dX11_worked_130 rfl ?_
            refine rf_iload C (n := 135) (q := 5) dX11_worked_133 rfl rfl ?_
            refine rf_iconst C (n := 136) (v := 1) dX11_worked_135 rfl (by decide) ?_
            refine rf_isub C (n := 137) dX11_worked_136 rfl ?_
            refine rf_guard (fun h15 => ?_)
            refine rf_iald C (n := 138) ly_118 h15 rfl dX11_worked_137 rfl ?_
            refine rf_ineg C (n := 139) dX11_worked_138 rfl ?_
            refine rf_guard (fun h16 => ?_)
            refine rf_iast C (n := 140) ly_118 h16 rfl dX11_worked_139 rfl ?_
            refine rf_letM (fun m17 => ?_)
            refine rf_goto C (n := 180) dX11_worked_140 (by decide) ?_
            exact rf_lv _ [1, 2, 3, 4, 5, 6] rfl (r_X11_worked_180 C K fu _ ih _ _ _ _ _ _)
        · refine rf_aload_n C (n := 82) (q := 1) dX11_worked_81 rfl rfl rfl ?_
          refine rf_getS C (n := 85) fl_RX11_246 ly_96 rfl dX11_worked_82 rfl ?_
          refine rf_iload C (n := 87) (q := 5) dX11_worked_85 rfl rfl ?_
          refine rf_iconst C (n := 88) (v := 1) dX11_worked_87 rfl (by decide) ?_
          refine rf_isub C (n := 89) dX11_worked_88 rfl ?_
          refine rf_aload_n C (n := 90) (q := 1) dX11_worked_89 rfl rfl rfl ?_
          refine rf_getS C (n := 93) fl_RX11_246 ly_96 rfl dX11_worked_90 rfl ?_
          refine rf_iload C (n := 95) (q := 5) dX11_worked_93 rfl rfl ?_
          refine rf_iconst C (n := 96) (v := 1) dX11_worked_95 rfl (by decide) ?_
          refine rf_isub C (n := 97) dX11_worked_96 rfl ?_
          refine rf_guard (fun h18 => ?_)
          refine rf_iald C (n := 98) ly_118 h18 rfl dX11_worked_97 rfl ?_
          refine rf_if_ne C (tgt := 105) (n := 101) dX11_worked_98 (by decide) rfl (fun h19 => ?_) (fun h19 => ?_)
          · refine rf_iconst C (n := 106) (v := 0) dX11_worked_105 rfl (by decide) ?_
            exact rf_lv _ [1, 2, 3, 4, 5, 6] rfl (r_X11_worked_106 C K fu _ ih _ _ _ _ _ _ _ _)
          · refine rf_iconst C (n := 102) (v := 1) dX11_worked_101 rfl (by decide) ?_
            refine rf_goto C (n := 106) dX11_worked_102 (by decide) ?_
            exact rf_lv _ [1, 2, 3, 4, 5, 6] rfl (r_X11_worked_106 C K fu _ ih _ _ _ _ _ _ _ _)
      · refine rf_aload_n C (n := 35) (q := 1) dX11_worked_34 rfl rfl rfl ?_
        refine rf_getS C (n := 38) fl_RX11_246 ly_96 rfl dX11_worked_35 rfl ?_
        refine rf_iload C (n := 40) (q := 5) dX11_worked_38 rfl rfl ?_
        refine rf_iload C (n := 42) (q := 0) dX11_worked_40 rfl rfl ?_
        refine rf_sipush C (n := 45) (v := 1000) dX11_worked_42 rfl (by decide) ?_
        refine rf_icmp_ge C (tgt := 53) (n := 48) dX11_worked_45 (by decide) rfl (fun h24 => ?_) (fun h24 => ?_)
        · refine rf_aload_n C (n := 54) (q := 1) dX11_worked_53 rfl rfl rfl ?_
          refine rf_iload C (n := 56) (q := 0) dX11_worked_54 rfl rfl ?_
          refine rf_sipush C (n := 59) (v := 1000) dX11_worked_56 rfl (by decide) ?_
          refine rf_isub C (n := 60) dX11_worked_59 rfl ?_
          refine rf_iload_n C (n := 61) (q := 2) dX11_worked_60 rfl rfl rfl ?_
          refine rf_iload_n C (n := 62) (q := 3) dX11_worked_61 rfl rfl rfl ?_
          refine rf_iload_n C (n := 63) (q := 4) dX11_worked_62 rfl rfl rfl ?_
          refine rf_callVi C (n := 66) (c_X11_valueOf G fu _ _ _ _ _) mw_RX11_249 ly_96 rfl ⟨by decide, by decide⟩ rfl (Nat.le_of_ble_eq_true rfl) rfl dX11_worked_63 rfl (fun y25 m26 => ?_)
          exact rf_lv _ [1, 2, 3, 4, 5, 6] rfl (r_X11_worked_66 C K fu _ ih _ _ _ _ _ _ _ _)
        · refine rf_iload C (n := 50) (q := 0) dX11_worked_48 rfl rfl ?_
          refine rf_goto C (n := 66) dX11_worked_50 (by decide) ?_
          exact rf_lv _ [1, 2, 3, 4, 5, 6] rfl (r_X11_worked_66 C K fu _ ih _ _ _ _ _ _ _ _)
noncomputable def f_X11_worked (fu : Nat) (x1 : Int32) (x2 : Int32) (x3 : Int32) (m : hM) : Option (Int32 × hM) :=
  f_X11_worked_6 fu fu x1 x2 x3 0 0 m
set_option maxRecDepth 100000 in
set_option maxHeartbeats 4000000 in
theorem c_X11_worked (G : hG) (fu : Nat) (x1 : Int32) (x2 : Int32) (x3 : Int32) (m : hM) : Mt vI G 7 yX11_worked cX11_worked 7 (some .int) [hA G 96, .int x1, .int x2, .int x3] m (f_X11_worked fu x1 x2 x3 m) := by
  refine mt_of (by decide +kernel) (Nat.le_of_ble_eq_true rfl) (fun X C K => ?_)
  have C : Cx G X 7 cX11_worked 7 RX11 (some .int) := C
  show Rf vI G X 0 [(0, hA G 96), (1, .int x1), (2, .int x2), (3, .int x3)] [] m _
  unfold f_X11_worked
  refine rf_iconst C (n := 1) (v := 0) dX11_worked_0 rfl (by decide) ?_
  refine rf_istore C (n := 3) [(4, .int 0), (0, hA G 96), (1, .int x1), (2, .int x2), (3, .int x3)] dX11_worked_1 rfl (by decide) rfl ?_
  refine rf_iconst C (n := 4) (v := 0) dX11_worked_3 rfl (by decide) ?_
  refine rf_istore C (n := 6) [(5, .int 0), (4, .int 0), (0, hA G 96), (1, .int x1), (2, .int x2), (3, .int x3)] dX11_worked_4 rfl (by decide) rfl ?_
  exact rf_lv _ [2, 3, 4, 5, 1, 0] rfl (r_X11_worked_6 C K fu fu _ _ _ _ _ _)
noncomputable def f_X11_isPiece (fu : Nat) (x1 : Int32) (m : hM) : Option (Int32 × hM) :=
  hBd (f_X11_in fu (Int32.toInt64 x1) 0 (Int32.toInt64 ((gI m 96 16) - 1)) m) fun y1 m2 =>
if y1 = 0 ∨ y1 = 1 then (
some (y1, m2)) else none
set_option maxRecDepth 100000 in
set_option maxHeartbeats 4000000 in
theorem c_X11_isPiece (G : hG) (fu : Nat) (x1 : Int32) (m : hM) : Mt vI G 2 yX11_isPiece cX11_isPiece 2 (some .boolean) [hA G 96, .int x1] m (f_X11_isPiece fu x1 m) := by
  refine mt_of (by decide +kernel) (Nat.le_of_ble_eq_true rfl) (fun X C K => ?_)
  have C : Cx G X 2 cX11_isPiece 2 RX11 (some .boolean) := C
  show Rf vI G X 0 [(0, hA G 96), (1, .int x1)] [] m _
  unfold f_X11_isPiece
  refine rf_iload_n C (n := 1) (q := 1) dX11_isPiece_0 rfl rfl rfl ?_
  refine rf_i2l C (n := 2) dX11_isPiece_1 rfl ?_
  refine rf_lconst C (n := 3) (v := 0) dX11_isPiece_2 rfl (by decide) ?_
  refine rf_aload_n C (n := 4) (q := 0) dX11_isPiece_3 rfl rfl rfl ?_
  refine rf_getI C (n := 7) fl_RX11_151 ly_96 rfl dX11_isPiece_4 rfl ?_
  refine rf_iconst C (n := 8) (v := 1) dX11_isPiece_7 rfl (by decide) ?_
  refine rf_isub C (n := 9) dX11_isPiece_8 rfl ?_
  refine rf_i2l C (n := 10) dX11_isPiece_9 rfl ?_
  refine rf_callSi C (n := 13) (c_X11_in G fu _ _ _ _) sw_RX11_25 ⟨by decide, by decide⟩ rfl (Nat.le_of_ble_eq_true rfl) rfl dX11_isPiece_10 rfl (fun y1 m2 => ?_)
  refine rf_guard (fun h3 => ?_)
  exact rf_zret C K (hz_bool h3).1 dX11_isPiece_13
noncomputable def f_X11_value_30 (fu : Nat) (m : hM) : Option (Int32 × hM) :=
  hBd (f_X11_refuse fu m) fun y5 m6 =>
some (y5, m6)
set_option maxRecDepth 100000 in
set_option maxHeartbeats 4000000 in
theorem r_X11_value_30 {G : hG} {X : hX} (C : Cx G X 8 cX11_value 3 RX11 (some .int)) (K : Cr G X) (fu : Nat) (m : hM) : Rf vI G X 30 [(0, hA G 96)] [] m (f_X11_value_30 fu m) := by
  unfold f_X11_value_30
  refine rf_aload_n C (n := 31) (q := 0) dX11_value_30 rfl rfl rfl ?_
  refine rf_callVi C (n := 34) (c_X11_refuse G fu _) mw_RX11_259 ly_96 rfl ⟨by decide, by decide⟩ rfl (Nat.le_of_ble_eq_true rfl) rfl dX11_value_31 rfl (fun y5 m6 => ?_)
  exact rf_iret C K dX11_value_34
noncomputable def f_X11_value (fu : Nat) (x1 : Int32) (x2 : Int32) (m : hM) : Option (Int32 × hM) :=
  hLet (sI m 96 0 0) fun m1 =>
hBd (f_X11_isPiece fu x1 m1) fun y2 m3 =>
if y2 = 0 then (
f_X11_value_30 fu m3) else (
hBd (f_X11_isOffice fu x2 m3) fun y7 m8 =>
if y7 = 0 then (
f_X11_value_30 fu m8) else (
if ¬ (gI m8 117 0) = 0 then (
hBd (f_X11_worked fu x1 x2 ((gI m8 114 0) + 1) m8) fun y11 m12 =>
some (y11, m12)) else (
f_X11_value_30 fu m8)))
set_option maxRecDepth 100000 in
set_option maxHeartbeats 4000000 in
theorem c_X11_value (G : hG) (fu : Nat) (x1 : Int32) (x2 : Int32) (m : hM) : Mt vI G 8 yX11_value cX11_value 3 (some .int) [hA G 96, .int x1, .int x2] m (f_X11_value fu x1 x2 m) := by
  refine mt_of (by decide +kernel) (Nat.le_of_ble_eq_true rfl) (fun X C K => ?_)
  have C : Cx G X 8 cX11_value 3 RX11 (some .int) := C
  show Rf vI G X 0 [(0, hA G 96), (1, .int x1), (2, .int x2)] [] m _
  unfold f_X11_value
  refine rf_aload_n C (n := 1) (q := 0) dX11_value_0 rfl rfl rfl ?_
  refine rf_iconst C (n := 2) (v := 0) dX11_value_1 rfl (by decide) ?_
  refine rf_putI C (n := 5) pl_RX11_3 ly_96 rfl ⟨rfl, rfl⟩ dX11_value_2 rfl ?_
  refine rf_letM (fun m1 => ?_)
  refine rf_aload_n C (n := 6) (q := 0) dX11_value_5 rfl rfl rfl ?_
  refine rf_iload_n C (n := 7) (q := 1) dX11_value_6 rfl rfl rfl ?_
  refine rf_callVi C (n := 10) (c_X11_isPiece G fu _ _) mw_RX11_256 ly_96 rfl ⟨by decide, by decide⟩ rfl (Nat.le_of_ble_eq_true rfl) rfl dX11_value_7 rfl (fun y2 m3 => ?_)
  refine rf_if_eq C (tgt := 30) (n := 13) dX11_value_10 (by decide) rfl (fun h4 => ?_) (fun h4 => ?_)
  · exact rf_lv _ [0] rfl (r_X11_value_30 C K fu _)
  · refine rf_aload_n C (n := 14) (q := 0) dX11_value_13 rfl rfl rfl ?_
    refine rf_iload_n C (n := 15) (q := 2) dX11_value_14 rfl rfl rfl ?_
    refine rf_callVi C (n := 18) (c_X11_isOffice G fu _ _) mw_RX11_77 ly_96 rfl ⟨by decide, by decide⟩ rfl (Nat.le_of_ble_eq_true rfl) rfl dX11_value_15 rfl (fun y7 m8 => ?_)
    refine rf_if_eq C (tgt := 30) (n := 21) dX11_value_18 (by decide) rfl (fun h9 => ?_) (fun h9 => ?_)
    · exact rf_lv _ [0] rfl (r_X11_value_30 C K fu _)
    · refine rf_aload_n C (n := 22) (q := 0) dX11_value_21 rfl rfl rfl ?_
      refine rf_getS C (n := 25) fl_RX11_199 ly_96 rfl dX11_value_22 rfl ?_
      refine rf_iconst C (n := 26) (v := 0) dX11_value_25 rfl (by decide) ?_
      refine rf_iald C (n := 27) (j := 0) ly_117 (by decide) (by decide) dX11_value_26 rfl ?_
      refine rf_if_ne C (tgt := 35) (n := 30) dX11_value_27 (by decide) rfl (fun h10 => ?_) (fun h10 => ?_)
      · refine rf_aload_n C (n := 36) (q := 0) dX11_value_35 rfl rfl rfl ?_
        refine rf_iload_n C (n := 37) (q := 1) dX11_value_36 rfl rfl rfl ?_
        refine rf_iload_n C (n := 38) (q := 2) dX11_value_37 rfl rfl rfl ?_
        refine rf_aload_n C (n := 39) (q := 0) dX11_value_38 rfl rfl rfl ?_
        refine rf_getS C (n := 42) fl_RX11_140 ly_96 rfl dX11_value_39 rfl ?_
        refine rf_iconst C (n := 43) (v := 0) dX11_value_42 rfl (by decide) ?_
        refine rf_iald C (n := 44) (j := 0) ly_114 (by decide) (by decide) dX11_value_43 rfl ?_
        refine rf_iconst C (n := 45) (v := 1) dX11_value_44 rfl (by decide) ?_
        refine rf_iadd C (n := 46) dX11_value_45 rfl ?_
        refine rf_callVi C (n := 49) (c_X11_worked G fu _ _ _ _) mw_RX11_262 ly_96 rfl ⟨by decide, by decide⟩ rfl (Nat.le_of_ble_eq_true rfl) rfl dX11_value_46 rfl (fun y11 m12 => ?_)
        exact rf_iret C K dX11_value_49
      · exact rf_lv _ [0] rfl (r_X11_value_30 C K fu _)
noncomputable def f_X11_isDone (fu : Nat) (x1 : Int32) (m : hM) : Option (Int32 × hM) :=
  if hIn (35 + x1) 127 then (
if (gI m 114 (Int32.toNatClampNeg (35 + x1))) < 0 then (
some (0, m)) else (
some (1, m))) else none
set_option maxRecDepth 100000 in
set_option maxHeartbeats 4000000 in
theorem c_X11_isDone (G : hG) (fu : Nat) (x1 : Int32) (m : hM) : Mt vI G 1 yX11_isDone cX11_isDone 2 (some .boolean) [hA G 96, .int x1] m (f_X11_isDone fu x1 m) := by
  refine mt_of (by decide +kernel) (Nat.le_of_ble_eq_true rfl) (fun X C K => ?_)
  have C : Cx G X 1 cX11_isDone 2 RX11 (some .boolean) := C
  show Rf vI G X 0 [(0, hA G 96), (1, .int x1)] [] m _
  unfold f_X11_isDone
  refine rf_aload_n C (n := 1) (q := 0) dX11_isDone_0 rfl rfl rfl ?_
  refine rf_getS C (n := 4) fl_RX11_140 ly_96 rfl dX11_isDone_1 rfl ?_
  refine rf_bipush C (n := 6) (v := 35) dX11_isDone_4 rfl (by decide) ?_
  refine rf_iload_n C (n := 7) (q := 1) dX11_isDone_6 rfl rfl rfl ?_
  refine rf_iadd C (n := 8) dX11_isDone_7 rfl ?_
  refine rf_guard (fun h1 => ?_)
  refine rf_iald C (n := 9) ly_114 h1 rfl dX11_isDone_8 rfl ?_
  refine rf_if_lt C (tgt := 16) (n := 12) dX11_isDone_9 (by decide) rfl (fun h2 => ?_) (fun h2 => ?_)
  · refine rf_iconst C (n := 17) (v := 0) dX11_isDone_16 rfl (by decide) ?_
    exact rf_zret C K (by decide) dX11_isDone_17
  · refine rf_iconst C (n := 13) (v := 1) dX11_isDone_12 rfl (by decide) ?_
    refine rf_goto C (n := 17) dX11_isDone_13 (by decide) ?_
    exact rf_zret C K (by decide) dX11_isDone_17
noncomputable def f_X11_isReady_51 (fu : Nat) (k16 : Int32 → Int32 → Int32 → hM → Option (Int32 × hM)) (x1 : Int32) (x3 : Int32) (s0 : Int32) (m : hM) : Option (Int32 × hM) :=
  hLet (x3 + 1) fun y7 =>
k16 x1 s0 y7 m
set_option maxRecDepth 100000 in
set_option maxHeartbeats 4000000 in
theorem r_X11_isReady_51 {G : hG} {X : hX} (C : Cx G X 2 cX11_isReady 4 RX11 (some .boolean)) (K : Cr G X) (fu : Nat) (k16 : Int32 → Int32 → Int32 → hM → Option (Int32 × hM)) (hk16 : ∀ (x1 : Int32) (x2 : Int32) (x3 : Int32) (m : hM), Rf vI G X 16 [(0, hA G 96), (1, .int x1), (2, .int x2), (3, .int x3)] [] m (k16 x1 x2 x3 m)) (x1 : Int32) (x3 : Int32) (s0 : Int32) (m : hM) : Rf vI G X 51 [(0, hA G 96), (1, .int x1), (3, .int x3)] [.int s0] m (f_X11_isReady_51 fu k16 x1 x3 s0 m) := by
  unfold f_X11_isReady_51
  refine rf_istore_n C (n := 52) [(2, .int s0), (0, hA G 96), (1, .int x1), (3, .int x3)] dX11_isReady_51 rfl rfl (by decide) rfl ?_
  refine rf_iinc2 C (n := 55) (q := 3) (fun y7 => [(3, .int y7), (2, .int s0), (0, hA G 96), (1, .int x1)]) dX11_isReady_52 rfl rfl (by decide) (by decide) (fun _ => rfl) (fun y7 => ?_)
  refine rf_goto C (n := 16) dX11_isReady_55 (by decide) ?_
  exact rf_lv _ [2, 3, 1, 0] rfl (hk16 _ _ _ _)
noncomputable def f_X11_isReady_50 (fu : Nat) (k16 : Int32 → Int32 → Int32 → hM → Option (Int32 × hM)) (x1 : Int32) (x3 : Int32) (m : hM) : Option (Int32 × hM) :=
  f_X11_isReady_51 fu k16 x1 x3 0 m
set_option maxRecDepth 100000 in
set_option maxHeartbeats 4000000 in
theorem r_X11_isReady_50 {G : hG} {X : hX} (C : Cx G X 2 cX11_isReady 4 RX11 (some .boolean)) (K : Cr G X) (fu : Nat) (k16 : Int32 → Int32 → Int32 → hM → Option (Int32 × hM)) (hk16 : ∀ (x1 : Int32) (x2 : Int32) (x3 : Int32) (m : hM), Rf vI G X 16 [(0, hA G 96), (1, .int x1), (2, .int x2), (3, .int x3)] [] m (k16 x1 x2 x3 m)) (x1 : Int32) (x3 : Int32) (m : hM) : Rf vI G X 50 [(0, hA G 96), (1, .int x1), (3, .int x3)] [] m (f_X11_isReady_50 fu k16 x1 x3 m) := by
  unfold f_X11_isReady_50
  refine rf_iconst C (n := 51) (v := 0) dX11_isReady_50 rfl (by decide) ?_
  exact rf_lv _ [0, 1, 2] rfl (r_X11_isReady_51 C K fu _ hk16 _ _ _ _)
noncomputable def f_X11_isReady_46 (fu : Nat) (k16 : Int32 → Int32 → Int32 → hM → Option (Int32 × hM)) (x1 : Int32) (x3 : Int32) (m : hM) : Option (Int32 × hM) :=
  f_X11_isReady_51 fu k16 x1 x3 1 m
set_option maxRecDepth 100000 in
set_option maxHeartbeats 4000000 in
theorem r_X11_isReady_46 {G : hG} {X : hX} (C : Cx G X 2 cX11_isReady 4 RX11 (some .boolean)) (K : Cr G X) (fu : Nat) (k16 : Int32 → Int32 → Int32 → hM → Option (Int32 × hM)) (hk16 : ∀ (x1 : Int32) (x2 : Int32) (x3 : Int32) (m : hM), Rf vI G X 16 [(0, hA G 96), (1, .int x1), (2, .int x2), (3, .int x3)] [] m (k16 x1 x2 x3 m)) (x1 : Int32) (x3 : Int32) (m : hM) : Rf vI G X 46 [(0, hA G 96), (1, .int x1), (3, .int x3)] [] m (f_X11_isReady_46 fu k16 x1 x3 m) := by
  unfold f_X11_isReady_46
  refine rf_iconst C (n := 47) (v := 1) dX11_isReady_46 rfl (by decide) ?_
  refine rf_goto C (n := 51) dX11_isReady_47 (by decide) ?_
  exact rf_lv _ [0, 1, 2] rfl (r_X11_isReady_51 C K fu _ hk16 _ _ _ _)
noncomputable def s_X11_isReady_16 (fu : Nat) (ih : Int32 → Int32 → Int32 → hM → Option (Int32 × hM)) (x1 : Int32) (x2 : Int32) (x3 : Int32) (m : hM) : Option (Int32 × hM) :=
  if x1 ≤ x3 then (
if x2 = 0 ∨ x2 = 1 then (
some (x2, m)) else none) else (
if x2 = 0 then (
f_X11_isReady_50 fu ih x1 x3 m) else (
if hIn x1 8 then (
hBd (f_X11_has fu (gI m 110 (Int32.toNatClampNeg x1)) x3 m) fun y9 m10 =>
if y9 = 0 then (
f_X11_isReady_46 fu ih x1 x3 m10) else (
hBd (f_X11_isDone fu x3 m10) fun y12 m13 =>
if y12 = 0 then (
f_X11_isReady_50 fu ih x1 x3 m13) else (
f_X11_isReady_46 fu ih x1 x3 m13))) else none))
noncomputable def f_X11_isReady_16 (fu : Nat) (n : Nat) : Int32 → Int32 → Int32 → hM → Option (Int32 × hM) :=
  Nat.rec (motive := fun _ => Int32 → Int32 → Int32 → hM → Option (Int32 × hM)) (fun _ _ _ _ => none) (fun _ ih => s_X11_isReady_16 fu ih) n
theorem f_X11_isReady_16_s (fu : Nat) (n : Nat) (x1 : Int32) (x2 : Int32) (x3 : Int32) (m : hM) : f_X11_isReady_16 fu (n + 1) x1 x2 x3 m = s_X11_isReady_16 fu (f_X11_isReady_16 fu n) x1 x2 x3 m := rfl
set_option maxRecDepth 100000 in
set_option maxHeartbeats 4000000 in
theorem r_X11_isReady_16 {G : hG} {X : hX} (C : Cx G X 2 cX11_isReady 4 RX11 (some .boolean)) (K : Cr G X) (fu : Nat) (n : Nat) : ∀ (x1 : Int32) (x2 : Int32) (x3 : Int32) (m : hM), Rf vI G X 16 [(0, hA G 96), (1, .int x1), (2, .int x2), (3, .int x3)] [] m (f_X11_isReady_16 fu n x1 x2 x3 m) := by
  induction n with
  | zero => intros; exact rf_none
  | succ n ih =>
    intro x1 x2 x3 m
    show Rf vI G X 16 [(0, hA G 96), (1, .int x1), (2, .int x2), (3, .int x3)] [] m (s_X11_isReady_16 fu (f_X11_isReady_16 fu n) x1 x2 x3 m)
    unfold s_X11_isReady_16
    refine rf_iload_n C (n := 17) (q := 3) dX11_isReady_16 rfl rfl rfl ?_
    refine rf_iload_n C (n := 18) (q := 1) dX11_isReady_17 rfl rfl rfl ?_
    refine rf_icmp_ge C (tgt := 58) (n := 21) dX11_isReady_18 (by decide) rfl (fun h4 => ?_) (fun h4 => ?_)
    · refine rf_iload_n C (n := 59) (q := 2) dX11_isReady_58 rfl rfl rfl ?_
      refine rf_guard (fun h5 => ?_)
      exact rf_zret C K (hz_bool h5).1 dX11_isReady_59
    · refine rf_iload_n C (n := 22) (q := 2) dX11_isReady_21 rfl rfl rfl ?_
      refine rf_if_eq C (tgt := 50) (n := 25) dX11_isReady_22 (by decide) rfl (fun h6 => ?_) (fun h6 => ?_)
      · exact rf_lv _ [0, 1, 3] rfl (r_X11_isReady_50 C K fu _ ih _ _ _)
      · refine rf_aload_n C (n := 26) (q := 0) dX11_isReady_25 rfl rfl rfl ?_
        refine rf_getS C (n := 29) fl_RX11_160 ly_96 rfl dX11_isReady_26 rfl ?_
        refine rf_iload_n C (n := 30) (q := 1) dX11_isReady_29 rfl rfl rfl ?_
        refine rf_guard (fun h8 => ?_)
        refine rf_iald C (n := 31) ly_110 h8 rfl dX11_isReady_30 rfl ?_
        refine rf_iload_n C (n := 32) (q := 3) dX11_isReady_31 rfl rfl rfl ?_
        refine rf_callSi C (n := 35) (c_X11_has G fu _ _ _) sw_RX11_137 ⟨by decide, by decide⟩ rfl (Nat.le_of_ble_eq_true rfl) rfl dX11_isReady_32 rfl (fun y9 m10 => ?_)
        refine rf_if_eq C (tgt := 46) (n := 38) dX11_isReady_35 (by decide) rfl (fun h11 => ?_) (fun h11 => ?_)
        · exact rf_lv _ [0, 1, 3] rfl (r_X11_isReady_46 C K fu _ ih _ _ _)
        · refine rf_aload_n C (n := 39) (q := 0) dX11_isReady_38 rfl rfl rfl ?_
          refine rf_iload_n C (n := 40) (q := 3) dX11_isReady_39 rfl rfl rfl ?_
          refine rf_callVi C (n := 43) (c_X11_isDone G fu _ _) mw_RX11_265 ly_96 rfl ⟨by decide, by decide⟩ rfl (Nat.le_of_ble_eq_true rfl) rfl dX11_isReady_40 rfl (fun y12 m13 => ?_)
          refine rf_if_eq C (tgt := 50) (n := 46) dX11_isReady_43 (by decide) rfl (fun h14 => ?_) (fun h14 => ?_)
          · exact rf_lv _ [0, 1, 3] rfl (r_X11_isReady_50 C K fu _ ih _ _ _)
          · exact rf_lv _ [0, 1, 3] rfl (r_X11_isReady_46 C K fu _ ih _ _ _)
noncomputable def f_X11_isReady_13 (fu : Nat) (x1 : Int32) (s0 : Int32) (m : hM) : Option (Int32 × hM) :=
  f_X11_isReady_16 fu fu x1 s0 0 m
set_option maxRecDepth 100000 in
set_option maxHeartbeats 4000000 in
theorem r_X11_isReady_13 {G : hG} {X : hX} (C : Cx G X 2 cX11_isReady 4 RX11 (some .boolean)) (K : Cr G X) (fu : Nat) (x1 : Int32) (s0 : Int32) (m : hM) : Rf vI G X 13 [(0, hA G 96), (1, .int x1)] [.int s0] m (f_X11_isReady_13 fu x1 s0 m) := by
  unfold f_X11_isReady_13
  refine rf_istore_n C (n := 14) [(2, .int s0), (0, hA G 96), (1, .int x1)] dX11_isReady_13 rfl rfl (by decide) rfl ?_
  refine rf_iconst C (n := 15) (v := 0) dX11_isReady_14 rfl (by decide) ?_
  refine rf_istore_n C (n := 16) [(3, .int 0), (2, .int s0), (0, hA G 96), (1, .int x1)] dX11_isReady_15 rfl rfl (by decide) rfl ?_
  exact rf_lv _ [2, 3, 1, 0] rfl (r_X11_isReady_16 C K fu fu _ _ _ _)
noncomputable def f_X11_isReady (fu : Nat) (x1 : Int32) (m : hM) : Option (Int32 × hM) :=
  hBd (f_X11_isDone fu x1 m) fun y1 m2 =>
if ¬ y1 = 0 then (
f_X11_isReady_13 fu x1 0 m2) else (
f_X11_isReady_13 fu x1 1 m2)
set_option maxRecDepth 100000 in
set_option maxHeartbeats 4000000 in
theorem c_X11_isReady (G : hG) (fu : Nat) (x1 : Int32) (m : hM) : Mt vI G 2 yX11_isReady cX11_isReady 4 (some .boolean) [hA G 96, .int x1] m (f_X11_isReady fu x1 m) := by
  refine mt_of (by decide +kernel) (Nat.le_of_ble_eq_true rfl) (fun X C K => ?_)
  have C : Cx G X 2 cX11_isReady 4 RX11 (some .boolean) := C
  show Rf vI G X 0 [(0, hA G 96), (1, .int x1)] [] m _
  unfold f_X11_isReady
  refine rf_aload_n C (n := 1) (q := 0) dX11_isReady_0 rfl rfl rfl ?_
  refine rf_iload_n C (n := 2) (q := 1) dX11_isReady_1 rfl rfl rfl ?_
  refine rf_callVi C (n := 5) (c_X11_isDone G fu _ _) mw_RX11_265 ly_96 rfl ⟨by decide, by decide⟩ rfl (Nat.le_of_ble_eq_true rfl) rfl dX11_isReady_2 rfl (fun y1 m2 => ?_)
  refine rf_if_ne C (tgt := 12) (n := 8) dX11_isReady_5 (by decide) rfl (fun h3 => ?_) (fun h3 => ?_)
  · refine rf_iconst C (n := 13) (v := 0) dX11_isReady_12 rfl (by decide) ?_
    exact rf_lv _ [0, 1] rfl (r_X11_isReady_13 C K fu _ _ _)
  · refine rf_iconst C (n := 9) (v := 1) dX11_isReady_8 rfl (by decide) ?_
    refine rf_goto C (n := 13) dX11_isReady_9 (by decide) ?_
    exact rf_lv _ [0, 1] rfl (r_X11_isReady_13 C K fu _ _ _)
noncomputable def f_X11_readyBits_28 (fu : Nat) (k4 : Int32 → Int32 → hM → Option (Int32 × hM)) (x2 : Int32) (s0 : Int32) (s1 : Int32) (m : hM) : Option (Int32 × hM) :=
  hLet (s0 ||| s1) fun y5 =>
hLet (x2 + 1) fun y6 =>
k4 y5 y6 m
set_option maxRecDepth 100000 in
set_option maxHeartbeats 4000000 in
theorem r_X11_readyBits_28 {G : hG} {X : hX} (C : Cx G X 3 cX11_readyBits 3 RX11 (some .int)) (K : Cr G X) (fu : Nat) (k4 : Int32 → Int32 → hM → Option (Int32 × hM)) (hk4 : ∀ (x1 : Int32) (x2 : Int32) (m : hM), Rf vI G X 4 [(0, hA G 96), (1, .int x1), (2, .int x2)] [] m (k4 x1 x2 m)) (x2 : Int32) (s0 : Int32) (s1 : Int32) (m : hM) : Rf vI G X 28 [(0, hA G 96), (2, .int x2)] [.int s1, .int s0] m (f_X11_readyBits_28 fu k4 x2 s0 s1 m) := by
  unfold f_X11_readyBits_28
  refine rf_ior C (n := 29) dX11_readyBits_28 rfl ?_
  refine rf_letI (fun y5 => ?_)
  refine rf_istore_n C (n := 30) [(1, .int y5), (0, hA G 96), (2, .int x2)] dX11_readyBits_29 rfl rfl (by decide) rfl ?_
  refine rf_iinc2 C (n := 33) (q := 2) (fun y6 => [(2, .int y6), (1, .int y5), (0, hA G 96)]) dX11_readyBits_30 rfl rfl (by decide) (by decide) (fun _ => rfl) (fun y6 => ?_)
  refine rf_goto C (n := 4) dX11_readyBits_33 (by decide) ?_
  exact rf_lv _ [2, 1, 0] rfl (hk4 _ _ _)
noncomputable def s_X11_readyBits_4 (fu : Nat) (ih : Int32 → Int32 → hM → Option (Int32 × hM)) (x1 : Int32) (x2 : Int32) (m : hM) : Option (Int32 × hM) :=
  if (gI m 96 16) ≤ x2 then (
some (x1, m)) else (
hBd (f_X11_isReady fu x2 m) fun y2 m3 =>
if y2 = 0 then (
f_X11_readyBits_28 fu ih x2 x1 0 m3) else (
f_X11_readyBits_28 fu ih x2 x1 (1 <<< (x2 &&& 31)) m3))
noncomputable def f_X11_readyBits_4 (fu : Nat) (n : Nat) : Int32 → Int32 → hM → Option (Int32 × hM) :=
  Nat.rec (motive := fun _ => Int32 → Int32 → hM → Option (Int32 × hM)) (fun _ _ _ => none) (fun _ ih => s_X11_readyBits_4 fu ih) n
theorem f_X11_readyBits_4_s (fu : Nat) (n : Nat) (x1 : Int32) (x2 : Int32) (m : hM) : f_X11_readyBits_4 fu (n + 1) x1 x2 m = s_X11_readyBits_4 fu (f_X11_readyBits_4 fu n) x1 x2 m := rfl
set_option maxRecDepth 100000 in
set_option maxHeartbeats 4000000 in
theorem r_X11_readyBits_4 {G : hG} {X : hX} (C : Cx G X 3 cX11_readyBits 3 RX11 (some .int)) (K : Cr G X) (fu : Nat) (n : Nat) : ∀ (x1 : Int32) (x2 : Int32) (m : hM), Rf vI G X 4 [(0, hA G 96), (1, .int x1), (2, .int x2)] [] m (f_X11_readyBits_4 fu n x1 x2 m) := by
  induction n with
  | zero => intros; exact rf_none
  | succ n ih =>
    intro x1 x2 m
    show Rf vI G X 4 [(0, hA G 96), (1, .int x1), (2, .int x2)] [] m (s_X11_readyBits_4 fu (f_X11_readyBits_4 fu n) x1 x2 m)
    unfold s_X11_readyBits_4
    refine rf_iload_n C (n := 5) (q := 2) dX11_readyBits_4 rfl rfl rfl ?_
    refine rf_aload_n C (n := 6) (q := 0) dX11_readyBits_5 rfl rfl rfl ?_
    refine rf_getI C (n := 9) fl_RX11_151 ly_96 rfl dX11_readyBits_6 rfl ?_
    refine rf_icmp_ge C (tgt := 36) (n := 12) dX11_readyBits_9 (by decide) rfl (fun h1 => ?_) (fun h1 => ?_)
    · refine rf_iload_n C (n := 37) (q := 1) dX11_readyBits_36 rfl rfl rfl ?_
      exact rf_iret C K dX11_readyBits_37
    · refine rf_iload_n C (n := 13) (q := 1) dX11_readyBits_12 rfl rfl rfl ?_
      refine rf_aload_n C (n := 14) (q := 0) dX11_readyBits_13 rfl rfl rfl ?_
      refine rf_iload_n C (n := 15) (q := 2) dX11_readyBits_14 rfl rfl rfl ?_
      refine rf_callVi C (n := 18) (c_X11_isReady G fu _ _) mw_RX11_268 ly_96 rfl ⟨by decide, by decide⟩ rfl (Nat.le_of_ble_eq_true rfl) rfl dX11_readyBits_15 rfl (fun y2 m3 => ?_)
      refine rf_if_eq C (tgt := 27) (n := 21) dX11_readyBits_18 (by decide) rfl (fun h4 => ?_) (fun h4 => ?_)
      · refine rf_iconst C (n := 28) (v := 0) dX11_readyBits_27 rfl (by decide) ?_
        exact rf_lv _ [0, 2] rfl (r_X11_readyBits_28 C K fu _ ih _ _ _ _)
      · refine rf_iconst C (n := 22) (v := 1) dX11_readyBits_21 rfl (by decide) ?_
        refine rf_iload_n C (n := 23) (q := 2) dX11_readyBits_22 rfl rfl rfl ?_
        refine rf_ishl C (n := 24) dX11_readyBits_23 rfl ?_
        refine rf_goto C (n := 28) dX11_readyBits_24 (by decide) ?_
        exact rf_lv _ [0, 2] rfl (r_X11_readyBits_28 C K fu _ ih _ _ _ _)
noncomputable def f_X11_readyBits (fu : Nat) (m : hM) : Option (Int32 × hM) :=
  f_X11_readyBits_4 fu fu 0 0 m
set_option maxRecDepth 100000 in
set_option maxHeartbeats 4000000 in
theorem c_X11_readyBits (G : hG) (fu : Nat) (m : hM) : Mt vI G 3 yX11_readyBits cX11_readyBits 3 (some .int) [hA G 96] m (f_X11_readyBits fu m) := by
  refine mt_of (by decide +kernel) (Nat.le_of_ble_eq_true rfl) (fun X C K => ?_)
  have C : Cx G X 3 cX11_readyBits 3 RX11 (some .int) := C
  show Rf vI G X 0 [(0, hA G 96)] [] m _
  unfold f_X11_readyBits
  refine rf_iconst C (n := 1) (v := 0) dX11_readyBits_0 rfl (by decide) ?_
  refine rf_istore_n C (n := 2) [(1, .int 0), (0, hA G 96)] dX11_readyBits_1 rfl rfl (by decide) rfl ?_
  refine rf_iconst C (n := 3) (v := 0) dX11_readyBits_2 rfl (by decide) ?_
  refine rf_istore_n C (n := 4) [(2, .int 0), (1, .int 0), (0, hA G 96)] dX11_readyBits_3 rfl rfl (by decide) rfl ?_
  exact rf_lv _ [2, 1, 0] rfl (r_X11_readyBits_4 C K fu fu _ _ _)
noncomputable def f_X11_asked (fu : Nat) (x1 : Int32) (m : hM) : Option (Int32 × hM) :=
  if (gI m 96 37) = 0 then (
if hIn x1 8 then (
some (gI m 112 (Int32.toNatClampNeg x1), m)) else none) else (
some ((-1), m))
set_option maxRecDepth 100000 in
set_option maxHeartbeats 4000000 in
theorem c_X11_asked (G : hG) (fu : Nat) (x1 : Int32) (m : hM) : Mt vI G 1 yX11_asked cX11_asked 2 (some .int) [hA G 96, .int x1] m (f_X11_asked fu x1 m) := by
  refine mt_of (by decide +kernel) (Nat.le_of_ble_eq_true rfl) (fun X C K => ?_)
  have C : Cx G X 1 cX11_asked 2 RX11 (some .int) := C
  show Rf vI G X 0 [(0, hA G 96), (1, .int x1)] [] m _
  unfold f_X11_asked
  refine rf_aload_n C (n := 1) (q := 0) dX11_asked_0 rfl rfl rfl ?_
  refine rf_getI C (n := 4) fl_RX11_271 ly_96 rfl dX11_asked_1 rfl ?_
  refine rf_if_eq C (tgt := 11) (n := 7) dX11_asked_4 (by decide) rfl (fun h1 => ?_) (fun h1 => ?_)
  · refine rf_aload_n C (n := 12) (q := 0) dX11_asked_11 rfl rfl rfl ?_
    refine rf_getS C (n := 15) fl_RX11_163 ly_96 rfl dX11_asked_12 rfl ?_
    refine rf_iload_n C (n := 16) (q := 1) dX11_asked_15 rfl rfl rfl ?_
    refine rf_guard (fun h2 => ?_)
    refine rf_iald C (n := 17) ly_112 h2 rfl dX11_asked_16 rfl ?_
    exact rf_iret C K dX11_asked_17
  · refine rf_iconst C (n := 8) (v := (-1)) dX11_asked_7 rfl (by decide) ?_
    refine rf_goto C (n := 17) dX11_asked_8 (by decide) ?_
    exact rf_iret C K dX11_asked_17
noncomputable def f_X11_works_343 (fu : Nat) (k50 : Int32 → Int32 → hM → Option (Unit × hM)) (x1 : Int32) (x2 : Int32) (m : hM) : Option (Unit × hM) :=
  hLet (x2 + 1) fun y19 =>
k50 x1 y19 m
set_option maxRecDepth 100000 in
set_option maxHeartbeats 4000000 in
theorem r_X11_works_343 {G : hG} {X : hX} (C : Cx G X 4 cX11_works 4 RX11 none) (K : Cr G X) (fu : Nat) (k50 : Int32 → Int32 → hM → Option (Unit × hM)) (hk50 : ∀ (x1 : Int32) (x2 : Int32) (m : hM), Rf vU G X 50 [(0, hA G 96), (1, .int x1), (2, .int x2)] [] m (k50 x1 x2 m)) (x1 : Int32) (x2 : Int32) (m : hM) : Rf vU G X 343 [(0, hA G 96), (1, .int x1), (2, .int x2)] [] m (f_X11_works_343 fu k50 x1 x2 m) := by
  unfold f_X11_works_343
  refine rf_iinc2 C (n := 346) (q := 2) (fun y19 => [(2, .int y19), (0, hA G 96), (1, .int x1)]) dX11_works_343 rfl rfl (by decide) (by decide) (fun _ => rfl) (fun y19 => ?_)
  refine rf_goto C (n := 50) dX11_works_346 (by decide) ?_
  exact rf_lv _ [1, 2, 0] rfl (hk50 _ _ _)
noncomputable def f_X11_works_142 (fu : Nat) (k50 : Int32 → Int32 → hM → Option (Unit × hM)) (x1 : Int32) (x2 : Int32) (s1 : Int32) (s2 : Int32) (m : hM) : Option (Unit × hM) :=
  hBd (f_X11_flag fu s2 m) fun y61 m62 =>
if hIn s1 127 then (
hLet (sI m62 114 (Int32.toNatClampNeg s1) y61) fun m64 =>
f_X11_works_343 fu k50 x1 x2 m64) else none
set_option maxRecDepth 100000 in
set_option maxHeartbeats 4000000 in
theorem r_X11_works_142 {G : hG} {X : hX} (C : Cx G X 4 cX11_works 4 RX11 none) (K : Cr G X) (fu : Nat) (k50 : Int32 → Int32 → hM → Option (Unit × hM)) (hk50 : ∀ (x1 : Int32) (x2 : Int32) (m : hM), Rf vU G X 50 [(0, hA G 96), (1, .int x1), (2, .int x2)] [] m (k50 x1 x2 m)) (x1 : Int32) (x2 : Int32) (s1 : Int32) (s2 : Int32) (m : hM) : Rf vU G X 142 [(0, hA G 96), (1, .int x1), (2, .int x2)] [.int s2, .int s1, hA G 114] m (f_X11_works_142 fu k50 x1 x2 s1 s2 m) := by
  unfold f_X11_works_142
  refine rf_callSi C (n := 145) (c_X11_flag G fu _ _) sw_RX11_124 ⟨by decide, by decide⟩ rfl (Nat.le_of_ble_eq_true rfl) rfl dX11_works_142 rfl (fun y61 m62 => ?_)
  refine rf_guard (fun h63 => ?_)
  refine rf_iast C (n := 146) ly_114 h63 rfl dX11_works_145 rfl ?_
  refine rf_letM (fun m64 => ?_)
  refine rf_goto C (n := 343) dX11_works_146 (by decide) ?_
  exact rf_lv _ [0, 1, 2] rfl (r_X11_works_343 C K fu _ hk50 _ _ _)
noncomputable def f_X11_works_137 (fu : Nat) (k50 : Int32 → Int32 → hM → Option (Unit × hM)) (x1 : Int32) (x2 : Int32) (s1 : Int32) (m : hM) : Option (Unit × hM) :=
  f_X11_works_142 fu k50 x1 x2 s1 1 m
set_option maxRecDepth 100000 in
set_option maxHeartbeats 4000000 in
theorem r_X11_works_137 {G : hG} {X : hX} (C : Cx G X 4 cX11_works 4 RX11 none) (K : Cr G X) (fu : Nat) (k50 : Int32 → Int32 → hM → Option (Unit × hM)) (hk50 : ∀ (x1 : Int32) (x2 : Int32) (m : hM), Rf vU G X 50 [(0, hA G 96), (1, .int x1), (2, .int x2)] [] m (k50 x1 x2 m)) (x1 : Int32) (x2 : Int32) (s1 : Int32) (m : hM) : Rf vU G X 137 [(0, hA G 96), (1, .int x1), (2, .int x2)] [.int s1, hA G 114] m (f_X11_works_137 fu k50 x1 x2 s1 m) := by
  unfold f_X11_works_137
  refine rf_iconst C (n := 138) (v := 1) dX11_works_137 rfl (by decide) ?_
  refine rf_goto C (n := 142) dX11_works_138 (by decide) ?_
  exact rf_lv _ [0, 1, 2] rfl (r_X11_works_142 C K fu _ hk50 _ _ _ _ _)
noncomputable def s_X11_works_50 (fu : Nat) (ih : Int32 → Int32 → hM → Option (Unit × hM)) (x1 : Int32) (x2 : Int32) (m : hM) : Option (Unit × hM) :=
  if (gI m 96 16) ≤ x2 then (
some ((), m)) else (
hBd (f_X11_has fu (gI m 96 34) x2 m) fun y9 m10 =>
if ¬ y9 = 0 then (
if hIn (3 + x2) 127 then (
hLet (gI m10 114 (Int32.toNatClampNeg (3 + x2))) fun y13 =>
if hIn (27 + x2) 127 then (
if ¬ (gI m10 114 (Int32.toNatClampNeg (27 + x2))) = 1 then (
hBd (f_X11_isOpen fu y13 x1 m10) fun y16 m17 =>
if y16 = 0 then (
f_X11_works_343 fu ih x1 x2 m17) else (
if hIn y13 6 then (
if hIn x2 8 then (
hBd (f_X11_has fu (gI m17 103 (Int32.toNatClampNeg y13)) (gI m17 108 (Int32.toNatClampNeg x2)) m17) fun y22 m23 =>
if y22 = 0 then (
f_X11_works_343 fu ih x1 x2 m23) else (
if hIn y13 6 then (
if hIn y13 6 then (
if (gI m23 120 (Int32.toNatClampNeg y13)) < (gI m23 102 (Int32.toNatClampNeg y13)) then (
if hIn y13 6 then (
if hIn y13 6 then (
hLet (sI m23 120 (Int32.toNatClampNeg y13) ((gI m23 120 (Int32.toNatClampNeg y13)) + 1)) fun m30 =>
hLet (sI m30 96 36 ((gI m30 96 36) ||| (1 <<< (x2 &&& 31)))) fun m31 =>
if hIn (11 + x2) 127 then (
if hIn (11 + x2) 127 then (
hLet (sI m31 114 (Int32.toNatClampNeg (11 + x2)) ((gI m31 114 (Int32.toNatClampNeg (11 + x2))) - 1)) fun m34 =>
if hIn (19 + x2) 127 then (
if hIn (19 + x2) 127 then (
hLet (sI m34 114 (Int32.toNatClampNeg (19 + x2)) ((gI m34 114 (Int32.toNatClampNeg (19 + x2))) + 1)) fun m37 =>
if hIn (43 + x2) 127 then (
if hIn (43 + x2) 127 then (
hLet (sI m37 114 (Int32.toNatClampNeg (43 + x2)) ((gI m37 114 (Int32.toNatClampNeg (43 + x2))) + 1)) fun m40 =>
if hIn y13 6 then (
hLet (sI m40 114 1 ((gI m40 114 1) + (gI m40 101 (Int32.toNatClampNeg y13)))) fun m42 =>
if hIn (11 + x2) 127 then (
if ¬ (gI m42 114 (Int32.toNatClampNeg (11 + x2))) = 0 then (
hBd (f_X11_asked fu x2 m42) fun y45 m46 =>
if y45 < 0 then (
f_X11_works_343 fu ih x1 x2 m46) else (
if hIn (19 + x2) 127 then (
if hIn x2 8 then (
if ¬ (gI m46 114 (Int32.toNatClampNeg (19 + x2))) = (gI m46 113 (Int32.toNatClampNeg x2)) then (
f_X11_works_343 fu ih x1 x2 m46) else (
if hIn (27 + x2) 127 then (
hLet (sI m46 114 (Int32.toNatClampNeg (27 + x2)) 1) fun m52 =>
if hIn (19 + x2) 127 then (
hLet (sI m52 114 (Int32.toNatClampNeg (19 + x2)) 0) fun m54 =>
f_X11_works_343 fu ih x1 x2 m54) else none) else none)) else none) else none)) else (
if hIn (35 + x2) 127 then (
hLet (sI m42 114 (Int32.toNatClampNeg (35 + x2)) (x1 + 1)) fun m56 =>
f_X11_works_343 fu ih x1 x2 m56) else none)) else none) else none) else none) else none) else none) else none) else none) else none) else none) else none) else (
f_X11_works_343 fu ih x1 x2 m23)) else none) else none)) else none) else none)) else (
hLet (sI m10 96 35 ((gI m10 96 35) ||| (1 <<< (x2 &&& 31)))) fun m57 =>
hBd (f_X11_isOpen fu y13 x1 m57) fun y58 m59 =>
if y58 = 0 then (
f_X11_works_137 fu ih x1 x2 (27 + x2) m59) else (
if hIn x2 8 then (
hBd (f_X11_isOpen fu (gI m59 112 (Int32.toNatClampNeg x2)) x1 m59) fun y66 m67 =>
if ¬ y66 = 0 then (
f_X11_works_142 fu ih x1 x2 (27 + x2) 0 m67) else (
f_X11_works_137 fu ih x1 x2 (27 + x2) m67)) else none))) else none) else none) else (
f_X11_works_343 fu ih x1 x2 m10))
noncomputable def f_X11_works_50 (fu : Nat) (n : Nat) : Int32 → Int32 → hM → Option (Unit × hM) :=
  Nat.rec (motive := fun _ => Int32 → Int32 → hM → Option (Unit × hM)) (fun _ _ _ => none) (fun _ ih => s_X11_works_50 fu ih) n
theorem f_X11_works_50_s (fu : Nat) (n : Nat) (x1 : Int32) (x2 : Int32) (m : hM) : f_X11_works_50 fu (n + 1) x1 x2 m = s_X11_works_50 fu (f_X11_works_50 fu n) x1 x2 m := rfl
set_option maxRecDepth 100000 in
set_option maxHeartbeats 4000000 in
theorem r_X11_works_50 {G : hG} {X : hX} (C : Cx G X 4 cX11_works 4 RX11 none) (K : Cr G X) (fu : Nat) (n : Nat) : ∀ (x1 : Int32) (x2 : Int32) (m : hM), Rf vU G X 50 [(0, hA G 96), (1, .int x1), (2, .int x2)] [] m (f_X11_works_50 fu n x1 x2 m) := by
  induction n with
  | zero => intros; exact rf_none
  | succ n ih =>
    intro x1 x2 m
    show Rf vU G X 50 [(0, hA G 96), (1, .int x1), (2, .int x2)] [] m (s_X11_works_50 fu (f_X11_works_50 fu n) x1 x2 m)
    unfold s_X11_works_50
    refine rf_iload_n C (n := 51) (q := 2) dX11_works_50 rfl rfl rfl ?_
    refine rf_aload_n C (n := 52) (q := 0) dX11_works_51 rfl rfl rfl ?_
    refine rf_getI C (n := 55) fl_RX11_151 ly_96 rfl dX11_works_52 rfl ?_
    refine rf_icmp_ge C (tgt := 349) (n := 58) dX11_works_55 (by decide) rfl (fun h8 => ?_) (fun h8 => ?_)
    · exact rf_vret C K dX11_works_349
    · refine rf_aload_n C (n := 59) (q := 0) dX11_works_58 rfl rfl rfl ?_
      refine rf_getI C (n := 62) fl_RX11_278 ly_96 rfl dX11_works_59 rfl ?_
      refine rf_iload_n C (n := 63) (q := 2) dX11_works_62 rfl rfl rfl ?_
      refine rf_callSi C (n := 66) (c_X11_has G fu _ _ _) sw_RX11_137 ⟨by decide, by decide⟩ rfl (Nat.le_of_ble_eq_true rfl) rfl dX11_works_63 rfl (fun y9 m10 => ?_)
      refine rf_if_ne C (tgt := 72) (n := 69) dX11_works_66 (by decide) rfl (fun h11 => ?_) (fun h11 => ?_)
      · refine rf_aload_n C (n := 73) (q := 0) dX11_works_72 rfl rfl rfl ?_
        refine rf_getS C (n := 76) fl_RX11_140 ly_96 rfl dX11_works_73 rfl ?_
        refine rf_iconst C (n := 77) (v := 3) dX11_works_76 rfl (by decide) ?_
        refine rf_iload_n C (n := 78) (q := 2) dX11_works_77 rfl rfl rfl ?_
        refine rf_iadd C (n := 79) dX11_works_78 rfl ?_
        refine rf_guard (fun h12 => ?_)
        refine rf_iald C (n := 80) ly_114 h12 rfl dX11_works_79 rfl ?_
        refine rf_letI (fun y13 => ?_)
        refine rf_istore_n C (n := 81) [(3, .int y13), (0, hA G 96), (1, .int x1), (2, .int x2)] dX11_works_80 rfl rfl (by decide) rfl ?_
        refine rf_aload_n C (n := 82) (q := 1) dX11_works_81 rfl rfl rfl ?_
        refine rf_getS C (n := 85) fl_RX11_140 ly_96 rfl dX11_works_82 rfl ?_
        refine rf_bipush C (n := 87) (v := 27) dX11_works_85 rfl (by decide) ?_
        refine rf_iload_n C (n := 88) (q := 3) dX11_works_87 rfl rfl rfl ?_
        refine rf_iadd C (n := 89) dX11_works_88 rfl ?_
        refine rf_guard (fun h14 => ?_)
        refine rf_iald C (n := 90) ly_114 h14 rfl dX11_works_89 rfl ?_
        refine rf_iconst C (n := 91) (v := 1) dX11_works_90 rfl (by decide) ?_
        refine rf_icmp_ne C (tgt := 149) (n := 94) dX11_works_91 (by decide) rfl (fun h15 => ?_) (fun h15 => ?_)
        · refine rf_aload_n C (n := 150) (q := 1) dX11_works_149 rfl rfl rfl ?_
          refine rf_iload_n C (n := 151) (q := 0) dX11_works_150 rfl rfl rfl ?_
          refine rf_iload_n C (n := 152) (q := 2) dX11_works_151 rfl rfl rfl ?_
          refine rf_callVi C (n := 155) (c_X11_isOpen G fu _ _ _) mw_RX11_120 ly_96 rfl ⟨by decide, by decide⟩ rfl (Nat.le_of_ble_eq_true rfl) rfl dX11_works_152 rfl (fun y16 m17 => ?_)
          refine rf_if_eq C (tgt := 343) (n := 158) dX11_works_155 (by decide) rfl (fun h18 => ?_) (fun h18 => ?_)
          · exact rf_lv _ [1, 2, 3] rfl (r_X11_works_343 C K fu _ ih _ _ _)
          · refine rf_aload_n C (n := 159) (q := 1) dX11_works_158 rfl rfl rfl ?_
            refine rf_getS C (n := 162) fl_RX11_47 ly_96 rfl dX11_works_159 rfl ?_
            refine rf_iload_n C (n := 163) (q := 0) dX11_works_162 rfl rfl rfl ?_
            refine rf_guard (fun h20 => ?_)
            refine rf_iald C (n := 164) ly_103 h20 rfl dX11_works_163 rfl ?_
            refine rf_aload_n C (n := 165) (q := 1) dX11_works_164 rfl rfl rfl ?_
            refine rf_getS C (n := 168) fl_RX11_154 ly_96 rfl dX11_works_165 rfl ?_
            refine rf_iload_n C (n := 169) (q := 3) dX11_works_168 rfl rfl rfl ?_
            refine rf_guard (fun h21 => ?_)
            refine rf_iald C (n := 170) ly_108 h21 rfl dX11_works_169 rfl ?_
            refine rf_callSi C (n := 173) (c_X11_has G fu _ _ _) sw_RX11_137 ⟨by decide, by decide⟩ rfl (Nat.le_of_ble_eq_true rfl) rfl dX11_works_170 rfl (fun y22 m23 => ?_)
            refine rf_if_eq C (tgt := 343) (n := 176) dX11_works_173 (by decide) rfl (fun h24 => ?_) (fun h24 => ?_)
            · exact rf_lv _ [1, 2, 3] rfl (r_X11_works_343 C K fu _ ih _ _ _)
            · refine rf_aload_n C (n := 177) (q := 1) dX11_works_176 rfl rfl rfl ?_
              refine rf_getS C (n := 180) fl_RX11_287 ly_96 rfl dX11_works_177 rfl ?_
              refine rf_iload_n C (n := 181) (q := 0) dX11_works_180 rfl rfl rfl ?_
              refine rf_guard (fun h25 => ?_)
              refine rf_iald C (n := 182) ly_120 h25 rfl dX11_works_181 rfl ?_
              refine rf_aload_n C (n := 183) (q := 1) dX11_works_182 rfl rfl rfl ?_
              refine rf_getS C (n := 186) fl_RX11_44 ly_96 rfl dX11_works_183 rfl ?_
              refine rf_iload_n C (n := 187) (q := 0) dX11_works_186 rfl rfl rfl ?_
              refine rf_guard (fun h26 => ?_)
              refine rf_iald C (n := 188) ly_102 h26 rfl dX11_works_187 rfl ?_
              refine rf_icmp_lt C (tgt := 194) (n := 191) dX11_works_188 (by decide) rfl (fun h27 => ?_) (fun h27 => ?_)
              · refine rf_aload_n C (n := 195) (q := 1) dX11_works_194 rfl rfl rfl ?_
                refine rf_getS C (n := 198) fl_RX11_287 ly_96 rfl dX11_works_195 rfl ?_
                refine rf_iload_n C (n := 199) (q := 0) dX11_works_198 rfl rfl rfl ?_
                refine rf_dup2 C (n := 200) dX11_works_199 rfl rfl rfl ?_
                refine rf_guard (fun h28 => ?_)
                refine rf_iald C (n := 201) ly_120 h28 rfl dX11_works_200 rfl ?_
                refine rf_iconst C (n := 202) (v := 1) dX11_works_201 rfl (by decide) ?_
                refine rf_iadd C (n := 203) dX11_works_202 rfl ?_
                refine rf_guard (fun h29 => ?_)
                refine rf_iast C (n := 204) ly_120 h29 rfl dX11_works_203 rfl ?_
                refine rf_letM (fun m30 => ?_)
                refine rf_aload_n C (n := 205) (q := 1) dX11_works_204 rfl rfl rfl ?_
                refine rf_dup C (n := 206) dX11_works_205 rfl rfl ?_
                refine rf_getI C (n := 209) fl_RX11_284 ly_96 rfl dX11_works_206 rfl ?_
                refine rf_iconst C (n := 210) (v := 1) dX11_works_209 rfl (by decide) ?_
                refine rf_iload_n C (n := 211) (q := 3) dX11_works_210 rfl rfl rfl ?_
                refine rf_ishl C (n := 212) dX11_works_211 rfl ?_
                refine rf_ior C (n := 213) dX11_works_212 rfl ?_
                refine rf_putI C (n := 216) pl_RX11_284 ly_96 rfl ⟨rfl, rfl⟩ dX11_works_213 rfl ?_
                refine rf_letM (fun m31 => ?_)
                refine rf_aload_n C (n := 217) (q := 1) dX11_works_216 rfl rfl rfl ?_
                refine rf_getS C (n := 220) fl_RX11_140 ly_96 rfl dX11_works_217 rfl ?_
                refine rf_bipush C (n := 222) (v := 11) dX11_works_220 rfl (by decide) ?_
                refine rf_iload_n C (n := 223) (q := 3) dX11_works_222 rfl rfl rfl ?_
                refine rf_iadd C (n := 224) dX11_works_223 rfl ?_
                refine rf_dup2 C (n := 225) dX11_works_224 rfl rfl rfl ?_
                refine rf_guard (fun h32 => ?_)
                refine rf_iald C (n := 226) ly_114 h32 rfl dX11_works_225 rfl ?_
                refine rf_iconst C (n := 227) (v := 1) dX11_works_226 rfl (by decide) ?_
                refine rf_isub C (n := 228) dX11_works_227 rfl ?_
                refine rf_guard (fun h33 => ?_)
                refine rf_iast C (n := 229) ly_114 h33 rfl dX11_works_228 rfl ?_
                refine rf_letM (fun m34 => ?_)
                refine rf_aload_n C (n := 230) (q := 1) dX11_works_229 rfl rfl rfl ?_
                refine rf_getS C (n := 233) fl_RX11_140 ly_96 rfl dX11_works_230 rfl ?_
                refine rf_bipush C (n := 235) (v := 19) dX11_works_233 rfl (by decide) ?_
                refine rf_iload_n C (n := 236) (q := 3) dX11_works_235 rfl rfl rfl ?_
                refine rf_iadd C (n := 237) dX11_works_236 rfl ?_
                refine rf_dup2 C (n := 238) dX11_works_237 rfl rfl rfl ?_
                refine rf_guard (fun h35 => ?_)
                refine rf_iald C (n := 239) ly_114 h35 rfl dX11_works_238 rfl ?_
                refine rf_iconst C (n := 240) (v := 1) dX11_works_239 rfl (by decide) ?_
                refine rf_iadd C (n := 241) dX11_works_240 rfl ?_
                refine rf_guard (fun h36 => ?_)
                refine rf_iast C (n := 242) ly_114 h36 rfl dX11_works_241 rfl ?_
                refine rf_letM (fun m37 => ?_)
                refine rf_aload_n C (n := 243) (q := 1) dX11_works_242 rfl rfl rfl ?_
                refine rf_getS C (n := 246) fl_RX11_140 ly_96 rfl dX11_works_243 rfl ?_
                refine rf_bipush C (n := 248) (v := 43) dX11_works_246 rfl (by decide) ?_
                refine rf_iload_n C (n := 249) (q := 3) dX11_works_248 rfl rfl rfl ?_
                refine rf_iadd C (n := 250) dX11_works_249 rfl ?_
                refine rf_dup2 C (n := 251) dX11_works_250 rfl rfl rfl ?_
                refine rf_guard (fun h38 => ?_)
                refine rf_iald C (n := 252) ly_114 h38 rfl dX11_works_251 rfl ?_
                refine rf_iconst C (n := 253) (v := 1) dX11_works_252 rfl (by decide) ?_
                refine rf_iadd C (n := 254) dX11_works_253 rfl ?_
                refine rf_guard (fun h39 => ?_)
                refine rf_iast C (n := 255) ly_114 h39 rfl dX11_works_254 rfl ?_
                refine rf_letM (fun m40 => ?_)
                refine rf_aload_n C (n := 256) (q := 1) dX11_works_255 rfl rfl rfl ?_
                refine rf_getS C (n := 259) fl_RX11_140 ly_96 rfl dX11_works_256 rfl ?_
                refine rf_iconst C (n := 260) (v := 1) dX11_works_259 rfl (by decide) ?_
                refine rf_dup2 C (n := 261) dX11_works_260 rfl rfl rfl ?_
                refine rf_iald C (n := 262) (j := 1) ly_114 (by decide) (by decide) dX11_works_261 rfl ?_
                refine rf_aload_n C (n := 263) (q := 1) dX11_works_262 rfl rfl rfl ?_
                refine rf_getS C (n := 266) fl_RX11_41 ly_96 rfl dX11_works_263 rfl ?_
                refine rf_iload_n C (n := 267) (q := 0) dX11_works_266 rfl rfl rfl ?_
                refine rf_guard (fun h41 => ?_)
                refine rf_iald C (n := 268) ly_101 h41 rfl dX11_works_267 rfl ?_
                refine rf_iadd C (n := 269) dX11_works_268 rfl ?_
                refine rf_iast C (n := 270) (j0 := 1) ly_114 (by decide) (by decide) dX11_works_269 rfl ?_
                refine rf_letM (fun m42 => ?_)
                refine rf_aload_n C (n := 271) (q := 1) dX11_works_270 rfl rfl rfl ?_
                refine rf_getS C (n := 274) fl_RX11_140 ly_96 rfl dX11_works_271 rfl ?_
                refine rf_bipush C (n := 276) (v := 11) dX11_works_274 rfl (by decide) ?_
                refine rf_iload_n C (n := 277) (q := 3) dX11_works_276 rfl rfl rfl ?_
                refine rf_iadd C (n := 278) dX11_works_277 rfl ?_
                refine rf_guard (fun h43 => ?_)
                refine rf_iald C (n := 279) ly_114 h43 rfl dX11_works_278 rfl ?_
                refine rf_if_ne C (tgt := 297) (n := 282) dX11_works_279 (by decide) rfl (fun h44 => ?_) (fun h44 => ?_)
                · refine rf_aload_n C (n := 298) (q := 1) dX11_works_297 rfl rfl rfl ?_
                  refine rf_iload_n C (n := 299) (q := 3) dX11_works_298 rfl rfl rfl ?_
                  refine rf_callVi C (n := 302) (c_X11_asked G fu _ _) mw_RX11_290 ly_96 rfl ⟨by decide, by decide⟩ rfl (Nat.le_of_ble_eq_true rfl) rfl dX11_works_299 rfl (fun y45 m46 => ?_)
                  refine rf_if_lt C (tgt := 343) (n := 305) dX11_works_302 (by decide) rfl (fun h47 => ?_) (fun h47 => ?_)
                  · exact rf_lv _ [1, 2, 3] rfl (r_X11_works_343 C K fu _ ih _ _ _)
                  · refine rf_aload_n C (n := 306) (q := 1) dX11_works_305 rfl rfl rfl ?_
                    refine rf_getS C (n := 309) fl_RX11_140 ly_96 rfl dX11_works_306 rfl ?_
                    refine rf_bipush C (n := 311) (v := 19) dX11_works_309 rfl (by decide) ?_
                    refine rf_iload_n C (n := 312) (q := 3) dX11_works_311 rfl rfl rfl ?_
                    refine rf_iadd C (n := 313) dX11_works_312 rfl ?_
                    refine rf_guard (fun h48 => ?_)
                    refine rf_iald C (n := 314) ly_114 h48 rfl dX11_works_313 rfl ?_
                    refine rf_aload_n C (n := 315) (q := 1) dX11_works_314 rfl rfl rfl ?_
                    refine rf_getS C (n := 318) fl_RX11_157 ly_96 rfl dX11_works_315 rfl ?_
                    refine rf_iload_n C (n := 319) (q := 3) dX11_works_318 rfl rfl rfl ?_
                    refine rf_guard (fun h49 => ?_)
                    refine rf_iald C (n := 320) ly_113 h49 rfl dX11_works_319 rfl ?_
                    refine rf_icmp_ne C (tgt := 343) (n := 323) dX11_works_320 (by decide) rfl (fun h50 => ?_) (fun h50 => ?_)
                    · exact rf_lv _ [1, 2, 3] rfl (r_X11_works_343 C K fu _ ih _ _ _)
                    · refine rf_aload_n C (n := 324) (q := 1) dX11_works_323 rfl rfl rfl ?_
                      refine rf_getS C (n := 327) fl_RX11_140 ly_96 rfl dX11_works_324 rfl ?_
                      refine rf_bipush C (n := 329) (v := 27) dX11_works_327 rfl (by decide) ?_
                      refine rf_iload_n C (n := 330) (q := 3) dX11_works_329 rfl rfl rfl ?_
                      refine rf_iadd C (n := 331) dX11_works_330 rfl ?_
                      refine rf_iconst C (n := 332) (v := 1) dX11_works_331 rfl (by decide) ?_
                      refine rf_guard (fun h51 => ?_)
                      refine rf_iast C (n := 333) ly_114 h51 rfl dX11_works_332 rfl ?_
                      refine rf_letM (fun m52 => ?_)
                      refine rf_aload_n C (n := 334) (q := 1) dX11_works_333 rfl rfl rfl ?_
                      refine rf_getS C (n := 337) fl_RX11_140 ly_96 rfl dX11_works_334 rfl ?_
                      refine rf_bipush C (n := 339) (v := 19) dX11_works_337 rfl (by decide) ?_
                      refine rf_iload_n C (n := 340) (q := 3) dX11_works_339 rfl rfl rfl ?_
                      refine rf_iadd C (n := 341) dX11_works_340 rfl ?_
                      refine rf_iconst C (n := 342) (v := 0) dX11_works_341 rfl (by decide) ?_
                      refine rf_guard (fun h53 => ?_)
                      refine rf_iast C (n := 343) ly_114 h53 rfl dX11_works_342 rfl ?_
                      refine rf_letM (fun m54 => ?_)
                      exact rf_lv _ [1, 2, 3] rfl (r_X11_works_343 C K fu _ ih _ _ _)
                · refine rf_aload_n C (n := 283) (q := 1) dX11_works_282 rfl rfl rfl ?_
                  refine rf_getS C (n := 286) fl_RX11_140 ly_96 rfl dX11_works_283 rfl ?_
                  refine rf_bipush C (n := 288) (v := 35) dX11_works_286 rfl (by decide) ?_
                  refine rf_iload_n C (n := 289) (q := 3) dX11_works_288 rfl rfl rfl ?_
                  refine rf_iadd C (n := 290) dX11_works_289 rfl ?_
                  refine rf_iload_n C (n := 291) (q := 2) dX11_works_290 rfl rfl rfl ?_
                  refine rf_iconst C (n := 292) (v := 1) dX11_works_291 rfl (by decide) ?_
                  refine rf_iadd C (n := 293) dX11_works_292 rfl ?_
                  refine rf_guard (fun h55 => ?_)
                  refine rf_iast C (n := 294) ly_114 h55 rfl dX11_works_293 rfl ?_
                  refine rf_letM (fun m56 => ?_)
                  refine rf_goto C (n := 343) dX11_works_294 (by decide) ?_
                  exact rf_lv _ [1, 2, 3] rfl (r_X11_works_343 C K fu _ ih _ _ _)
              · refine rf_goto C (n := 343) dX11_works_191 (by decide) ?_
                exact rf_lv _ [1, 2, 3] rfl (r_X11_works_343 C K fu _ ih _ _ _)
        · refine rf_aload_n C (n := 95) (q := 1) dX11_works_94 rfl rfl rfl ?_
          refine rf_dup C (n := 96) dX11_works_95 rfl rfl ?_
          refine rf_getI C (n := 99) fl_RX11_281 ly_96 rfl dX11_works_96 rfl ?_
          refine rf_iconst C (n := 100) (v := 1) dX11_works_99 rfl (by decide) ?_
          refine rf_iload_n C (n := 101) (q := 3) dX11_works_100 rfl rfl rfl ?_
          refine rf_ishl C (n := 102) dX11_works_101 rfl ?_
          refine rf_ior C (n := 103) dX11_works_102 rfl ?_
          refine rf_putI C (n := 106) pl_RX11_281 ly_96 rfl ⟨rfl, rfl⟩ dX11_works_103 rfl ?_
          refine rf_letM (fun m57 => ?_)
          refine rf_aload_n C (n := 107) (q := 1) dX11_works_106 rfl rfl rfl ?_
          refine rf_getS C (n := 110) fl_RX11_140 ly_96 rfl dX11_works_107 rfl ?_
          refine rf_bipush C (n := 112) (v := 27) dX11_works_110 rfl (by decide) ?_
          refine rf_iload_n C (n := 113) (q := 3) dX11_works_112 rfl rfl rfl ?_
          refine rf_iadd C (n := 114) dX11_works_113 rfl ?_
          refine rf_aload_n C (n := 115) (q := 1) dX11_works_114 rfl rfl rfl ?_
          refine rf_iload_n C (n := 116) (q := 0) dX11_works_115 rfl rfl rfl ?_
          refine rf_iload_n C (n := 117) (q := 2) dX11_works_116 rfl rfl rfl ?_
          refine rf_callVi C (n := 120) (c_X11_isOpen G fu _ _ _) mw_RX11_120 ly_96 rfl ⟨by decide, by decide⟩ rfl (Nat.le_of_ble_eq_true rfl) rfl dX11_works_117 rfl (fun y58 m59 => ?_)
          refine rf_if_eq C (tgt := 137) (n := 123) dX11_works_120 (by decide) rfl (fun h60 => ?_) (fun h60 => ?_)
          · exact rf_lv _ [1, 2, 3] rfl (r_X11_works_137 C K fu _ ih _ _ _ _)
          · refine rf_aload_n C (n := 124) (q := 1) dX11_works_123 rfl rfl rfl ?_
            refine rf_aload_n C (n := 125) (q := 1) dX11_works_124 rfl rfl rfl ?_
            refine rf_getS C (n := 128) fl_RX11_163 ly_96 rfl dX11_works_125 rfl ?_
            refine rf_iload_n C (n := 129) (q := 3) dX11_works_128 rfl rfl rfl ?_
            refine rf_guard (fun h65 => ?_)
            refine rf_iald C (n := 130) ly_112 h65 rfl dX11_works_129 rfl ?_
            refine rf_iload_n C (n := 131) (q := 2) dX11_works_130 rfl rfl rfl ?_
            refine rf_callVi C (n := 134) (c_X11_isOpen G fu _ _ _) mw_RX11_120 ly_96 rfl ⟨by decide, by decide⟩ rfl (Nat.le_of_ble_eq_true rfl) rfl dX11_works_131 rfl (fun y66 m67 => ?_)
            refine rf_if_ne C (tgt := 141) (n := 137) dX11_works_134 (by decide) rfl (fun h68 => ?_) (fun h68 => ?_)
            · refine rf_iconst C (n := 142) (v := 0) dX11_works_141 rfl (by decide) ?_
              exact rf_lv _ [1, 2, 3] rfl (r_X11_works_142 C K fu _ ih _ _ _ _ _)
            · exact rf_lv _ [1, 2, 3] rfl (r_X11_works_137 C K fu _ ih _ _ _ _)
      · refine rf_goto C (n := 343) dX11_works_69 (by decide) ?_
        exact rf_lv _ [0, 1, 2] rfl (r_X11_works_343 C K fu _ ih _ _ _)
noncomputable def f_X11_works_48 (fu : Nat) (x1 : Int32) (m : hM) : Option (Unit × hM) :=
  f_X11_works_50 fu fu x1 0 m
set_option maxRecDepth 100000 in
set_option maxHeartbeats 4000000 in
theorem r_X11_works_48 {G : hG} {X : hX} (C : Cx G X 4 cX11_works 4 RX11 none) (K : Cr G X) (fu : Nat) (x1 : Int32) (m : hM) : Rf vU G X 48 [(0, hA G 96), (1, .int x1)] [] m (f_X11_works_48 fu x1 m) := by
  unfold f_X11_works_48
  refine rf_iconst C (n := 49) (v := 0) dX11_works_48 rfl (by decide) ?_
  refine rf_istore_n C (n := 50) [(2, .int 0), (0, hA G 96), (1, .int x1)] dX11_works_49 rfl rfl (by decide) rfl ?_
  exact rf_lv _ [1, 2, 0] rfl (r_X11_works_50 C K fu fu _ _ _)
noncomputable def s_X11_works_27 (fu : Nat) (ih : Int32 → Int32 → hM → Option (Unit × hM)) (x1 : Int32) (x2 : Int32) (m : hM) : Option (Unit × hM) :=
  if (gI m 96 3) ≤ x2 then (
f_X11_works_48 fu x1 m) else (
if hIn x2 6 then (
hLet (sI m 120 (Int32.toNatClampNeg x2) 0) fun m70 =>
hLet (x2 + 1) fun y71 =>
ih x1 y71 m70) else none)
noncomputable def f_X11_works_27 (fu : Nat) (n : Nat) : Int32 → Int32 → hM → Option (Unit × hM) :=
  Nat.rec (motive := fun _ => Int32 → Int32 → hM → Option (Unit × hM)) (fun _ _ _ => none) (fun _ ih => s_X11_works_27 fu ih) n
theorem f_X11_works_27_s (fu : Nat) (n : Nat) (x1 : Int32) (x2 : Int32) (m : hM) : f_X11_works_27 fu (n + 1) x1 x2 m = s_X11_works_27 fu (f_X11_works_27 fu n) x1 x2 m := rfl
set_option maxRecDepth 100000 in
set_option maxHeartbeats 4000000 in
theorem r_X11_works_27 {G : hG} {X : hX} (C : Cx G X 4 cX11_works 4 RX11 none) (K : Cr G X) (fu : Nat) (n : Nat) : ∀ (x1 : Int32) (x2 : Int32) (m : hM), Rf vU G X 27 [(0, hA G 96), (1, .int x1), (2, .int x2)] [] m (f_X11_works_27 fu n x1 x2 m) := by
  induction n with
  | zero => intros; exact rf_none
  | succ n ih =>
    intro x1 x2 m
    show Rf vU G X 27 [(0, hA G 96), (1, .int x1), (2, .int x2)] [] m (s_X11_works_27 fu (f_X11_works_27 fu n) x1 x2 m)
    unfold s_X11_works_27
    refine rf_iload_n C (n := 28) (q := 2) dX11_works_27 rfl rfl rfl ?_
    refine rf_aload_n C (n := 29) (q := 0) dX11_works_28 rfl rfl rfl ?_
    refine rf_getI C (n := 32) fl_RX11_22 ly_96 rfl dX11_works_29 rfl ?_
    refine rf_icmp_ge C (tgt := 48) (n := 35) dX11_works_32 (by decide) rfl (fun h7 => ?_) (fun h7 => ?_)
    · exact rf_lv _ [0, 1] rfl (r_X11_works_48 C K fu _ _)
    · refine rf_aload_n C (n := 36) (q := 0) dX11_works_35 rfl rfl rfl ?_
      refine rf_getS C (n := 39) fl_RX11_287 ly_96 rfl dX11_works_36 rfl ?_
      refine rf_iload_n C (n := 40) (q := 2) dX11_works_39 rfl rfl rfl ?_
      refine rf_iconst C (n := 41) (v := 0) dX11_works_40 rfl (by decide) ?_
      refine rf_guard (fun h69 => ?_)
      refine rf_iast C (n := 42) ly_120 h69 rfl dX11_works_41 rfl ?_
      refine rf_letM (fun m70 => ?_)
      refine rf_iinc2 C (n := 45) (q := 2) (fun y71 => [(2, .int y71), (0, hA G 96), (1, .int x1)]) dX11_works_42 rfl rfl (by decide) (by decide) (fun _ => rfl) (fun y71 => ?_)
      refine rf_goto C (n := 27) dX11_works_45 (by decide) ?_
      exact rf_lv _ [1, 2, 0] rfl (ih _ _ _)
noncomputable def f_X11_works (fu : Nat) (m : hM) : Option (Unit × hM) :=
  hLet (gI m 114 0) fun y1 =>
hBd (f_X11_readyBits fu m) fun y2 m3 =>
hLet (sI m3 96 34 y2) fun m4 =>
hLet (sI m4 96 35 0) fun m5 =>
hLet (sI m5 96 36 0) fun m6 =>
f_X11_works_27 fu fu y1 0 m6
set_option maxRecDepth 100000 in
set_option maxHeartbeats 4000000 in
theorem c_X11_works (G : hG) (fu : Nat) (m : hM) : Mt vU G 4 yX11_works cX11_works 4 none [hA G 96] m (f_X11_works fu m) := by
  refine mt_of (by decide +kernel) (Nat.le_of_ble_eq_true rfl) (fun X C K => ?_)
  have C : Cx G X 4 cX11_works 4 RX11 none := C
  show Rf vU G X 0 [(0, hA G 96)] [] m _
  unfold f_X11_works
  refine rf_aload_n C (n := 1) (q := 0) dX11_works_0 rfl rfl rfl ?_
  refine rf_getS C (n := 4) fl_RX11_140 ly_96 rfl dX11_works_1 rfl ?_
  refine rf_iconst C (n := 5) (v := 0) dX11_works_4 rfl (by decide) ?_
  refine rf_iald C (n := 6) (j := 0) ly_114 (by decide) (by decide) dX11_works_5 rfl ?_
  refine rf_letI (fun y1 => ?_)
  refine rf_istore_n C (n := 7) [(1, .int y1), (0, hA G 96)] dX11_works_6 rfl rfl (by decide) rfl ?_
  refine rf_aload_n C (n := 8) (q := 1) dX11_works_7 rfl rfl rfl ?_
  refine rf_aload_n C (n := 9) (q := 1) dX11_works_8 rfl rfl rfl ?_
  refine rf_callVi C (n := 12) (c_X11_readyBits G fu _) mw_RX11_275 ly_96 rfl ⟨by decide, by decide⟩ rfl (Nat.le_of_ble_eq_true rfl) rfl dX11_works_9 rfl (fun y2 m3 => ?_)
  refine rf_putI C (n := 15) pl_RX11_278 ly_96 rfl ⟨rfl, rfl⟩ dX11_works_12 rfl ?_
  refine rf_letM (fun m4 => ?_)
  refine rf_aload_n C (n := 16) (q := 1) dX11_works_15 rfl rfl rfl ?_
  refine rf_iconst C (n := 17) (v := 0) dX11_works_16 rfl (by decide) ?_
  refine rf_putI C (n := 20) pl_RX11_281 ly_96 rfl ⟨rfl, rfl⟩ dX11_works_17 rfl ?_
  refine rf_letM (fun m5 => ?_)
  refine rf_aload_n C (n := 21) (q := 1) dX11_works_20 rfl rfl rfl ?_
  refine rf_iconst C (n := 22) (v := 0) dX11_works_21 rfl (by decide) ?_
  refine rf_putI C (n := 25) pl_RX11_284 ly_96 rfl ⟨rfl, rfl⟩ dX11_works_22 rfl ?_
  refine rf_letM (fun m6 => ?_)
  refine rf_iconst C (n := 26) (v := 0) dX11_works_25 rfl (by decide) ?_
  refine rf_istore_n C (n := 27) [(2, .int 0), (1, .int y1), (0, hA G 96)] dX11_works_26 rfl rfl (by decide) rfl ?_
  exact rf_lv _ [2, 1, 0] rfl (r_X11_works_27 C K fu fu _ _ _)
