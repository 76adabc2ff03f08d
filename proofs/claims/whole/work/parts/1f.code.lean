theorem dX10_piece_0 : decode cX10_piece 0 = .ok (.aload_n 0, 1) := by decide +kernel
theorem dX10_piece_1 : decode cX10_piece 1 = .ok (.getfield 19, 3) := by decide +kernel
theorem dX10_piece_4 : decode cX10_piece 4 = .ok (.getfield 177, 3) := by decide +kernel
theorem dX10_piece_7 : decode cX10_piece 7 = .ok (.istore 6, 2) := by decide +kernel
theorem dX10_piece_9 : decode cX10_piece 9 = .ok (.iload 6, 2) := by decide +kernel
theorem dX10_piece_11 : decode cX10_piece 11 = .ok (.bipush 8, 2) := by decide +kernel
theorem dX10_piece_13 : decode cX10_piece 13 = .ok (.if_icmp .ge 16, 3) := by decide +kernel
theorem dX10_piece_16 : decode cX10_piece 16 = .ok (.iload_n 1, 1) := by decide +kernel
theorem dX10_piece_17 : decode cX10_piece 17 = .ok (.bipush 6, 2) := by decide +kernel
theorem dX10_piece_19 : decode cX10_piece 19 = .ok (.if_icmp .lt 10, 3) := by decide +kernel
theorem dX10_piece_22 : decode cX10_piece 22 = .ok (.iload_n 1, 1) := by decide +kernel
theorem dX10_piece_23 : decode cX10_piece 23 = .ok (.sipush 366, 3) := by decide +kernel
theorem dX10_piece_26 : decode cX10_piece 26 = .ok (.if_icmp .lt 5, 3) := by decide +kernel
theorem dX10_piece_29 : decode cX10_piece 29 = .ok (.iconst (-1), 1) := by decide +kernel
theorem dX10_piece_30 : decode cX10_piece 30 = .ok (.ireturn, 1) := by decide +kernel
theorem dX10_piece_31 : decode cX10_piece 31 = .ok (.iload_n 2, 1) := by decide +kernel
theorem dX10_piece_32 : decode cX10_piece 32 = .ok (.iconst 1, 1) := by decide +kernel
theorem dX10_piece_33 : decode cX10_piece 33 = .ok (.if_icmp .lt 21, 3) := by decide +kernel
theorem dX10_piece_36 : decode cX10_piece 36 = .ok (.iload_n 2, 1) := by decide +kernel
theorem dX10_piece_37 : decode cX10_piece 37 = .ok (.bipush 60, 2) := by decide +kernel
theorem dX10_piece_39 : decode cX10_piece 39 = .ok (.if_icmp .gt 15, 3) := by decide +kernel
theorem dX10_piece_42 : decode cX10_piece 42 = .ok (.iload_n 3, 1) := by decide +kernel
theorem dX10_piece_43 : decode cX10_piece 43 = .ok (.ifCond .lt 11, 3) := by decide +kernel
theorem dX10_piece_46 : decode cX10_piece 46 = .ok (.iload_n 3, 1) := by decide +kernel
theorem dX10_piece_47 : decode cX10_piece 47 = .ok (.iconst 1, 1) := by decide +kernel
theorem dX10_piece_48 : decode cX10_piece 48 = .ok (.iload 6, 2) := by decide +kernel
theorem dX10_piece_50 : decode cX10_piece 50 = .ok (.ishl, 1) := by decide +kernel
theorem dX10_piece_51 : decode cX10_piece 51 = .ok (.if_icmp .lt 5, 3) := by decide +kernel
theorem dX10_piece_54 : decode cX10_piece 54 = .ok (.iconst (-1), 1) := by decide +kernel
theorem dX10_piece_55 : decode cX10_piece 55 = .ok (.ireturn, 1) := by decide +kernel
theorem dX10_piece_56 : decode cX10_piece 56 = .ok (.aload_n 0, 1) := by decide +kernel
theorem dX10_piece_57 : decode cX10_piece 57 = .ok (.getfield 12, 3) := by decide +kernel
theorem dX10_piece_60 : decode cX10_piece 60 = .ok (.iload 4, 2) := by decide +kernel
theorem dX10_piece_62 : decode cX10_piece 62 = .ok (.invokevirtual 116, 3) := by decide +kernel
theorem dX10_piece_65 : decode cX10_piece 65 = .ok (.ifCond .eq 21, 3) := by decide +kernel
theorem dX10_piece_68 : decode cX10_piece 68 = .ok (.iload 5, 2) := by decide +kernel
theorem dX10_piece_70 : decode cX10_piece 70 = .ok (.iconst (-1), 1) := by decide +kernel
theorem dX10_piece_71 : decode cX10_piece 71 = .ok (.if_icmp .eq 17, 3) := by decide +kernel
theorem dX10_piece_74 : decode cX10_piece 74 = .ok (.aload_n 0, 1) := by decide +kernel
theorem dX10_piece_75 : decode cX10_piece 75 = .ok (.getfield 12, 3) := by decide +kernel
theorem dX10_piece_78 : decode cX10_piece 78 = .ok (.iload 5, 2) := by decide +kernel
theorem dX10_piece_80 : decode cX10_piece 80 = .ok (.invokevirtual 116, 3) := by decide +kernel
theorem dX10_piece_83 : decode cX10_piece 83 = .ok (.ifCond .ne 5, 3) := by decide +kernel
theorem dX10_piece_86 : decode cX10_piece 86 = .ok (.iconst (-1), 1) := by decide +kernel
theorem dX10_piece_87 : decode cX10_piece 87 = .ok (.ireturn, 1) := by decide +kernel
theorem dX10_piece_88 : decode cX10_piece 88 = .ok (.aload_n 0, 1) := by decide +kernel
theorem dX10_piece_89 : decode cX10_piece 89 = .ok (.getfield 19, 3) := by decide +kernel
theorem dX10_piece_92 : decode cX10_piece 92 = .ok (.getfield 178, 3) := by decide +kernel
theorem dX10_piece_95 : decode cX10_piece 95 = .ok (.iload 6, 2) := by decide +kernel
theorem dX10_piece_97 : decode cX10_piece 97 = .ok (.iload_n 1, 1) := by decide +kernel
theorem dX10_piece_98 : decode cX10_piece 98 = .ok (.bipush 6, 2) := by decide +kernel
theorem dX10_piece_100 : decode cX10_piece 100 = .ok (.irem, 1) := by decide +kernel
theorem dX10_piece_101 : decode cX10_piece 101 = .ok (.iastore, 1) := by decide +kernel
theorem dX10_piece_102 : decode cX10_piece 102 = .ok (.aload_n 0, 1) := by decide +kernel
theorem dX10_piece_103 : decode cX10_piece 103 = .ok (.getfield 19, 3) := by decide +kernel
theorem dX10_piece_106 : decode cX10_piece 106 = .ok (.getfield 181, 3) := by decide +kernel
theorem dX10_piece_109 : decode cX10_piece 109 = .ok (.iload 6, 2) := by decide +kernel
theorem dX10_piece_111 : decode cX10_piece 111 = .ok (.iload_n 1, 1) := by decide +kernel
theorem dX10_piece_112 : decode cX10_piece 112 = .ok (.bipush 6, 2) := by decide +kernel
theorem dX10_piece_114 : decode cX10_piece 114 = .ok (.idiv, 1) := by decide +kernel
theorem dX10_piece_115 : decode cX10_piece 115 = .ok (.iastore, 1) := by decide +kernel
theorem dX10_piece_116 : decode cX10_piece 116 = .ok (.aload_n 0, 1) := by decide +kernel
theorem dX10_piece_117 : decode cX10_piece 117 = .ok (.getfield 19, 3) := by decide +kernel
theorem dX10_piece_120 : decode cX10_piece 120 = .ok (.getfield 184, 3) := by decide +kernel
theorem dX10_piece_123 : decode cX10_piece 123 = .ok (.iload 6, 2) := by decide +kernel
theorem dX10_piece_125 : decode cX10_piece 125 = .ok (.iload_n 2, 1) := by decide +kernel
theorem dX10_piece_126 : decode cX10_piece 126 = .ok (.iastore, 1) := by decide +kernel
theorem dX10_piece_127 : decode cX10_piece 127 = .ok (.aload_n 0, 1) := by decide +kernel
theorem dX10_piece_128 : decode cX10_piece 128 = .ok (.getfield 19, 3) := by decide +kernel
theorem dX10_piece_131 : decode cX10_piece 131 = .ok (.getfield 187, 3) := by decide +kernel
theorem dX10_piece_134 : decode cX10_piece 134 = .ok (.iload 6, 2) := by decide +kernel
theorem dX10_piece_136 : decode cX10_piece 136 = .ok (.iload_n 3, 1) := by decide +kernel
theorem dX10_piece_137 : decode cX10_piece 137 = .ok (.iastore, 1) := by decide +kernel
theorem dX10_piece_138 : decode cX10_piece 138 = .ok (.aload_n 0, 1) := by decide +kernel
theorem dX10_piece_139 : decode cX10_piece 139 = .ok (.getfield 19, 3) := by decide +kernel
theorem dX10_piece_142 : decode cX10_piece 142 = .ok (.getfield 190, 3) := by decide +kernel
theorem dX10_piece_145 : decode cX10_piece 145 = .ok (.iload 6, 2) := by decide +kernel
theorem dX10_piece_147 : decode cX10_piece 147 = .ok (.iload 4, 2) := by decide +kernel
theorem dX10_piece_149 : decode cX10_piece 149 = .ok (.iastore, 1) := by decide +kernel
theorem dX10_piece_150 : decode cX10_piece 150 = .ok (.aload_n 0, 1) := by decide +kernel
theorem dX10_piece_151 : decode cX10_piece 151 = .ok (.getfield 19, 3) := by decide +kernel
theorem dX10_piece_154 : decode cX10_piece 154 = .ok (.getfield 193, 3) := by decide +kernel
theorem dX10_piece_157 : decode cX10_piece 157 = .ok (.iload 6, 2) := by decide +kernel
theorem dX10_piece_159 : decode cX10_piece 159 = .ok (.iload 5, 2) := by decide +kernel
theorem dX10_piece_161 : decode cX10_piece 161 = .ok (.iastore, 1) := by decide +kernel
theorem dX10_piece_162 : decode cX10_piece 162 = .ok (.aload_n 0, 1) := by decide +kernel
theorem dX10_piece_163 : decode cX10_piece 163 = .ok (.getfield 19, 3) := by decide +kernel
theorem dX10_piece_166 : decode cX10_piece 166 = .ok (.iload 6, 2) := by decide +kernel
theorem dX10_piece_168 : decode cX10_piece 168 = .ok (.iconst 1, 1) := by decide +kernel
theorem dX10_piece_169 : decode cX10_piece 169 = .ok (.iadd, 1) := by decide +kernel
theorem dX10_piece_170 : decode cX10_piece 170 = .ok (.putfield 177, 3) := by decide +kernel
theorem dX10_piece_173 : decode cX10_piece 173 = .ok (.aload_n 0, 1) := by decide +kernel
theorem dX10_piece_174 : decode cX10_piece 174 = .ok (.getfield 65, 3) := by decide +kernel
theorem dX10_piece_177 : decode cX10_piece 177 = .ok (.aload_n 0, 1) := by decide +kernel
theorem dX10_piece_178 : decode cX10_piece 178 = .ok (.getfield 19, 3) := by decide +kernel
theorem dX10_piece_181 : decode cX10_piece 181 = .ok (.iload 6, 2) := by decide +kernel
theorem dX10_piece_183 : decode cX10_piece 183 = .ok (.invokevirtual 196, 3) := by decide +kernel
theorem dX10_piece_186 : decode cX10_piece 186 = .ok (.iload 6, 2) := by decide +kernel
theorem dX10_piece_188 : decode cX10_piece 188 = .ok (.ireturn, 1) := by decide +kernel
theorem dX10_sign_0 : decode cX10_sign 0 = .ok (.aload_n 0, 1) := by decide +kernel
theorem dX10_sign_1 : decode cX10_sign 1 = .ok (.getfield 91, 3) := by decide +kernel
theorem dX10_sign_4 : decode cX10_sign 4 = .ok (.iconst 4, 1) := by decide +kernel
theorem dX10_sign_5 : decode cX10_sign 5 = .ok (.iadd, 1) := by decide +kernel
theorem dX10_sign_6 : decode cX10_sign 6 = .ok (.bipush 60, 2) := by decide +kernel
theorem dX10_sign_8 : decode cX10_sign 8 = .ok (.if_icmp .le 5, 3) := by decide +kernel
theorem dX10_sign_11 : decode cX10_sign 11 = .ok (.iconst (-1), 1) := by decide +kernel
theorem dX10_sign_12 : decode cX10_sign 12 = .ok (.ireturn, 1) := by decide +kernel
theorem dX10_sign_13 : decode cX10_sign 13 = .ok (.bipush 24, 2) := by decide +kernel
theorem dX10_sign_15 : decode cX10_sign 15 = .ok (.istore_n 2, 1) := by decide +kernel
theorem dX10_sign_16 : decode cX10_sign 16 = .ok (.iload_n 2, 1) := by decide +kernel
theorem dX10_sign_17 : decode cX10_sign 17 = .ok (.ifCond .lt 36, 3) := by decide +kernel
theorem dX10_sign_20 : decode cX10_sign 20 = .ok (.aload_n 0, 1) := by decide +kernel
theorem dX10_sign_21 : decode cX10_sign 21 = .ok (.getfield 87, 3) := by decide +kernel
theorem dX10_sign_24 : decode cX10_sign 24 = .ok (.aload_n 0, 1) := by decide +kernel
theorem dX10_sign_25 : decode cX10_sign 25 = .ok (.getfield 91, 3) := by decide +kernel
theorem dX10_sign_28 : decode cX10_sign 28 = .ok (.iload_n 1, 1) := by decide +kernel
theorem dX10_sign_29 : decode cX10_sign 29 = .ok (.iload_n 2, 1) := by decide +kernel
theorem dX10_sign_30 : decode cX10_sign 30 = .ok (.iushr, 1) := by decide +kernel
theorem dX10_sign_31 : decode cX10_sign 31 = .ok (.sipush 255, 3) := by decide +kernel
theorem dX10_sign_34 : decode cX10_sign 34 = .ok (.iand, 1) := by decide +kernel
theorem dX10_sign_35 : decode cX10_sign 35 = .ok (.i2c, 1) := by decide +kernel
theorem dX10_sign_36 : decode cX10_sign 36 = .ok (.castore, 1) := by decide +kernel
theorem dX10_sign_37 : decode cX10_sign 37 = .ok (.aload_n 0, 1) := by decide +kernel
theorem dX10_sign_38 : decode cX10_sign 38 = .ok (.dup, 1) := by decide +kernel
theorem dX10_sign_39 : decode cX10_sign 39 = .ok (.getfield 91, 3) := by decide +kernel
theorem dX10_sign_42 : decode cX10_sign 42 = .ok (.iconst 1, 1) := by decide +kernel
theorem dX10_sign_43 : decode cX10_sign 43 = .ok (.iadd, 1) := by decide +kernel
theorem dX10_sign_44 : decode cX10_sign 44 = .ok (.putfield 91, 3) := by decide +kernel
theorem dX10_sign_47 : decode cX10_sign 47 = .ok (.iinc 2 (-8), 3) := by decide +kernel
theorem dX10_sign_50 : decode cX10_sign 50 = .ok (.goto (-34), 3) := by decide +kernel
theorem dX10_sign_53 : decode cX10_sign 53 = .ok (.aload_n 0, 1) := by decide +kernel
theorem dX10_sign_54 : decode cX10_sign 54 = .ok (.getfield 91, 3) := by decide +kernel
theorem dX10_sign_57 : decode cX10_sign 57 = .ok (.ireturn, 1) := by decide +kernel
theorem dX10_end_0 : decode cX10_end 0 = .ok (.iload_n 1, 1) := by decide +kernel
theorem dX10_end_1 : decode cX10_end 1 = .ok (.ifCond .lt 11, 3) := by decide +kernel
theorem dX10_end_4 : decode cX10_end 4 = .ok (.iload_n 1, 1) := by decide +kernel
theorem dX10_end_5 : decode cX10_end 5 = .ok (.aload_n 0, 1) := by decide +kernel
theorem dX10_end_6 : decode cX10_end 6 = .ok (.getfield 91, 3) := by decide +kernel
theorem dX10_end_9 : decode cX10_end 9 = .ok (.if_icmp .le 5, 3) := by decide +kernel
theorem dX10_end_12 : decode cX10_end 12 = .ok (.iconst 0, 1) := by decide +kernel
theorem dX10_end_13 : decode cX10_end 13 = .ok (.ireturn, 1) := by decide +kernel
theorem dX10_end_14 : decode cX10_end 14 = .ok (.aload_n 0, 1) := by decide +kernel
theorem dX10_end_15 : decode cX10_end 15 = .ok (.iload_n 1, 1) := by decide +kernel
theorem dX10_end_16 : decode cX10_end 16 = .ok (.putfield 91, 3) := by decide +kernel
theorem dX10_end_19 : decode cX10_end 19 = .ok (.iconst 1, 1) := by decide +kernel
theorem dX10_end_20 : decode cX10_end 20 = .ok (.ireturn, 1) := by decide +kernel
theorem dX10_begin_0 : decode cX10_begin 0 = .ok (.iload_n 1, 1) := by decide +kernel
theorem dX10_begin_1 : decode cX10_begin 1 = .ok (.invokestatic 119, 3) := by decide +kernel
theorem dX10_begin_4 : decode cX10_begin 4 = .ok (.ifCond .ne 5, 3) := by decide +kernel
theorem dX10_begin_7 : decode cX10_begin 7 = .ok (.iconst 0, 1) := by decide +kernel
theorem dX10_begin_8 : decode cX10_begin 8 = .ok (.ireturn, 1) := by decide +kernel
theorem dX10_begin_9 : decode cX10_begin 9 = .ok (.aload_n 0, 1) := by decide +kernel
theorem dX10_begin_10 : decode cX10_begin 10 = .ok (.getfield 65, 3) := by decide +kernel
theorem dX10_begin_13 : decode cX10_begin 13 = .ok (.aload_n 0, 1) := by decide +kernel
theorem dX10_begin_14 : decode cX10_begin 14 = .ok (.getfield 19, 3) := by decide +kernel
theorem dX10_begin_17 : decode cX10_begin 17 = .ok (.iload_n 1, 1) := by decide +kernel
theorem dX10_begin_18 : decode cX10_begin 18 = .ok (.invokevirtual 225, 3) := by decide +kernel
theorem dX10_begin_21 : decode cX10_begin 21 = .ok (.iconst 1, 1) := by decide +kernel
theorem dX10_begin_22 : decode cX10_begin 22 = .ok (.ireturn, 1) := by decide +kernel
theorem dX10_go_0 : decode cX10_go 0 = .ok (.iload_n 1, 1) := by decide +kernel
theorem dX10_go_1 : decode cX10_go 1 = .ok (.ifCond .lt 10, 3) := by decide +kernel
theorem dX10_go_4 : decode cX10_go 4 = .ok (.iload_n 1, 1) := by decide +kernel
theorem dX10_go_5 : decode cX10_go 5 = .ok (.sipush 500, 3) := by decide +kernel
theorem dX10_go_8 : decode cX10_go 8 = .ok (.if_icmp .le 5, 3) := by decide +kernel
theorem dX10_go_11 : decode cX10_go 11 = .ok (.iconst (-1), 1) := by decide +kernel
theorem dX10_go_12 : decode cX10_go 12 = .ok (.ireturn, 1) := by decide +kernel
theorem dX10_go_13 : decode cX10_go 13 = .ok (.iconst 0, 1) := by decide +kernel
theorem dX10_go_14 : decode cX10_go 14 = .ok (.istore_n 2, 1) := by decide +kernel
theorem dX10_go_15 : decode cX10_go 15 = .ok (.iload_n 2, 1) := by decide +kernel
theorem dX10_go_16 : decode cX10_go 16 = .ok (.iload_n 1, 1) := by decide +kernel
theorem dX10_go_17 : decode cX10_go 17 = .ok (.if_icmp .ge 33, 3) := by decide +kernel
theorem dX10_go_20 : decode cX10_go 20 = .ok (.aload_n 0, 1) := by decide +kernel
theorem dX10_go_21 : decode cX10_go 21 = .ok (.getfield 65, 3) := by decide +kernel
theorem dX10_go_24 : decode cX10_go 24 = .ok (.getfield 218, 3) := by decide +kernel
theorem dX10_go_27 : decode cX10_go 27 = .ok (.sipush 2399, 3) := by decide +kernel
theorem dX10_go_30 : decode cX10_go 30 = .ok (.if_icmp .ge 20, 3) := by decide +kernel
theorem dX10_go_33 : decode cX10_go 33 = .ok (.aload_n 0, 1) := by decide +kernel
theorem dX10_go_34 : decode cX10_go 34 = .ok (.getfield 42, 3) := by decide +kernel
theorem dX10_go_37 : decode cX10_go 37 = .ok (.aload_n 0, 1) := by decide +kernel
theorem dX10_go_38 : decode cX10_go 38 = .ok (.getfield 65, 3) := by decide +kernel
theorem dX10_go_41 : decode cX10_go 41 = .ok (.invokevirtual 228, 3) := by decide +kernel
theorem dX10_go_44 : decode cX10_go 44 = .ok (.iinc 2 1, 3) := by decide +kernel
theorem dX10_go_47 : decode cX10_go 47 = .ok (.goto (-32), 3) := by decide +kernel
theorem dX10_go_50 : decode cX10_go 50 = .ok (.aload_n 0, 1) := by decide +kernel
theorem dX10_go_51 : decode cX10_go 51 = .ok (.getfield 65, 3) := by decide +kernel
theorem dX10_go_54 : decode cX10_go 54 = .ok (.getfield 218, 3) := by decide +kernel
theorem dX10_go_57 : decode cX10_go 57 = .ok (.ireturn, 1) := by decide +kernel
theorem dX10_hand_0 : decode cX10_hand 0 = .ok (.aload_n 0, 1) := by decide +kernel
theorem dX10_hand_1 : decode cX10_hand 1 = .ok (.getfield 19, 3) := by decide +kernel
theorem dX10_hand_4 : decode cX10_hand 4 = .ok (.iload_n 1, 1) := by decide +kernel
theorem dX10_hand_5 : decode cX10_hand 5 = .ok (.invokevirtual 214, 3) := by decide +kernel
theorem dX10_hand_8 : decode cX10_hand 8 = .ok (.ifCond .eq 14, 3) := by decide +kernel
theorem dX10_hand_11 : decode cX10_hand 11 = .ok (.aload_n 0, 1) := by decide +kernel
theorem dX10_hand_12 : decode cX10_hand 12 = .ok (.getfield 12, 3) := by decide +kernel
theorem dX10_hand_15 : decode cX10_hand 15 = .ok (.iload_n 2, 1) := by decide +kernel
theorem dX10_hand_16 : decode cX10_hand 16 = .ok (.invokevirtual 116, 3) := by decide +kernel
theorem dX10_hand_19 : decode cX10_hand 19 = .ok (.ifCond .ne 5, 3) := by decide +kernel
theorem dX10_hand_22 : decode cX10_hand 22 = .ok (.iconst (-1), 1) := by decide +kernel
theorem dX10_hand_23 : decode cX10_hand 23 = .ok (.ireturn, 1) := by decide +kernel
theorem dX10_hand_24 : decode cX10_hand 24 = .ok (.aload_n 0, 1) := by decide +kernel
theorem dX10_hand_25 : decode cX10_hand 25 = .ok (.getfield 65, 3) := by decide +kernel
theorem dX10_hand_28 : decode cX10_hand 28 = .ok (.getfield 260, 3) := by decide +kernel
theorem dX10_hand_31 : decode cX10_hand 31 = .ok (.iload_n 1, 1) := by decide +kernel
theorem dX10_hand_32 : decode cX10_hand 32 = .ok (.ishr, 1) := by decide +kernel
theorem dX10_hand_33 : decode cX10_hand 33 = .ok (.iconst 1, 1) := by decide +kernel
theorem dX10_hand_34 : decode cX10_hand 34 = .ok (.iand, 1) := by decide +kernel
theorem dX10_hand_35 : decode cX10_hand 35 = .ok (.iconst 1, 1) := by decide +kernel
theorem dX10_hand_36 : decode cX10_hand 36 = .ok (.if_icmp .eq 16, 3) := by decide +kernel
theorem dX10_hand_39 : decode cX10_hand 39 = .ok (.aload_n 0, 1) := by decide +kernel
theorem dX10_hand_40 : decode cX10_hand 40 = .ok (.getfield 65, 3) := by decide +kernel
theorem dX10_hand_43 : decode cX10_hand 43 = .ok (.getfield 232, 3) := by decide +kernel
theorem dX10_hand_46 : decode cX10_hand 46 = .ok (.iload_n 1, 1) := by decide +kernel
theorem dX10_hand_47 : decode cX10_hand 47 = .ok (.iaload, 1) := by decide +kernel
theorem dX10_hand_48 : decode cX10_hand 48 = .ok (.iload_n 2, 1) := by decide +kernel
theorem dX10_hand_49 : decode cX10_hand 49 = .ok (.if_icmp .ne 5, 3) := by decide +kernel
theorem dX10_hand_52 : decode cX10_hand 52 = .ok (.iconst (-1), 1) := by decide +kernel
theorem dX10_hand_53 : decode cX10_hand 53 = .ok (.ireturn, 1) := by decide +kernel
theorem dX10_hand_54 : decode cX10_hand 54 = .ok (.aload_n 0, 1) := by decide +kernel
theorem dX10_hand_55 : decode cX10_hand 55 = .ok (.getfield 42, 3) := by decide +kernel
theorem dX10_hand_58 : decode cX10_hand 58 = .ok (.aload_n 0, 1) := by decide +kernel
theorem dX10_hand_59 : decode cX10_hand 59 = .ok (.getfield 65, 3) := by decide +kernel
theorem dX10_hand_62 : decode cX10_hand 62 = .ok (.iload_n 1, 1) := by decide +kernel
theorem dX10_hand_63 : decode cX10_hand 63 = .ok (.iload_n 2, 1) := by decide +kernel
theorem dX10_hand_64 : decode cX10_hand 64 = .ok (.aload_n 0, 1) := by decide +kernel
theorem dX10_hand_65 : decode cX10_hand 65 = .ok (.getfield 65, 3) := by decide +kernel
theorem dX10_hand_68 : decode cX10_hand 68 = .ok (.getfield 218, 3) := by decide +kernel
theorem dX10_hand_71 : decode cX10_hand 71 = .ok (.invokevirtual 263, 3) := by decide +kernel
theorem dX10_hand_74 : decode cX10_hand 74 = .ok (.ireturn, 1) := by decide +kernel
theorem dX10_fromNow_0 : decode cX10_fromNow 0 = .ok (.aload_n 0, 1) := by decide +kernel
theorem dX10_fromNow_1 : decode cX10_fromNow 1 = .ok (.getfield 69, 3) := by decide +kernel
theorem dX10_fromNow_4 : decode cX10_fromNow 4 = .ok (.aload_n 0, 1) := by decide +kernel
theorem dX10_fromNow_5 : decode cX10_fromNow 5 = .ok (.getfield 65, 3) := by decide +kernel
theorem dX10_fromNow_8 : decode cX10_fromNow 8 = .ok (.invokevirtual 403, 3) := by decide +kernel
theorem dX10_fromNow_11 : decode cX10_fromNow 11 = .ok (.aload_n 0, 1) := by decide +kernel
theorem dX10_fromNow_12 : decode cX10_fromNow 12 = .ok (.getfield 69, 3) := by decide +kernel
theorem dX10_fromNow_15 : decode cX10_fromNow 15 = .ok (.areturn, 1) := by decide +kernel
theorem dX10_tellEnd_0 : decode cX10_tellEnd 0 = .ok (.aload_n 0, 1) := by decide +kernel
theorem dX10_tellEnd_1 : decode cX10_tellEnd 1 = .ok (.getfield 83, 3) := by decide +kernel
theorem dX10_tellEnd_4 : decode cX10_tellEnd 4 = .ok (.invokevirtual 170, 3) := by decide +kernel
theorem dX10_tellEnd_7 : decode cX10_tellEnd 7 = .ok (.iconst 0, 1) := by decide +kernel
theorem dX10_tellEnd_8 : decode cX10_tellEnd 8 = .ok (.istore 4, 2) := by decide +kernel
theorem dX10_tellEnd_10 : decode cX10_tellEnd 10 = .ok (.iload 4, 2) := by decide +kernel
theorem dX10_tellEnd_12 : decode cX10_tellEnd 12 = .ok (.aload_n 0, 1) := by decide +kernel
theorem dX10_tellEnd_13 : decode cX10_tellEnd 13 = .ok (.getfield 19, 3) := by decide +kernel
theorem dX10_tellEnd_16 : decode cX10_tellEnd 16 = .ok (.getfield 177, 3) := by decide +kernel
theorem dX10_tellEnd_19 : decode cX10_tellEnd 19 = .ok (.if_icmp .ge 27, 3) := by decide +kernel
theorem dX10_tellEnd_22 : decode cX10_tellEnd 22 = .ok (.aload_n 0, 1) := by decide +kernel
theorem dX10_tellEnd_23 : decode cX10_tellEnd 23 = .ok (.getfield 83, 3) := by decide +kernel
theorem dX10_tellEnd_26 : decode cX10_tellEnd 26 = .ok (.aload_n 0, 1) := by decide +kernel
theorem dX10_tellEnd_27 : decode cX10_tellEnd 27 = .ok (.getfield 69, 3) := by decide +kernel
theorem dX10_tellEnd_30 : decode cX10_tellEnd 30 = .ok (.getfield 244, 3) := by decide +kernel
theorem dX10_tellEnd_33 : decode cX10_tellEnd 33 = .ok (.iload 4, 2) := by decide +kernel
theorem dX10_tellEnd_35 : decode cX10_tellEnd 35 = .ok (.iaload, 1) := by decide +kernel
theorem dX10_tellEnd_36 : decode cX10_tellEnd 36 = .ok (.i2l, 1) := by decide +kernel
theorem dX10_tellEnd_37 : decode cX10_tellEnd 37 = .ok (.invokevirtual 173, 3) := by decide +kernel
theorem dX10_tellEnd_40 : decode cX10_tellEnd 40 = .ok (.iinc 4 1, 3) := by decide +kernel
theorem dX10_tellEnd_43 : decode cX10_tellEnd 43 = .ok (.goto (-33), 3) := by decide +kernel
theorem dX10_tellEnd_46 : decode cX10_tellEnd 46 = .ok (.aload_n 0, 1) := by decide +kernel
theorem dX10_tellEnd_47 : decode cX10_tellEnd 47 = .ok (.getfield 83, 3) := by decide +kernel
theorem dX10_tellEnd_50 : decode cX10_tellEnd 50 = .ok (.aload_n 0, 1) := by decide +kernel
theorem dX10_tellEnd_51 : decode cX10_tellEnd 51 = .ok (.getfield 69, 3) := by decide +kernel
theorem dX10_tellEnd_54 : decode cX10_tellEnd 54 = .ok (.invokevirtual 274, 3) := by decide +kernel
theorem dX10_tellEnd_57 : decode cX10_tellEnd 57 = .ok (.iload_n 1, 1) := by decide +kernel
theorem dX10_tellEnd_58 : decode cX10_tellEnd 58 = .ok (.isub, 1) := by decide +kernel
theorem dX10_tellEnd_59 : decode cX10_tellEnd 59 = .ok (.i2l, 1) := by decide +kernel
theorem dX10_tellEnd_60 : decode cX10_tellEnd 60 = .ok (.invokevirtual 173, 3) := by decide +kernel
theorem dX10_tellEnd_63 : decode cX10_tellEnd 63 = .ok (.aload_n 0, 1) := by decide +kernel
theorem dX10_tellEnd_64 : decode cX10_tellEnd 64 = .ok (.getfield 83, 3) := by decide +kernel
theorem dX10_tellEnd_67 : decode cX10_tellEnd 67 = .ok (.aload_n 0, 1) := by decide +kernel
theorem dX10_tellEnd_68 : decode cX10_tellEnd 68 = .ok (.getfield 69, 3) := by decide +kernel
theorem dX10_tellEnd_71 : decode cX10_tellEnd 71 = .ok (.invokevirtual 278, 3) := by decide +kernel
theorem dX10_tellEnd_74 : decode cX10_tellEnd 74 = .ok (.iload_n 2, 1) := by decide +kernel
theorem dX10_tellEnd_75 : decode cX10_tellEnd 75 = .ok (.isub, 1) := by decide +kernel
theorem dX10_tellEnd_76 : decode cX10_tellEnd 76 = .ok (.i2l, 1) := by decide +kernel
theorem dX10_tellEnd_77 : decode cX10_tellEnd 77 = .ok (.invokevirtual 173, 3) := by decide +kernel
theorem dX10_tellEnd_80 : decode cX10_tellEnd 80 = .ok (.aload_n 0, 1) := by decide +kernel
theorem dX10_tellEnd_81 : decode cX10_tellEnd 81 = .ok (.getfield 83, 3) := by decide +kernel
theorem dX10_tellEnd_84 : decode cX10_tellEnd 84 = .ok (.aload_n 0, 1) := by decide +kernel
theorem dX10_tellEnd_85 : decode cX10_tellEnd 85 = .ok (.getfield 69, 3) := by decide +kernel
theorem dX10_tellEnd_88 : decode cX10_tellEnd 88 = .ok (.getfield 281, 3) := by decide +kernel
theorem dX10_tellEnd_91 : decode cX10_tellEnd 91 = .ok (.iload_n 3, 1) := by decide +kernel
theorem dX10_tellEnd_92 : decode cX10_tellEnd 92 = .ok (.isub, 1) := by decide +kernel
theorem dX10_tellEnd_93 : decode cX10_tellEnd 93 = .ok (.i2l, 1) := by decide +kernel
theorem dX10_tellEnd_94 : decode cX10_tellEnd 94 = .ok (.invokevirtual 173, 3) := by decide +kernel
theorem dX10_tellEnd_97 : decode cX10_tellEnd 97 = .ok (.return_, 1) := by decide +kernel
theorem dX10_ends_0 : decode cX10_ends 0 = .ok (.aload_n 0, 1) := by decide +kernel
theorem dX10_ends_1 : decode cX10_ends 1 = .ok (.getfield 19, 3) := by decide +kernel
theorem dX10_ends_4 : decode cX10_ends 4 = .ok (.getfield 177, 3) := by decide +kernel
theorem dX10_ends_7 : decode cX10_ends 7 = .ok (.ifCond .ne 5, 3) := by decide +kernel
theorem dX10_ends_10 : decode cX10_ends 10 = .ok (.iconst (-1), 1) := by decide +kernel
theorem dX10_ends_11 : decode cX10_ends 11 = .ok (.ireturn, 1) := by decide +kernel
theorem dX10_ends_12 : decode cX10_ends 12 = .ok (.aload_n 0, 1) := by decide +kernel
theorem dX10_ends_13 : decode cX10_ends 13 = .ok (.getfield 42, 3) := by decide +kernel
theorem dX10_ends_16 : decode cX10_ends 16 = .ok (.aload_n 0, 1) := by decide +kernel
theorem dX10_ends_17 : decode cX10_ends 17 = .ok (.invokevirtual 266, 3) := by decide +kernel
theorem dX10_ends_20 : decode cX10_ends 20 = .ok (.sipush 2399, 3) := by decide +kernel
theorem dX10_ends_23 : decode cX10_ends 23 = .ok (.invokevirtual 270, 3) := by decide +kernel
theorem dX10_ends_26 : decode cX10_ends 26 = .ok (.istore_n 1, 1) := by decide +kernel
theorem dX10_ends_27 : decode cX10_ends 27 = .ok (.iload_n 1, 1) := by decide +kernel
theorem dX10_ends_28 : decode cX10_ends 28 = .ok (.bipush (-2), 2) := by decide +kernel
theorem dX10_ends_30 : decode cX10_ends 30 = .ok (.if_icmp .eq 28, 3) := by decide +kernel
theorem dX10_ends_33 : decode cX10_ends 33 = .ok (.aload_n 0, 1) := by decide +kernel
theorem dX10_ends_34 : decode cX10_ends 34 = .ok (.aload_n 0, 1) := by decide +kernel
theorem dX10_ends_35 : decode cX10_ends 35 = .ok (.getfield 65, 3) := by decide +kernel
theorem dX10_ends_38 : decode cX10_ends 38 = .ok (.invokevirtual 274, 3) := by decide +kernel
theorem dX10_ends_41 : decode cX10_ends 41 = .ok (.aload_n 0, 1) := by decide +kernel
theorem dX10_ends_42 : decode cX10_ends 42 = .ok (.getfield 65, 3) := by decide +kernel
theorem dX10_ends_45 : decode cX10_ends 45 = .ok (.invokevirtual 278, 3) := by decide +kernel
theorem dX10_ends_48 : decode cX10_ends 48 = .ok (.aload_n 0, 1) := by decide +kernel
theorem dX10_ends_49 : decode cX10_ends 49 = .ok (.getfield 65, 3) := by decide +kernel
theorem dX10_ends_52 : decode cX10_ends 52 = .ok (.getfield 281, 3) := by decide +kernel
theorem dX10_ends_55 : decode cX10_ends 55 = .ok (.invokevirtual 284, 3) := by decide +kernel
theorem dX10_ends_58 : decode cX10_ends 58 = .ok (.iload_n 1, 1) := by decide +kernel
theorem dX10_ends_59 : decode cX10_ends 59 = .ok (.ireturn, 1) := by decide +kernel
theorem dX10_judge_0 : decode cX10_judge 0 = .ok (.aload_n 0, 1) := by decide +kernel
theorem dX10_judge_1 : decode cX10_judge 1 = .ok (.getfield 19, 3) := by decide +kernel
theorem dX10_judge_4 : decode cX10_judge 4 = .ok (.getfield 177, 3) := by decide +kernel
theorem dX10_judge_7 : decode cX10_judge 7 = .ok (.ifCond .ne 5, 3) := by decide +kernel
theorem dX10_judge_10 : decode cX10_judge 10 = .ok (.iconst (-1), 1) := by decide +kernel
theorem dX10_judge_11 : decode cX10_judge 11 = .ok (.ireturn, 1) := by decide +kernel
theorem dX10_judge_12 : decode cX10_judge 12 = .ok (.aload_n 0, 1) := by decide +kernel
theorem dX10_judge_13 : decode cX10_judge 13 = .ok (.invokevirtual 266, 3) := by decide +kernel
theorem dX10_judge_16 : decode cX10_judge 16 = .ok (.pop, 1) := by decide +kernel
theorem dX10_judge_17 : decode cX10_judge 17 = .ok (.aload_n 0, 1) := by decide +kernel
theorem dX10_judge_18 : decode cX10_judge 18 = .ok (.getfield 69, 3) := by decide +kernel
theorem dX10_judge_21 : decode cX10_judge 21 = .ok (.getfield 218, 3) := by decide +kernel
theorem dX10_judge_24 : decode cX10_judge 24 = .ok (.istore_n 1, 1) := by decide +kernel
theorem dX10_judge_25 : decode cX10_judge 25 = .ok (.iload_n 1, 1) := by decide +kernel
theorem dX10_judge_26 : decode cX10_judge 26 = .ok (.sipush 2399, 3) := by decide +kernel
theorem dX10_judge_29 : decode cX10_judge 29 = .ok (.if_icmp .ge 117, 3) := by decide +kernel
theorem dX10_judge_32 : decode cX10_judge 32 = .ok (.aload_n 0, 1) := by decide +kernel
theorem dX10_judge_33 : decode cX10_judge 33 = .ok (.getfield 69, 3) := by decide +kernel
theorem dX10_judge_36 : decode cX10_judge 36 = .ok (.getfield 260, 3) := by decide +kernel
theorem dX10_judge_39 : decode cX10_judge 39 = .ok (.aload_n 0, 1) := by decide +kernel
theorem dX10_judge_40 : decode cX10_judge 40 = .ok (.getfield 19, 3) := by decide +kernel
theorem dX10_judge_43 : decode cX10_judge 43 = .ok (.invokevirtual 287, 3) := by decide +kernel
theorem dX10_judge_46 : decode cX10_judge 46 = .ok (.if_icmp .eq 100, 3) := by decide +kernel
theorem dX10_judge_49 : decode cX10_judge 49 = .ok (.aload_n 0, 1) := by decide +kernel
theorem dX10_judge_50 : decode cX10_judge 50 = .ok (.getfield 42, 3) := by decide +kernel
theorem dX10_judge_53 : decode cX10_judge 53 = .ok (.aload_n 0, 1) := by decide +kernel
theorem dX10_judge_54 : decode cX10_judge 54 = .ok (.getfield 69, 3) := by decide +kernel
theorem dX10_judge_57 : decode cX10_judge 57 = .ok (.invokevirtual 256, 3) := by decide +kernel
theorem dX10_judge_60 : decode cX10_judge 60 = .ok (.aload_n 0, 1) := by decide +kernel
theorem dX10_judge_61 : decode cX10_judge 61 = .ok (.getfield 69, 3) := by decide +kernel
theorem dX10_judge_64 : decode cX10_judge 64 = .ok (.getfield 241, 3) := by decide +kernel
theorem dX10_judge_67 : decode cX10_judge 67 = .ok (.iconst (-1), 1) := by decide +kernel
theorem dX10_judge_68 : decode cX10_judge 68 = .ok (.ixor, 1) := by decide +kernel
theorem dX10_judge_69 : decode cX10_judge 69 = .ok (.iand, 1) := by decide +kernel
theorem dX10_judge_70 : decode cX10_judge 70 = .ok (.istore_n 2, 1) := by decide +kernel
theorem dX10_judge_71 : decode cX10_judge 71 = .ok (.aload_n 0, 1) := by decide +kernel
theorem dX10_judge_72 : decode cX10_judge 72 = .ok (.getfield 42, 3) := by decide +kernel
theorem dX10_judge_75 : decode cX10_judge 75 = .ok (.aload_n 0, 1) := by decide +kernel
theorem dX10_judge_76 : decode cX10_judge 76 = .ok (.getfield 69, 3) := by decide +kernel
theorem dX10_judge_79 : decode cX10_judge 79 = .ok (.invokevirtual 228, 3) := by decide +kernel
theorem dX10_judge_82 : decode cX10_judge 82 = .ok (.aload_n 0, 1) := by decide +kernel
theorem dX10_judge_83 : decode cX10_judge 83 = .ok (.getfield 42, 3) := by decide +kernel
theorem dX10_judge_86 : decode cX10_judge 86 = .ok (.iload_n 2, 1) := by decide +kernel
theorem dX10_judge_87 : decode cX10_judge 87 = .ok (.aload_n 0, 1) := by decide +kernel
theorem dX10_judge_88 : decode cX10_judge 88 = .ok (.getfield 42, 3) := by decide +kernel
theorem dX10_judge_91 : decode cX10_judge 91 = .ok (.getfield 290, 3) := by decide +kernel
theorem dX10_judge_94 : decode cX10_judge 94 = .ok (.iconst (-1), 1) := by decide +kernel
theorem dX10_judge_95 : decode cX10_judge 95 = .ok (.ixor, 1) := by decide +kernel
theorem dX10_judge_96 : decode cX10_judge 96 = .ok (.iand, 1) := by decide +kernel
theorem dX10_judge_97 : decode cX10_judge 97 = .ok (.iload_n 1, 1) := by decide +kernel
theorem dX10_judge_98 : decode cX10_judge 98 = .ok (.invokevirtual 293, 3) := by decide +kernel
theorem dX10_judge_101 : decode cX10_judge 101 = .ok (.istore_n 3, 1) := by decide +kernel
theorem dX10_judge_102 : decode cX10_judge 102 = .ok (.iload_n 3, 1) := by decide +kernel
theorem dX10_judge_103 : decode cX10_judge 103 = .ok (.iconst (-1), 1) := by decide +kernel
theorem dX10_judge_104 : decode cX10_judge 104 = .ok (.if_icmp .eq 36, 3) := by decide +kernel
theorem dX10_judge_107 : decode cX10_judge 107 = .ok (.aload_n 0, 1) := by decide +kernel
theorem dX10_judge_108 : decode cX10_judge 108 = .ok (.getfield 83, 3) := by decide +kernel
theorem dX10_judge_111 : decode cX10_judge 111 = .ok (.invokevirtual 170, 3) := by decide +kernel
theorem dX10_judge_114 : decode cX10_judge 114 = .ok (.aload_n 0, 1) := by decide +kernel
theorem dX10_judge_115 : decode cX10_judge 115 = .ok (.getfield 83, 3) := by decide +kernel
theorem dX10_judge_118 : decode cX10_judge 118 = .ok (.iload_n 3, 1) := by decide +kernel
theorem dX10_judge_119 : decode cX10_judge 119 = .ok (.bipush 6, 2) := by decide +kernel
theorem dX10_judge_121 : decode cX10_judge 121 = .ok (.idiv, 1) := by decide +kernel
theorem dX10_judge_122 : decode cX10_judge 122 = .ok (.i2l, 1) := by decide +kernel
theorem dX10_judge_123 : decode cX10_judge 123 = .ok (.invokevirtual 173, 3) := by decide +kernel
theorem dX10_judge_126 : decode cX10_judge 126 = .ok (.aload_n 0, 1) := by decide +kernel
theorem dX10_judge_127 : decode cX10_judge 127 = .ok (.getfield 83, 3) := by decide +kernel
theorem dX10_judge_130 : decode cX10_judge 130 = .ok (.iload_n 3, 1) := by decide +kernel
theorem dX10_judge_131 : decode cX10_judge 131 = .ok (.bipush 6, 2) := by decide +kernel
theorem dX10_judge_133 : decode cX10_judge 133 = .ok (.irem, 1) := by decide +kernel
theorem dX10_judge_134 : decode cX10_judge 134 = .ok (.i2l, 1) := by decide +kernel
theorem dX10_judge_135 : decode cX10_judge 135 = .ok (.invokevirtual 173, 3) := by decide +kernel
theorem dX10_judge_138 : decode cX10_judge 138 = .ok (.iload_n 1, 1) := by decide +kernel
theorem dX10_judge_139 : decode cX10_judge 139 = .ok (.ireturn, 1) := by decide +kernel
theorem dX10_judge_140 : decode cX10_judge 140 = .ok (.iinc 1 1, 3) := by decide +kernel
theorem dX10_judge_143 : decode cX10_judge 143 = .ok (.goto (-118), 3) := by decide +kernel
theorem dX10_judge_146 : decode cX10_judge 146 = .ok (.bipush (-2), 2) := by decide +kernel
theorem dX10_judge_148 : decode cX10_judge 148 = .ok (.ireturn, 1) := by decide +kernel
theorem dX10_one_0 : decode cX10_one 0 = .ok (.aload_n 0, 1) := by decide +kernel
theorem dX10_one_1 : decode cX10_one 1 = .ok (.getfield 19, 3) := by decide +kernel
theorem dX10_one_4 : decode cX10_one 4 = .ok (.iload_n 1, 1) := by decide +kernel
theorem dX10_one_5 : decode cX10_one 5 = .ok (.invokevirtual 214, 3) := by decide +kernel
theorem dX10_one_8 : decode cX10_one 8 = .ok (.ifCond .eq 19, 3) := by decide +kernel
theorem dX10_one_11 : decode cX10_one 11 = .ok (.iload_n 2, 1) := by decide +kernel
theorem dX10_one_12 : decode cX10_one 12 = .ok (.invokestatic 119, 3) := by decide +kernel
theorem dX10_one_15 : decode cX10_one 15 = .ok (.ifCond .eq 12, 3) := by decide +kernel
theorem dX10_one_18 : decode cX10_one 18 = .ok (.iload_n 3, 1) := by decide +kernel
theorem dX10_one_19 : decode cX10_one 19 = .ok (.ifCond .lt 8, 3) := by decide +kernel
theorem dX10_one_22 : decode cX10_one 22 = .ok (.iload_n 3, 1) := by decide +kernel
theorem dX10_one_23 : decode cX10_one 23 = .ok (.iconst 3, 1) := by decide +kernel
theorem dX10_one_24 : decode cX10_one 24 = .ok (.if_icmp .le 5, 3) := by decide +kernel
theorem dX10_one_27 : decode cX10_one 27 = .ok (.iconst (-1), 1) := by decide +kernel
theorem dX10_one_28 : decode cX10_one 28 = .ok (.ireturn, 1) := by decide +kernel
theorem dX10_one_29 : decode cX10_one 29 = .ok (.aload_n 0, 1) := by decide +kernel
theorem dX10_one_30 : decode cX10_one 30 = .ok (.getfield 51, 3) := by decide +kernel
theorem dX10_one_33 : decode cX10_one 33 = .ok (.aload_n 0, 1) := by decide +kernel
theorem dX10_one_34 : decode cX10_one 34 = .ok (.getfield 19, 3) := by decide +kernel
theorem dX10_one_37 : decode cX10_one 37 = .ok (.getfield 190, 3) := by decide +kernel
theorem dX10_one_40 : decode cX10_one 40 = .ok (.iload_n 1, 1) := by decide +kernel
theorem dX10_one_41 : decode cX10_one 41 = .ok (.iaload, 1) := by decide +kernel
theorem dX10_one_42 : decode cX10_one 42 = .ok (.iload_n 3, 1) := by decide +kernel
theorem dX10_one_43 : decode cX10_one 43 = .ok (.invokevirtual 296, 3) := by decide +kernel
theorem dX10_one_46 : decode cX10_one 46 = .ok (.aload_n 0, 1) := by decide +kernel
theorem dX10_one_47 : decode cX10_one 47 = .ok (.getfield 51, 3) := by decide +kernel
theorem dX10_one_50 : decode cX10_one 50 = .ok (.aload_n 0, 1) := by decide +kernel
theorem dX10_one_51 : decode cX10_one 51 = .ok (.getfield 19, 3) := by decide +kernel
theorem dX10_one_54 : decode cX10_one 54 = .ok (.iload_n 1, 1) := by decide +kernel
theorem dX10_one_55 : decode cX10_one 55 = .ok (.iload_n 2, 1) := by decide +kernel
theorem dX10_one_56 : decode cX10_one 56 = .ok (.sipush 2399, 3) := by decide +kernel
theorem dX10_one_59 : decode cX10_one 59 = .ok (.invokevirtual 300, 3) := by decide +kernel
theorem dX10_one_62 : decode cX10_one 62 = .ok (.istore 4, 2) := by decide +kernel
theorem dX10_one_64 : decode cX10_one 64 = .ok (.iload 4, 2) := by decide +kernel
theorem dX10_one_66 : decode cX10_one 66 = .ok (.bipush (-2), 2) := by decide +kernel
theorem dX10_one_68 : decode cX10_one 68 = .ok (.if_icmp .eq 14, 3) := by decide +kernel
theorem dX10_one_71 : decode cX10_one 71 = .ok (.aload_n 0, 1) := by decide +kernel
theorem dX10_one_72 : decode cX10_one 72 = .ok (.getfield 51, 3) := by decide +kernel
theorem dX10_one_75 : decode cX10_one 75 = .ok (.aload_n 0, 1) := by decide +kernel
theorem dX10_one_76 : decode cX10_one 76 = .ok (.getfield 83, 3) := by decide +kernel
theorem dX10_one_79 : decode cX10_one 79 = .ok (.invokevirtual 304, 3) := by decide +kernel
theorem dX10_one_82 : decode cX10_one 82 = .ok (.iload 4, 2) := by decide +kernel
theorem dX10_one_84 : decode cX10_one 84 = .ok (.ireturn, 1) := by decide +kernel
theorem dX10_cheap_0 : decode cX10_cheap 0 = .ok (.aload_n 0, 1) := by decide +kernel
theorem dX10_cheap_1 : decode cX10_cheap 1 = .ok (.getfield 19, 3) := by decide +kernel
theorem dX10_cheap_4 : decode cX10_cheap 4 = .ok (.iload_n 1, 1) := by decide +kernel
theorem dX10_cheap_5 : decode cX10_cheap 5 = .ok (.invokevirtual 214, 3) := by decide +kernel
theorem dX10_cheap_8 : decode cX10_cheap 8 = .ok (.ifCond .eq 19, 3) := by decide +kernel
theorem dX10_cheap_11 : decode cX10_cheap 11 = .ok (.iload_n 2, 1) := by decide +kernel
theorem dX10_cheap_12 : decode cX10_cheap 12 = .ok (.invokestatic 119, 3) := by decide +kernel
theorem dX10_cheap_15 : decode cX10_cheap 15 = .ok (.ifCond .eq 12, 3) := by decide +kernel
theorem dX10_cheap_18 : decode cX10_cheap 18 = .ok (.iload_n 3, 1) := by decide +kernel
theorem dX10_cheap_19 : decode cX10_cheap 19 = .ok (.ifCond .lt 8, 3) := by decide +kernel
theorem dX10_cheap_22 : decode cX10_cheap 22 = .ok (.iload_n 3, 1) := by decide +kernel
theorem dX10_cheap_23 : decode cX10_cheap 23 = .ok (.iconst 2, 1) := by decide +kernel
theorem dX10_cheap_24 : decode cX10_cheap 24 = .ok (.if_icmp .le 5, 3) := by decide +kernel
theorem dX10_cheap_27 : decode cX10_cheap 27 = .ok (.iconst (-1), 1) := by decide +kernel
theorem dX10_cheap_28 : decode cX10_cheap 28 = .ok (.ireturn, 1) := by decide +kernel
theorem dX10_cheap_29 : decode cX10_cheap 29 = .ok (.iload 4, 2) := by decide +kernel
theorem dX10_cheap_31 : decode cX10_cheap 31 = .ok (.invokestatic 119, 3) := by decide +kernel
theorem dX10_cheap_34 : decode cX10_cheap 34 = .ok (.ifCond .eq 19, 3) := by decide +kernel
theorem dX10_cheap_37 : decode cX10_cheap 37 = .ok (.iload 4, 2) := by decide +kernel
theorem dX10_cheap_39 : decode cX10_cheap 39 = .ok (.iload_n 2, 1) := by decide +kernel
theorem dX10_cheap_40 : decode cX10_cheap 40 = .ok (.if_icmp .lt 13, 3) := by decide +kernel
theorem dX10_cheap_43 : decode cX10_cheap 43 = .ok (.iload 4, 2) := by decide +kernel
theorem dX10_cheap_45 : decode cX10_cheap 45 = .ok (.iload_n 2, 1) := by decide +kernel
theorem dX10_cheap_46 : decode cX10_cheap 46 = .ok (.sipush 400, 3) := by decide +kernel
theorem dX10_cheap_49 : decode cX10_cheap 49 = .ok (.iadd, 1) := by decide +kernel
theorem dX10_cheap_50 : decode cX10_cheap 50 = .ok (.if_icmp .le 5, 3) := by decide +kernel
theorem dX10_cheap_53 : decode cX10_cheap 53 = .ok (.iconst (-1), 1) := by decide +kernel
theorem dX10_cheap_54 : decode cX10_cheap 54 = .ok (.ireturn, 1) := by decide +kernel
theorem dX10_cheap_55 : decode cX10_cheap 55 = .ok (.aload_n 0, 1) := by decide +kernel
theorem dX10_cheap_56 : decode cX10_cheap 56 = .ok (.getfield 51, 3) := by decide +kernel
theorem dX10_cheap_59 : decode cX10_cheap 59 = .ok (.aload_n 0, 1) := by decide +kernel
theorem dX10_cheap_60 : decode cX10_cheap 60 = .ok (.getfield 19, 3) := by decide +kernel
theorem dX10_cheap_63 : decode cX10_cheap 63 = .ok (.getfield 190, 3) := by decide +kernel
theorem dX10_cheap_66 : decode cX10_cheap 66 = .ok (.iload_n 1, 1) := by decide +kernel
theorem dX10_cheap_67 : decode cX10_cheap 67 = .ok (.iaload, 1) := by decide +kernel
theorem dX10_cheap_68 : decode cX10_cheap 68 = .ok (.iload_n 3, 1) := by decide +kernel
theorem dX10_cheap_69 : decode cX10_cheap 69 = .ok (.invokevirtual 296, 3) := by decide +kernel
theorem dX10_cheap_72 : decode cX10_cheap 72 = .ok (.aload_n 0, 1) := by decide +kernel
theorem dX10_cheap_73 : decode cX10_cheap 73 = .ok (.getfield 51, 3) := by decide +kernel
theorem dX10_cheap_76 : decode cX10_cheap 76 = .ok (.aload_n 0, 1) := by decide +kernel
theorem dX10_cheap_77 : decode cX10_cheap 77 = .ok (.getfield 19, 3) := by decide +kernel
theorem dX10_cheap_80 : decode cX10_cheap 80 = .ok (.iload_n 1, 1) := by decide +kernel
theorem dX10_cheap_81 : decode cX10_cheap 81 = .ok (.iload_n 2, 1) := by decide +kernel
theorem dX10_cheap_82 : decode cX10_cheap 82 = .ok (.iload 4, 2) := by decide +kernel
theorem dX10_cheap_84 : decode cX10_cheap 84 = .ok (.invokevirtual 308, 3) := by decide +kernel
theorem dX10_cheap_87 : decode cX10_cheap 87 = .ok (.istore 5, 2) := by decide +kernel
theorem dX10_cheap_89 : decode cX10_cheap 89 = .ok (.iload 5, 2) := by decide +kernel
theorem dX10_cheap_91 : decode cX10_cheap 91 = .ok (.bipush (-2), 2) := by decide +kernel
theorem dX10_cheap_93 : decode cX10_cheap 93 = .ok (.if_icmp .eq 14, 3) := by decide +kernel
theorem dX10_cheap_96 : decode cX10_cheap 96 = .ok (.aload_n 0, 1) := by decide +kernel
theorem dX10_cheap_97 : decode cX10_cheap 97 = .ok (.getfield 51, 3) := by decide +kernel
theorem dX10_cheap_100 : decode cX10_cheap 100 = .ok (.aload_n 0, 1) := by decide +kernel
theorem dX10_cheap_101 : decode cX10_cheap 101 = .ok (.getfield 83, 3) := by decide +kernel
theorem dX10_cheap_104 : decode cX10_cheap 104 = .ok (.invokevirtual 304, 3) := by decide +kernel
theorem dX10_cheap_107 : decode cX10_cheap 107 = .ok (.iload 5, 2) := by decide +kernel
theorem dX10_cheap_109 : decode cX10_cheap 109 = .ok (.ireturn, 1) := by decide +kernel
theorem dX10_edge_0 : decode cX10_edge 0 = .ok (.aload_n 0, 1) := by decide +kernel
theorem dX10_edge_1 : decode cX10_edge 1 = .ok (.getfield 19, 3) := by decide +kernel
theorem dX10_edge_4 : decode cX10_edge 4 = .ok (.iload_n 1, 1) := by decide +kernel
theorem dX10_edge_5 : decode cX10_edge 5 = .ok (.invokevirtual 214, 3) := by decide +kernel
theorem dX10_edge_8 : decode cX10_edge 8 = .ok (.ifCond .eq 20, 3) := by decide +kernel
theorem dX10_edge_11 : decode cX10_edge 11 = .ok (.iload_n 2, 1) := by decide +kernel
theorem dX10_edge_12 : decode cX10_edge 12 = .ok (.invokestatic 119, 3) := by decide +kernel
theorem dX10_edge_15 : decode cX10_edge 15 = .ok (.ifCond .eq 13, 3) := by decide +kernel
theorem dX10_edge_18 : decode cX10_edge 18 = .ok (.iload_n 3, 1) := by decide +kernel
theorem dX10_edge_19 : decode cX10_edge 19 = .ok (.iconst 1, 1) := by decide +kernel
theorem dX10_edge_20 : decode cX10_edge 20 = .ok (.if_icmp .lt 8, 3) := by decide +kernel
theorem dX10_edge_23 : decode cX10_edge 23 = .ok (.iload_n 3, 1) := by decide +kernel
theorem dX10_edge_24 : decode cX10_edge 24 = .ok (.iconst 3, 1) := by decide +kernel
theorem dX10_edge_25 : decode cX10_edge 25 = .ok (.if_icmp .le 5, 3) := by decide +kernel
theorem dX10_edge_28 : decode cX10_edge 28 = .ok (.iconst (-1), 1) := by decide +kernel
theorem dX10_edge_29 : decode cX10_edge 29 = .ok (.ireturn, 1) := by decide +kernel
theorem dX10_edge_30 : decode cX10_edge 30 = .ok (.aload_n 0, 1) := by decide +kernel
theorem dX10_edge_31 : decode cX10_edge 31 = .ok (.getfield 19, 3) := by decide +kernel
theorem dX10_edge_34 : decode cX10_edge 34 = .ok (.getfield 190, 3) := by decide +kernel
theorem dX10_edge_37 : decode cX10_edge 37 = .ok (.iload_n 1, 1) := by decide +kernel
theorem dX10_edge_38 : decode cX10_edge 38 = .ok (.iaload, 1) := by decide +kernel
theorem dX10_edge_39 : decode cX10_edge 39 = .ok (.istore 4, 2) := by decide +kernel
theorem dX10_edge_41 : decode cX10_edge 41 = .ok (.aload_n 0, 1) := by decide +kernel
theorem dX10_edge_42 : decode cX10_edge 42 = .ok (.getfield 51, 3) := by decide +kernel
theorem dX10_edge_45 : decode cX10_edge 45 = .ok (.iload 4, 2) := by decide +kernel
theorem dX10_edge_47 : decode cX10_edge 47 = .ok (.iconst 0, 1) := by decide +kernel
theorem dX10_edge_48 : decode cX10_edge 48 = .ok (.invokevirtual 296, 3) := by decide +kernel
theorem dX10_edge_51 : decode cX10_edge 51 = .ok (.aload_n 0, 1) := by decide +kernel
theorem dX10_edge_52 : decode cX10_edge 52 = .ok (.getfield 51, 3) := by decide +kernel
theorem dX10_edge_55 : decode cX10_edge 55 = .ok (.aload_n 0, 1) := by decide +kernel
theorem dX10_edge_56 : decode cX10_edge 56 = .ok (.getfield 19, 3) := by decide +kernel
theorem dX10_edge_59 : decode cX10_edge 59 = .ok (.iload_n 1, 1) := by decide +kernel
theorem dX10_edge_60 : decode cX10_edge 60 = .ok (.iload_n 2, 1) := by decide +kernel
theorem dX10_edge_61 : decode cX10_edge 61 = .ok (.sipush 2399, 3) := by decide +kernel
theorem dX10_edge_64 : decode cX10_edge 64 = .ok (.invokevirtual 300, 3) := by decide +kernel
theorem dX10_edge_67 : decode cX10_edge 67 = .ok (.istore 5, 2) := by decide +kernel
theorem dX10_edge_69 : decode cX10_edge 69 = .ok (.iload 5, 2) := by decide +kernel
theorem dX10_edge_71 : decode cX10_edge 71 = .ok (.bipush (-2), 2) := by decide +kernel
theorem dX10_edge_73 : decode cX10_edge 73 = .ok (.if_icmp .ne 5, 3) := by decide +kernel
theorem dX10_edge_76 : decode cX10_edge 76 = .ok (.iconst (-1), 1) := by decide +kernel
theorem dX10_edge_77 : decode cX10_edge 77 = .ok (.ireturn, 1) := by decide +kernel
theorem dX10_edge_78 : decode cX10_edge 78 = .ok (.aload_n 0, 1) := by decide +kernel
theorem dX10_edge_79 : decode cX10_edge 79 = .ok (.getfield 83, 3) := by decide +kernel
theorem dX10_edge_82 : decode cX10_edge 82 = .ok (.invokevirtual 170, 3) := by decide +kernel
theorem dX10_edge_85 : decode cX10_edge 85 = .ok (.aload_n 0, 1) := by decide +kernel
theorem dX10_edge_86 : decode cX10_edge 86 = .ok (.getfield 83, 3) := by decide +kernel
theorem dX10_edge_89 : decode cX10_edge 89 = .ok (.iload 5, 2) := by decide +kernel
theorem dX10_edge_91 : decode cX10_edge 91 = .ok (.i2l, 1) := by decide +kernel
theorem dX10_edge_92 : decode cX10_edge 92 = .ok (.invokevirtual 173, 3) := by decide +kernel
theorem dX10_edge_95 : decode cX10_edge 95 = .ok (.aload_n 0, 1) := by decide +kernel
theorem dX10_edge_96 : decode cX10_edge 96 = .ok (.getfield 51, 3) := by decide +kernel
theorem dX10_edge_99 : decode cX10_edge 99 = .ok (.iload 4, 2) := by decide +kernel
theorem dX10_edge_101 : decode cX10_edge 101 = .ok (.iload_n 3, 1) := by decide +kernel
theorem dX10_edge_102 : decode cX10_edge 102 = .ok (.invokevirtual 296, 3) := by decide +kernel
theorem dX10_edge_105 : decode cX10_edge 105 = .ok (.aload_n 0, 1) := by decide +kernel
theorem dX10_edge_106 : decode cX10_edge 106 = .ok (.getfield 12, 3) := by decide +kernel
theorem dX10_edge_109 : decode cX10_edge 109 = .ok (.getfield 145, 3) := by decide +kernel
theorem dX10_edge_112 : decode cX10_edge 112 = .ok (.istore 6, 2) := by decide +kernel
theorem dX10_edge_114 : decode cX10_edge 114 = .ok (.iconst 0, 1) := by decide +kernel
theorem dX10_edge_115 : decode cX10_edge 115 = .ok (.istore 7, 2) := by decide +kernel
theorem dX10_edge_117 : decode cX10_edge 117 = .ok (.bipush 20, 2) := by decide +kernel
theorem dX10_edge_119 : decode cX10_edge 119 = .ok (.istore 8, 2) := by decide +kernel
theorem dX10_edge_121 : decode cX10_edge 121 = .ok (.iload 8, 2) := by decide +kernel
theorem dX10_edge_123 : decode cX10_edge 123 = .ok (.ifCond .lt 67, 3) := by decide +kernel
theorem dX10_edge_126 : decode cX10_edge 126 = .ok (.iload 7, 2) := by decide +kernel
theorem dX10_edge_128 : decode cX10_edge 128 = .ok (.ifCond .ne 62, 3) := by decide +kernel
theorem dX10_edge_131 : decode cX10_edge 131 = .ok (.aload_n 0, 1) := by decide +kernel
theorem dX10_edge_132 : decode cX10_edge 132 = .ok (.getfield 12, 3) := by decide +kernel
theorem dX10_edge_135 : decode cX10_edge 135 = .ok (.iload 8, 2) := by decide +kernel
theorem dX10_edge_137 : decode cX10_edge 137 = .ok (.putfield 145, 3) := by decide +kernel
theorem dX10_edge_140 : decode cX10_edge 140 = .ok (.aload_n 0, 1) := by decide +kernel
theorem dX10_edge_141 : decode cX10_edge 141 = .ok (.getfield 51, 3) := by decide +kernel
theorem dX10_edge_144 : decode cX10_edge 144 = .ok (.aload_n 0, 1) := by decide +kernel
theorem dX10_edge_145 : decode cX10_edge 145 = .ok (.getfield 19, 3) := by decide +kernel
theorem dX10_edge_148 : decode cX10_edge 148 = .ok (.iload_n 1, 1) := by decide +kernel
theorem dX10_edge_149 : decode cX10_edge 149 = .ok (.iload_n 2, 1) := by decide +kernel
theorem dX10_edge_150 : decode cX10_edge 150 = .ok (.iload 5, 2) := by decide +kernel
theorem dX10_edge_152 : decode cX10_edge 152 = .ok (.iconst 1, 1) := by decide +kernel
theorem dX10_edge_153 : decode cX10_edge 153 = .ok (.isub, 1) := by decide +kernel
theorem dX10_edge_154 : decode cX10_edge 154 = .ok (.invokevirtual 300, 3) := by decide +kernel
theorem dX10_edge_157 : decode cX10_edge 157 = .ok (.bipush (-2), 2) := by decide +kernel
theorem dX10_edge_159 : decode cX10_edge 159 = .ok (.if_icmp .eq 7, 3) := by decide +kernel
theorem dX10_edge_162 : decode cX10_edge 162 = .ok (.iconst 1, 1) := by decide +kernel
theorem dX10_edge_163 : decode cX10_edge 163 = .ok (.goto 4, 3) := by decide +kernel
theorem dX10_edge_166 : decode cX10_edge 166 = .ok (.iconst 0, 1) := by decide +kernel
theorem dX10_edge_167 : decode cX10_edge 167 = .ok (.istore 9, 2) := by decide +kernel
theorem dX10_edge_169 : decode cX10_edge 169 = .ok (.iload 9, 2) := by decide +kernel
theorem dX10_edge_171 : decode cX10_edge 171 = .ok (.ifCond .eq 10, 3) := by decide +kernel
theorem dX10_edge_174 : decode cX10_edge 174 = .ok (.iload 8, 2) := by decide +kernel
theorem dX10_edge_176 : decode cX10_edge 176 = .ok (.iconst 1, 1) := by decide +kernel
theorem dX10_edge_177 : decode cX10_edge 177 = .ok (.iadd, 1) := by decide +kernel
theorem dX10_edge_178 : decode cX10_edge 178 = .ok (.goto 4, 3) := by decide +kernel
theorem dX10_edge_181 : decode cX10_edge 181 = .ok (.iconst 0, 1) := by decide +kernel
theorem dX10_edge_182 : decode cX10_edge 182 = .ok (.istore 7, 2) := by decide +kernel
theorem dX10_edge_184 : decode cX10_edge 184 = .ok (.iinc 8 (-1), 3) := by decide +kernel
theorem dX10_edge_187 : decode cX10_edge 187 = .ok (.goto (-66), 3) := by decide +kernel
theorem dX10_edge_190 : decode cX10_edge 190 = .ok (.aload_n 0, 1) := by decide +kernel
theorem dX10_edge_191 : decode cX10_edge 191 = .ok (.getfield 12, 3) := by decide +kernel
theorem dX10_edge_194 : decode cX10_edge 194 = .ok (.iload 6, 2) := by decide +kernel
theorem dX10_edge_196 : decode cX10_edge 196 = .ok (.putfield 145, 3) := by decide +kernel
theorem dX10_edge_199 : decode cX10_edge 199 = .ok (.iload 7, 2) := by decide +kernel
theorem dX10_edge_201 : decode cX10_edge 201 = .ok (.bipush 20, 2) := by decide +kernel
theorem dX10_edge_203 : decode cX10_edge 203 = .ok (.if_icmp .le 8, 3) := by decide +kernel
theorem dX10_edge_206 : decode cX10_edge 206 = .ok (.bipush (-2), 2) := by decide +kernel
theorem dX10_edge_208 : decode cX10_edge 208 = .ok (.goto 5, 3) := by decide +kernel
theorem dX10_edge_211 : decode cX10_edge 211 = .ok (.iload 7, 2) := by decide +kernel
theorem dX10_edge_213 : decode cX10_edge 213 = .ok (.ireturn, 1) := by decide +kernel
theorem dX10_lie_0 : decode cX10_lie 0 = .ok (.aload_n 0, 1) := by decide +kernel
theorem dX10_lie_1 : decode cX10_lie 1 = .ok (.getfield 19, 3) := by decide +kernel
theorem dX10_lie_4 : decode cX10_lie 4 = .ok (.iload_n 1, 1) := by decide +kernel
theorem dX10_lie_5 : decode cX10_lie 5 = .ok (.invokevirtual 214, 3) := by decide +kernel
theorem dX10_lie_8 : decode cX10_lie 8 = .ok (.ifCond .eq 10, 3) := by decide +kernel
theorem dX10_lie_11 : decode cX10_lie 11 = .ok (.iload_n 2, 1) := by decide +kernel
theorem dX10_lie_12 : decode cX10_lie 12 = .ok (.invokestatic 119, 3) := by decide +kernel
theorem dX10_lie_15 : decode cX10_lie 15 = .ok (.ifCond .ne 5, 3) := by decide +kernel
theorem dX10_lie_18 : decode cX10_lie 18 = .ok (.iconst (-1), 1) := by decide +kernel
theorem dX10_lie_19 : decode cX10_lie 19 = .ok (.ireturn, 1) := by decide +kernel
theorem dX10_lie_20 : decode cX10_lie 20 = .ok (.bipush (-2), 2) := by decide +kernel
theorem dX10_lie_22 : decode cX10_lie 22 = .ok (.istore_n 3, 1) := by decide +kernel
theorem dX10_lie_23 : decode cX10_lie 23 = .ok (.sipush 2400, 3) := by decide +kernel
theorem dX10_lie_26 : decode cX10_lie 26 = .ok (.istore 4, 2) := by decide +kernel
theorem dX10_lie_28 : decode cX10_lie 28 = .ok (.iconst 0, 1) := by decide +kernel
theorem dX10_lie_29 : decode cX10_lie 29 = .ok (.istore 5, 2) := by decide +kernel
theorem dX10_lie_31 : decode cX10_lie 31 = .ok (.iconst 0, 1) := by decide +kernel
theorem dX10_lie_32 : decode cX10_lie 32 = .ok (.istore 6, 2) := by decide +kernel
theorem dX10_lie_34 : decode cX10_lie 34 = .ok (.iload 6, 2) := by decide +kernel
theorem dX10_lie_36 : decode cX10_lie 36 = .ok (.aload_n 0, 1) := by decide +kernel
theorem dX10_lie_37 : decode cX10_lie 37 = .ok (.getfield 12, 3) := by decide +kernel
theorem dX10_lie_40 : decode cX10_lie 40 = .ok (.getfield 95, 3) := by decide +kernel
theorem dX10_lie_43 : decode cX10_lie 43 = .ok (.if_icmp .ge 49, 3) := by decide +kernel
theorem dX10_lie_46 : decode cX10_lie 46 = .ok (.aload_n 0, 1) := by decide +kernel
theorem dX10_lie_47 : decode cX10_lie 47 = .ok (.getfield 42, 3) := by decide +kernel
theorem dX10_lie_50 : decode cX10_lie 50 = .ok (.iload_n 1, 1) := by decide +kernel
theorem dX10_lie_51 : decode cX10_lie 51 = .ok (.iload 6, 2) := by decide +kernel
theorem dX10_lie_53 : decode cX10_lie 53 = .ok (.iload_n 2, 1) := by decide +kernel
theorem dX10_lie_54 : decode cX10_lie 54 = .ok (.iload 4, 2) := by decide +kernel
theorem dX10_lie_56 : decode cX10_lie 56 = .ok (.iconst 1, 1) := by decide +kernel
theorem dX10_lie_57 : decode cX10_lie 57 = .ok (.isub, 1) := by decide +kernel
theorem dX10_lie_58 : decode cX10_lie 58 = .ok (.invokevirtual 311, 3) := by decide +kernel
theorem dX10_lie_61 : decode cX10_lie 61 = .ok (.istore 7, 2) := by decide +kernel
theorem dX10_lie_63 : decode cX10_lie 63 = .ok (.iload 7, 2) := by decide +kernel
theorem dX10_lie_65 : decode cX10_lie 65 = .ok (.bipush (-2), 2) := by decide +kernel
theorem dX10_lie_67 : decode cX10_lie 67 = .ok (.if_icmp .eq 19, 3) := by decide +kernel
theorem dX10_lie_70 : decode cX10_lie 70 = .ok (.iload 6, 2) := by decide +kernel
theorem dX10_lie_72 : decode cX10_lie 72 = .ok (.istore_n 3, 1) := by decide +kernel
theorem dX10_lie_73 : decode cX10_lie 73 = .ok (.iload 7, 2) := by decide +kernel
theorem dX10_lie_75 : decode cX10_lie 75 = .ok (.istore 4, 2) := by decide +kernel
theorem dX10_lie_77 : decode cX10_lie 77 = .ok (.aload_n 0, 1) := by decide +kernel
theorem dX10_lie_78 : decode cX10_lie 78 = .ok (.getfield 42, 3) := by decide +kernel
theorem dX10_lie_81 : decode cX10_lie 81 = .ok (.getfield 315, 3) := by decide +kernel
theorem dX10_lie_84 : decode cX10_lie 84 = .ok (.istore 5, 2) := by decide +kernel
theorem dX10_lie_86 : decode cX10_lie 86 = .ok (.iinc 6 1, 3) := by decide +kernel
theorem dX10_lie_89 : decode cX10_lie 89 = .ok (.goto (-55), 3) := by decide +kernel
theorem dX10_lie_92 : decode cX10_lie 92 = .ok (.iload_n 3, 1) := by decide +kernel
theorem dX10_lie_93 : decode cX10_lie 93 = .ok (.bipush (-2), 2) := by decide +kernel
theorem dX10_lie_95 : decode cX10_lie 95 = .ok (.if_icmp .eq 30, 3) := by decide +kernel
theorem dX10_lie_98 : decode cX10_lie 98 = .ok (.aload_n 0, 1) := by decide +kernel
theorem dX10_lie_99 : decode cX10_lie 99 = .ok (.getfield 83, 3) := by decide +kernel
theorem dX10_lie_102 : decode cX10_lie 102 = .ok (.invokevirtual 170, 3) := by decide +kernel
theorem dX10_lie_105 : decode cX10_lie 105 = .ok (.aload_n 0, 1) := by decide +kernel
theorem dX10_lie_106 : decode cX10_lie 106 = .ok (.getfield 83, 3) := by decide +kernel
theorem dX10_lie_109 : decode cX10_lie 109 = .ok (.iload 4, 2) := by decide +kernel
theorem dX10_lie_111 : decode cX10_lie 111 = .ok (.i2l, 1) := by decide +kernel
theorem dX10_lie_112 : decode cX10_lie 112 = .ok (.invokevirtual 173, 3) := by decide +kernel
theorem dX10_lie_115 : decode cX10_lie 115 = .ok (.aload_n 0, 1) := by decide +kernel
theorem dX10_lie_116 : decode cX10_lie 116 = .ok (.getfield 83, 3) := by decide +kernel
theorem dX10_lie_119 : decode cX10_lie 119 = .ok (.iload 5, 2) := by decide +kernel
theorem dX10_lie_121 : decode cX10_lie 121 = .ok (.i2l, 1) := by decide +kernel
theorem dX10_lie_122 : decode cX10_lie 122 = .ok (.invokevirtual 173, 3) := by decide +kernel
theorem dX10_lie_125 : decode cX10_lie 125 = .ok (.iload_n 3, 1) := by decide +kernel
theorem dX10_lie_126 : decode cX10_lie 126 = .ok (.ireturn, 1) := by decide +kernel
noncomputable def f_X10_piece_88 (fu : Nat) (x1 : Int32) (x2 : Int32) (x3 : Int32) (x4 : Int32) (x5 : Int32) (x6 : Int32) (m : hM) : Option (Int32 × hM) :=
  if hIn x6 8 then (
hLet (sI m 19 (Int32.toNatClampNeg x6) (x1 - x1 / 6 * 6)) fun m14 =>
if hIn x6 8 then (
hLet (sI m14 20 (Int32.toNatClampNeg x6) (x1 / 6)) fun m16 =>
if hIn x6 8 then (
hLet (sI m16 21 (Int32.toNatClampNeg x6) x2) fun m18 =>
if hIn x6 8 then (
hLet (sI m18 22 (Int32.toNatClampNeg x6) x3) fun m20 =>
if hIn x6 8 then (
hLet (sI m20 23 (Int32.toNatClampNeg x6) x4) fun m22 =>
if hIn x6 8 then (
hLet (sI m22 24 (Int32.toNatClampNeg x6) x5) fun m24 =>
hLet (sI m24 18 6 (x6 + 1)) fun m25 =>
hBd (f_X7_startPiece fu 46 x6 m25) fun _ m26 =>
some (x6, m26)) else none) else none) else none) else none) else none) else none
set_option maxRecDepth 100000 in
set_option maxHeartbeats 4000000 in
theorem r_X10_piece_88 {G : hG} {X : hX} (C : Cx G X 2 cX10_piece 7 RX10 (some .int)) (K : Cr G X) (fu : Nat) (x1 : Int32) (x2 : Int32) (x3 : Int32) (x4 : Int32) (x5 : Int32) (x6 : Int32) (m : hM) : Rf vI G X 88 [(0, hA G 0), (1, .int x1), (2, .int x2), (3, .int x3), (4, .int x4), (5, .int x5), (6, .int x6)] [] m (f_X10_piece_88 fu x1 x2 x3 x4 x5 x6 m) := by
  unfold f_X10_piece_88
  refine rf_aload_n C (n := 89) (q := 0) dX10_piece_88 rfl rfl rfl ?_
  refine rf_getS C (n := 92) fl_RX10_19 ly_0 rfl dX10_piece_89 rfl ?_
  refine rf_getS C (n := 95) fl_RX10_178 ly_18 rfl dX10_piece_92 rfl ?_
  refine rf_iload C (n := 97) (q := 6) dX10_piece_95 rfl rfl ?_
  refine rf_iload_n C (n := 98) (q := 1) dX10_piece_97 rfl rfl rfl ?_
  refine rf_bipush C (n := 100) (v := 6) dX10_piece_98 rfl (by decide) ?_
  refine rf_irem C (n := 101) dX10_piece_100 rfl (by decide) ?_
  refine rf_guard (fun h13 => ?_)
  refine rf_iast C (n := 102) ly_19 h13 rfl dX10_piece_101 rfl ?_
  refine rf_letM (fun m14 => ?_)
  refine rf_aload_n C (n := 103) (q := 0) dX10_piece_102 rfl rfl rfl ?_
  refine rf_getS C (n := 106) fl_RX10_19 ly_0 rfl dX10_piece_103 rfl ?_
  refine rf_getS C (n := 109) fl_RX10_181 ly_18 rfl dX10_piece_106 rfl ?_
  refine rf_iload C (n := 111) (q := 6) dX10_piece_109 rfl rfl ?_
  refine rf_iload_n C (n := 112) (q := 1) dX10_piece_111 rfl rfl rfl ?_
  refine rf_bipush C (n := 114) (v := 6) dX10_piece_112 rfl (by decide) ?_
  refine rf_idiv C (n := 115) dX10_piece_114 rfl (by decide) ?_
  refine rf_guard (fun h15 => ?_)
  refine rf_iast C (n := 116) ly_20 h15 rfl dX10_piece_115 rfl ?_
  refine rf_letM (fun m16 => ?_)
  refine rf_aload_n C (n := 117) (q := 0) dX10_piece_116 rfl rfl rfl ?_
  refine rf_getS C (n := 120) fl_RX10_19 ly_0 rfl dX10_piece_117 rfl ?_
  refine rf_getS C (n := 123) fl_RX10_184 ly_18 rfl dX10_piece_120 rfl ?_
  refine rf_iload C (n := 125) (q := 6) dX10_piece_123 rfl rfl ?_
  refine rf_iload_n C (n := 126) (q := 2) dX10_piece_125 rfl rfl rfl ?_
  refine rf_guard (fun h17 => ?_)
  refine rf_iast C (n := 127) ly_21 h17 rfl dX10_piece_126 rfl ?_
  refine rf_letM (fun m18 => ?_)
  refine rf_aload_n C (n := 128) (q := 0) dX10_piece_127 rfl rfl rfl ?_
  refine rf_getS C (n := 131) fl_RX10_19 ly_0 rfl dX10_piece_128 rfl ?_
  refine rf_getS C (n := 134) fl_RX10_187 ly_18 rfl dX10_piece_131 rfl ?_
  refine rf_iload C (n := 136) (q := 6) dX10_piece_134 rfl rfl ?_
  refine rf_iload_n C (n := 137) (q := 3) dX10_piece_136 rfl rfl rfl ?_
  refine rf_guard (fun h19 => ?_)
  refine rf_iast C (n := 138) ly_22 h19 rfl dX10_piece_137 rfl ?_
  refine rf_letM (fun m20 => ?_)
  refine rf_aload_n C (n := 139) (q := 0) dX10_piece_138 rfl rfl rfl ?_
  refine rf_getS C (n := 142) fl_RX10_19 ly_0 rfl dX10_piece_139 rfl ?_
  refine rf_getS C (n := 145) fl_RX10_190 ly_18 rfl dX10_piece_142 rfl ?_
  refine rf_iload C (n := 147) (q := 6) dX10_piece_145 rfl rfl ?_
  refine rf_iload C (n := 149) (q := 4) dX10_piece_147 rfl rfl ?_
  refine rf_guard (fun h21 => ?_)
  refine rf_iast C (n := 150) ly_23 h21 rfl dX10_piece_149 rfl ?_
  refine rf_letM (fun m22 => ?_)
  refine rf_aload_n C (n := 151) (q := 0) dX10_piece_150 rfl rfl rfl ?_
  refine rf_getS C (n := 154) fl_RX10_19 ly_0 rfl dX10_piece_151 rfl ?_
  refine rf_getS C (n := 157) fl_RX10_193 ly_18 rfl dX10_piece_154 rfl ?_
  refine rf_iload C (n := 159) (q := 6) dX10_piece_157 rfl rfl ?_
  refine rf_iload C (n := 161) (q := 5) dX10_piece_159 rfl rfl ?_
  refine rf_guard (fun h23 => ?_)
  refine rf_iast C (n := 162) ly_24 h23 rfl dX10_piece_161 rfl ?_
  refine rf_letM (fun m24 => ?_)
  refine rf_aload_n C (n := 163) (q := 0) dX10_piece_162 rfl rfl rfl ?_
  refine rf_getS C (n := 166) fl_RX10_19 ly_0 rfl dX10_piece_163 rfl ?_
  refine rf_iload C (n := 168) (q := 6) dX10_piece_166 rfl rfl ?_
  refine rf_iconst C (n := 169) (v := 1) dX10_piece_168 rfl (by decide) ?_
  refine rf_iadd C (n := 170) dX10_piece_169 rfl ?_
  refine rf_putI C (n := 173) pl_RX10_177 ly_18 rfl ⟨rfl, rfl⟩ dX10_piece_170 rfl ?_
  refine rf_letM (fun m25 => ?_)
  refine rf_aload_n C (n := 174) (q := 0) dX10_piece_173 rfl rfl rfl ?_
  refine rf_getS C (n := 177) fl_RX10_65 ly_0 rfl dX10_piece_174 rfl ?_
  refine rf_aload_n C (n := 178) (q := 0) dX10_piece_177 rfl rfl rfl ?_
  refine rf_getS C (n := 181) fl_RX10_19 ly_0 rfl dX10_piece_178 rfl ?_
  refine rf_iload C (n := 183) (q := 6) dX10_piece_181 rfl rfl ?_
  refine rf_callVv C (n := 186) (c_X7_startPiece G fu _ _ _) mw_RX10_196 ly_46 rfl ⟨by decide, by decide⟩ rfl (Nat.le_of_ble_eq_true rfl) rfl dX10_piece_183 rfl (fun _ m26 => ?_)
  refine rf_iload C (n := 188) (q := 6) dX10_piece_186 rfl rfl ?_
  exact rf_iret C K dX10_piece_188
noncomputable def f_X10_piece (fu : Nat) (x1 : Int32) (x2 : Int32) (x3 : Int32) (x4 : Int32) (x5 : Int32) (m : hM) : Option (Int32 × hM) :=
  hLet (gI m 18 6) fun y1 =>
if 8 ≤ y1 then (
some ((-1), m)) else (
if x1 < 6 then (
some ((-1), m)) else (
if x1 < 366 then (
if x2 < 1 then (
some ((-1), m)) else (
if 60 < x2 then (
some ((-1), m)) else (
if x3 < 0 then (
some ((-1), m)) else (
if x3 < (1 <<< (y1 &&& 31)) then (
hBd (f_X0_has fu x4 m) fun y9 m10 =>
if y9 = 0 then (
some ((-1), m10)) else (
if x5 = (-1) then (
f_X10_piece_88 fu x1 x2 x3 x4 x5 y1 m10) else (
hBd (f_X0_has fu x5 m10) fun y27 m28 =>
if ¬ y27 = 0 then (
f_X10_piece_88 fu x1 x2 x3 x4 x5 y1 m28) else (
some ((-1), m28))))) else (
some ((-1), m)))))) else (
some ((-1), m))))
set_option maxRecDepth 100000 in
set_option maxHeartbeats 4000000 in
theorem c_X10_piece (G : hG) (fu : Nat) (x1 : Int32) (x2 : Int32) (x3 : Int32) (x4 : Int32) (x5 : Int32) (m : hM) : Mt vI G 2 yX10_piece cX10_piece 7 (some .int) [hA G 0, .int x1, .int x2, .int x3, .int x4, .int x5] m (f_X10_piece fu x1 x2 x3 x4 x5 m) := by
  refine mt_of (by decide +kernel) (Nat.le_of_ble_eq_true rfl) (fun X C K => ?_)
  have C : Cx G X 2 cX10_piece 7 RX10 (some .int) := C
  show Rf vI G X 0 [(0, hA G 0), (1, .int x1), (2, .int x2), (3, .int x3), (4, .int x4), (5, .int x5)] [] m _
  unfold f_X10_piece
  refine rf_aload_n C (n := 1) (q := 0) dX10_piece_0 rfl rfl rfl ?_
  refine rf_getS C (n := 4) fl_RX10_19 ly_0 rfl dX10_piece_1 rfl ?_
  refine rf_getI C (n := 7) fl_RX10_177 ly_18 rfl dX10_piece_4 rfl ?_
  refine rf_letI (fun y1 => ?_)
  refine rf_istore C (n := 9) [(6, .int y1), (0, hA G 0), (1, .int x1), (2, .int x2), (3, .int x3), (4, .int x4), (5, .int x5)] dX10_piece_7 rfl (by decide) rfl ?_
  refine rf_iload C (n := 11) (q := 0) dX10_piece_9 rfl rfl ?_
  refine rf_bipush C (n := 13) (v := 8) dX10_piece_11 rfl (by decide) ?_
  refine rf_icmp_ge C (tgt := 29) (n := 16) dX10_piece_13 (by decide) rfl (fun h2 => ?_) (fun h2 => ?_)
  · refine rf_iconst C (n := 30) (v := (-1)) dX10_piece_29 rfl (by decide) ?_
    exact rf_iret C K dX10_piece_30
  · refine rf_iload_n C (n := 17) (q := 2) dX10_piece_16 rfl rfl rfl ?_
    refine rf_bipush C (n := 19) (v := 6) dX10_piece_17 rfl (by decide) ?_
    refine rf_icmp_lt C (tgt := 29) (n := 22) dX10_piece_19 (by decide) rfl (fun h3 => ?_) (fun h3 => ?_)
    · refine rf_iconst C (n := 30) (v := (-1)) dX10_piece_29 rfl (by decide) ?_
      exact rf_iret C K dX10_piece_30
    · refine rf_iload_n C (n := 23) (q := 2) dX10_piece_22 rfl rfl rfl ?_
      refine rf_sipush C (n := 26) (v := 366) dX10_piece_23 rfl (by decide) ?_
      refine rf_icmp_lt C (tgt := 31) (n := 29) dX10_piece_26 (by decide) rfl (fun h4 => ?_) (fun h4 => ?_)
      · refine rf_iload_n C (n := 32) (q := 3) dX10_piece_31 rfl rfl rfl ?_
        refine rf_iconst C (n := 33) (v := 1) dX10_piece_32 rfl (by decide) ?_
        refine rf_icmp_lt C (tgt := 54) (n := 36) dX10_piece_33 (by decide) rfl (fun h5 => ?_) (fun h5 => ?_)
        · refine rf_iconst C (n := 55) (v := (-1)) dX10_piece_54 rfl (by decide) ?_
          exact rf_iret C K dX10_piece_55
        · refine rf_iload_n C (n := 37) (q := 3) dX10_piece_36 rfl rfl rfl ?_
          refine rf_bipush C (n := 39) (v := 60) dX10_piece_37 rfl (by decide) ?_
          refine rf_icmp_gt C (tgt := 54) (n := 42) dX10_piece_39 (by decide) rfl (fun h6 => ?_) (fun h6 => ?_)
          · refine rf_iconst C (n := 55) (v := (-1)) dX10_piece_54 rfl (by decide) ?_
            exact rf_iret C K dX10_piece_55
          · refine rf_iload_n C (n := 43) (q := 4) dX10_piece_42 rfl rfl rfl ?_
            refine rf_if_lt C (tgt := 54) (n := 46) dX10_piece_43 (by decide) rfl (fun h7 => ?_) (fun h7 => ?_)
            · refine rf_iconst C (n := 55) (v := (-1)) dX10_piece_54 rfl (by decide) ?_
              exact rf_iret C K dX10_piece_55
            · refine rf_iload_n C (n := 47) (q := 4) dX10_piece_46 rfl rfl rfl ?_
              refine rf_iconst C (n := 48) (v := 1) dX10_piece_47 rfl (by decide) ?_
              refine rf_iload C (n := 50) (q := 0) dX10_piece_48 rfl rfl ?_
              refine rf_ishl C (n := 51) dX10_piece_50 rfl ?_
              refine rf_icmp_lt C (tgt := 56) (n := 54) dX10_piece_51 (by decide) rfl (fun h8 => ?_) (fun h8 => ?_)
              · refine rf_aload_n C (n := 57) (q := 1) dX10_piece_56 rfl rfl rfl ?_
                refine rf_getS C (n := 60) fl_RX10_12 ly_0 rfl dX10_piece_57 rfl ?_
                refine rf_iload C (n := 62) (q := 5) dX10_piece_60 rfl rfl ?_
                refine rf_callVi C (n := 65) (c_X0_has G fu _ _) mw_RX10_116 ly_1 rfl ⟨by decide, by decide⟩ rfl (Nat.le_of_ble_eq_true rfl) rfl dX10_piece_62 rfl (fun y9 m10 => ?_)
                refine rf_if_eq C (tgt := 86) (n := 68) dX10_piece_65 (by decide) rfl (fun h11 => ?_) (fun h11 => ?_)
                · refine rf_iconst C (n := 87) (v := (-1)) dX10_piece_86 rfl (by decide) ?_
                  exact rf_iret C K dX10_piece_87
                · refine rf_iload C (n := 70) (q := 6) dX10_piece_68 rfl rfl ?_
                  refine rf_iconst C (n := 71) (v := (-1)) dX10_piece_70 rfl (by decide) ?_
                  refine rf_icmp_eq C (tgt := 88) (n := 74) dX10_piece_71 (by decide) rfl (fun h12 => ?_) (fun h12 => ?_)
                  · exact rf_lv _ [1, 2, 3, 4, 5, 6, 0] rfl (r_X10_piece_88 C K fu _ _ _ _ _ _ _)
                  · refine rf_aload_n C (n := 75) (q := 1) dX10_piece_74 rfl rfl rfl ?_
                    refine rf_getS C (n := 78) fl_RX10_12 ly_0 rfl dX10_piece_75 rfl ?_
                    refine rf_iload C (n := 80) (q := 6) dX10_piece_78 rfl rfl ?_
                    refine rf_callVi C (n := 83) (c_X0_has G fu _ _) mw_RX10_116 ly_1 rfl ⟨by decide, by decide⟩ rfl (Nat.le_of_ble_eq_true rfl) rfl dX10_piece_80 rfl (fun y27 m28 => ?_)
                    refine rf_if_ne C (tgt := 88) (n := 86) dX10_piece_83 (by decide) rfl (fun h29 => ?_) (fun h29 => ?_)
                    · exact rf_lv _ [1, 2, 3, 4, 5, 6, 0] rfl (r_X10_piece_88 C K fu _ _ _ _ _ _ _)
                    · refine rf_iconst C (n := 87) (v := (-1)) dX10_piece_86 rfl (by decide) ?_
                      exact rf_iret C K dX10_piece_87
              · refine rf_iconst C (n := 55) (v := (-1)) dX10_piece_54 rfl (by decide) ?_
                exact rf_iret C K dX10_piece_55
      · refine rf_iconst C (n := 30) (v := (-1)) dX10_piece_29 rfl (by decide) ?_
        exact rf_iret C K dX10_piece_30
noncomputable def s_X10_sign_16 (fu : Nat) (ih : Int32 → Int32 → hM → Option (Int32 × hM)) (x1 : Int32) (x2 : Int32) (m : hM) : Option (Int32 × hM) :=
  if x2 < 0 then (
some (gI m 0 13, m)) else (
if hIn (gI m 0 13) 60 then (
hLet (sI m 68 (Int32.toNatClampNeg (gI m 0 13)) (vp_nar .char ((Int32.toUInt32 (((Int32.toUInt32 x1 >>> (Int32.toUInt32 x2 &&& Int32.toUInt32 31)).toInt32) &&& 255) % 65536).toInt32))) fun m4 =>
hLet (sI m4 0 13 ((gI m4 0 13) + 1)) fun m5 =>
hLet (x2 + (-8)) fun y6 =>
ih x1 y6 m5) else none)
noncomputable def f_X10_sign_16 (fu : Nat) (n : Nat) : Int32 → Int32 → hM → Option (Int32 × hM) :=
  Nat.rec (motive := fun _ => Int32 → Int32 → hM → Option (Int32 × hM)) (fun _ _ _ => none) (fun _ ih => s_X10_sign_16 fu ih) n
theorem f_X10_sign_16_s (fu : Nat) (n : Nat) (x1 : Int32) (x2 : Int32) (m : hM) : f_X10_sign_16 fu (n + 1) x1 x2 m = s_X10_sign_16 fu (f_X10_sign_16 fu n) x1 x2 m := rfl
set_option maxRecDepth 100000 in
set_option maxHeartbeats 4000000 in
theorem r_X10_sign_16 {G : hG} {X : hX} (C : Cx G X 1 cX10_sign 3 RX10 (some .int)) (K : Cr G X) (fu : Nat) (n : Nat) : ∀ (x1 : Int32) (x2 : Int32) (m : hM), Rf vI G X 16 [(0, hA G 0), (1, .int x1), (2, .int x2)] [] m (f_X10_sign_16 fu n x1 x2 m) := by
  induction n with
  | zero => intros; exact rf_none
  | succ n ih =>
    intro x1 x2 m
    show Rf vI G X 16 [(0, hA G 0), (1, .int x1), (2, .int x2)] [] m (s_X10_sign_16 fu (f_X10_sign_16 fu n) x1 x2 m)
    unfold s_X10_sign_16
    refine rf_iload_n C (n := 17) (q := 2) dX10_sign_16 rfl rfl rfl ?_
    refine rf_if_lt C (tgt := 53) (n := 20) dX10_sign_17 (by decide) rfl (fun h2 => ?_) (fun h2 => ?_)
    · refine rf_aload_n C (n := 54) (q := 0) dX10_sign_53 rfl rfl rfl ?_
      refine rf_getI C (n := 57) fl_RX10_91 ly_0 rfl dX10_sign_54 rfl ?_
      exact rf_iret C K dX10_sign_57
    · refine rf_aload_n C (n := 21) (q := 0) dX10_sign_20 rfl rfl rfl ?_
      refine rf_getS C (n := 24) fl_RX10_87 ly_0 rfl dX10_sign_21 rfl ?_
      refine rf_aload_n C (n := 25) (q := 0) dX10_sign_24 rfl rfl rfl ?_
      refine rf_getI C (n := 28) fl_RX10_91 ly_0 rfl dX10_sign_25 rfl ?_
      refine rf_iload_n C (n := 29) (q := 1) dX10_sign_28 rfl rfl rfl ?_
      refine rf_iload_n C (n := 30) (q := 2) dX10_sign_29 rfl rfl rfl ?_
      refine rf_iushr C (n := 31) dX10_sign_30 rfl ?_
      refine rf_sipush C (n := 34) (v := 255) dX10_sign_31 rfl (by decide) ?_
      refine rf_iand C (n := 35) dX10_sign_34 rfl ?_
      refine rf_i2c C (n := 36) dX10_sign_35 rfl ?_
      refine rf_guard (fun h3 => ?_)
      refine rf_cast C (n := 37) ly_68 h3 rfl dX10_sign_36 rfl ?_
      refine rf_letM (fun m4 => ?_)
      refine rf_aload_n C (n := 38) (q := 0) dX10_sign_37 rfl rfl rfl ?_
      refine rf_dup C (n := 39) dX10_sign_38 rfl rfl ?_
      refine rf_getI C (n := 42) fl_RX10_91 ly_0 rfl dX10_sign_39 rfl ?_
      refine rf_iconst C (n := 43) (v := 1) dX10_sign_42 rfl (by decide) ?_
      refine rf_iadd C (n := 44) dX10_sign_43 rfl ?_
      refine rf_putI C (n := 47) pl_RX10_91 ly_0 rfl ⟨rfl, rfl⟩ dX10_sign_44 rfl ?_
      refine rf_letM (fun m5 => ?_)
      refine rf_iinc2 C (n := 50) (q := 2) (fun y6 => [(2, .int y6), (0, hA G 0), (1, .int x1)]) dX10_sign_47 rfl rfl (by decide) (by decide) (fun _ => rfl) (fun y6 => ?_)
      refine rf_goto C (n := 16) dX10_sign_50 (by decide) ?_
      exact rf_lv _ [1, 2, 0] rfl (ih _ _ _)
noncomputable def f_X10_sign (fu : Nat) (x1 : Int32) (m : hM) : Option (Int32 × hM) :=
  if ((gI m 0 13) + 4) ≤ 60 then (
f_X10_sign_16 fu fu x1 24 m) else (
some ((-1), m))
set_option maxRecDepth 100000 in
set_option maxHeartbeats 4000000 in
theorem c_X10_sign (G : hG) (fu : Nat) (x1 : Int32) (m : hM) : Mt vI G 1 yX10_sign cX10_sign 3 (some .int) [hA G 0, .int x1] m (f_X10_sign fu x1 m) := by
  refine mt_of (by decide +kernel) (Nat.le_of_ble_eq_true rfl) (fun X C K => ?_)
  have C : Cx G X 1 cX10_sign 3 RX10 (some .int) := C
  show Rf vI G X 0 [(0, hA G 0), (1, .int x1)] [] m _
  unfold f_X10_sign
  refine rf_aload_n C (n := 1) (q := 0) dX10_sign_0 rfl rfl rfl ?_
  refine rf_getI C (n := 4) fl_RX10_91 ly_0 rfl dX10_sign_1 rfl ?_
  refine rf_iconst C (n := 5) (v := 4) dX10_sign_4 rfl (by decide) ?_
  refine rf_iadd C (n := 6) dX10_sign_5 rfl ?_
  refine rf_bipush C (n := 8) (v := 60) dX10_sign_6 rfl (by decide) ?_
  refine rf_icmp_le C (tgt := 13) (n := 11) dX10_sign_8 (by decide) rfl (fun h1 => ?_) (fun h1 => ?_)
  · refine rf_bipush C (n := 15) (v := 24) dX10_sign_13 rfl (by decide) ?_
    refine rf_istore_n C (n := 16) [(2, .int 24), (0, hA G 0), (1, .int x1)] dX10_sign_15 rfl rfl (by decide) rfl ?_
    exact rf_lv _ [1, 2, 0] rfl (r_X10_sign_16 C K fu fu _ _ _)
  · refine rf_iconst C (n := 12) (v := (-1)) dX10_sign_11 rfl (by decide) ?_
    exact rf_iret C K dX10_sign_12
noncomputable def f_X10_end (fu : Nat) (x1 : Int32) (m : hM) : Option (Int32 × hM) :=
  if x1 < 0 then (
some (0, m)) else (
if x1 ≤ (gI m 0 13) then (
hLet (sI m 0 13 x1) fun m3 =>
some (1, m3)) else (
some (0, m)))
set_option maxRecDepth 100000 in
set_option maxHeartbeats 4000000 in
theorem c_X10_end (G : hG) (fu : Nat) (x1 : Int32) (m : hM) : Mt vI G 1 yX10_end cX10_end 2 (some .boolean) [hA G 0, .int x1] m (f_X10_end fu x1 m) := by
  refine mt_of (by decide +kernel) (Nat.le_of_ble_eq_true rfl) (fun X C K => ?_)
  have C : Cx G X 1 cX10_end 2 RX10 (some .boolean) := C
  show Rf vI G X 0 [(0, hA G 0), (1, .int x1)] [] m _
  unfold f_X10_end
  refine rf_iload_n C (n := 1) (q := 1) dX10_end_0 rfl rfl rfl ?_
  refine rf_if_lt C (tgt := 12) (n := 4) dX10_end_1 (by decide) rfl (fun h1 => ?_) (fun h1 => ?_)
  · refine rf_iconst C (n := 13) (v := 0) dX10_end_12 rfl (by decide) ?_
    exact rf_zret C K (by decide) dX10_end_13
  · refine rf_iload_n C (n := 5) (q := 1) dX10_end_4 rfl rfl rfl ?_
    refine rf_aload_n C (n := 6) (q := 0) dX10_end_5 rfl rfl rfl ?_
    refine rf_getI C (n := 9) fl_RX10_91 ly_0 rfl dX10_end_6 rfl ?_
    refine rf_icmp_le C (tgt := 14) (n := 12) dX10_end_9 (by decide) rfl (fun h2 => ?_) (fun h2 => ?_)
    · refine rf_aload_n C (n := 15) (q := 0) dX10_end_14 rfl rfl rfl ?_
      refine rf_iload_n C (n := 16) (q := 1) dX10_end_15 rfl rfl rfl ?_
      refine rf_putI C (n := 19) pl_RX10_91 ly_0 rfl ⟨rfl, rfl⟩ dX10_end_16 rfl ?_
      refine rf_letM (fun m3 => ?_)
      refine rf_iconst C (n := 20) (v := 1) dX10_end_19 rfl (by decide) ?_
      exact rf_zret C K (by decide) dX10_end_20
    · refine rf_iconst C (n := 13) (v := 0) dX10_end_12 rfl (by decide) ?_
      exact rf_zret C K (by decide) dX10_end_13
noncomputable def f_X10_begin (fu : Nat) (x1 : Int32) (m : hM) : Option (Int32 × hM) :=
  hBd (f_X10_isHour fu x1 m) fun y1 m2 =>
if ¬ y1 = 0 then (
hBd (f_X7_startAll fu 46 x1 m2) fun _ m4 =>
some (1, m4)) else (
some (0, m2))
set_option maxRecDepth 100000 in
set_option maxHeartbeats 4000000 in
theorem c_X10_begin (G : hG) (fu : Nat) (x1 : Int32) (m : hM) : Mt vI G 3 yX10_begin cX10_begin 2 (some .boolean) [hA G 0, .int x1] m (f_X10_begin fu x1 m) := by
  refine mt_of (by decide +kernel) (Nat.le_of_ble_eq_true rfl) (fun X C K => ?_)
  have C : Cx G X 3 cX10_begin 2 RX10 (some .boolean) := C
  show Rf vI G X 0 [(0, hA G 0), (1, .int x1)] [] m _
  unfold f_X10_begin
  refine rf_iload_n C (n := 1) (q := 1) dX10_begin_0 rfl rfl rfl ?_
  refine rf_callSi C (n := 4) (c_X10_isHour G fu _ _) sw_RX10_119 ⟨by decide, by decide⟩ rfl (Nat.le_of_ble_eq_true rfl) rfl dX10_begin_1 rfl (fun y1 m2 => ?_)
  refine rf_if_ne C (tgt := 9) (n := 7) dX10_begin_4 (by decide) rfl (fun h3 => ?_) (fun h3 => ?_)
  · refine rf_aload_n C (n := 10) (q := 0) dX10_begin_9 rfl rfl rfl ?_
    refine rf_getS C (n := 13) fl_RX10_65 ly_0 rfl dX10_begin_10 rfl ?_
    refine rf_aload_n C (n := 14) (q := 0) dX10_begin_13 rfl rfl rfl ?_
    refine rf_getS C (n := 17) fl_RX10_19 ly_0 rfl dX10_begin_14 rfl ?_
    refine rf_iload_n C (n := 18) (q := 1) dX10_begin_17 rfl rfl rfl ?_
    refine rf_callVv C (n := 21) (c_X7_startAll G fu _ _ _) mw_RX10_225 ly_46 rfl ⟨by decide, by decide⟩ rfl (Nat.le_of_ble_eq_true rfl) rfl dX10_begin_18 rfl (fun _ m4 => ?_)
    refine rf_iconst C (n := 22) (v := 1) dX10_begin_21 rfl (by decide) ?_
    exact rf_zret C K (by decide) dX10_begin_22
  · refine rf_iconst C (n := 8) (v := 0) dX10_begin_7 rfl (by decide) ?_
    exact rf_zret C K (by decide) dX10_begin_8
noncomputable def s_X10_go_15 (fu : Nat) (ih : Int32 → Int32 → hM → Option (Int32 × hM)) (x1 : Int32) (x2 : Int32) (m : hM) : Option (Int32 × hM) :=
  if x1 ≤ x2 then (
some (gI m 46 0, m)) else (
if 2399 ≤ (gI m 46 0) then (
some (gI m 46 0, m)) else (
hBd (f_X8_hourGoesBy fu 46 m) fun _ m5 =>
hLet (x2 + 1) fun y6 =>
ih x1 y6 m5))
noncomputable def f_X10_go_15 (fu : Nat) (n : Nat) : Int32 → Int32 → hM → Option (Int32 × hM) :=
  Nat.rec (motive := fun _ => Int32 → Int32 → hM → Option (Int32 × hM)) (fun _ _ _ => none) (fun _ ih => s_X10_go_15 fu ih) n
theorem f_X10_go_15_s (fu : Nat) (n : Nat) (x1 : Int32) (x2 : Int32) (m : hM) : f_X10_go_15 fu (n + 1) x1 x2 m = s_X10_go_15 fu (f_X10_go_15 fu n) x1 x2 m := rfl
set_option maxRecDepth 100000 in
set_option maxHeartbeats 4000000 in
theorem r_X10_go_15 {G : hG} {X : hX} (C : Cx G X 7 cX10_go 3 RX10 (some .int)) (K : Cr G X) (fu : Nat) (n : Nat) : ∀ (x1 : Int32) (x2 : Int32) (m : hM), Rf vI G X 15 [(0, hA G 0), (1, .int x1), (2, .int x2)] [] m (f_X10_go_15 fu n x1 x2 m) := by
  induction n with
  | zero => intros; exact rf_none
  | succ n ih =>
    intro x1 x2 m
    show Rf vI G X 15 [(0, hA G 0), (1, .int x1), (2, .int x2)] [] m (s_X10_go_15 fu (f_X10_go_15 fu n) x1 x2 m)
    unfold s_X10_go_15
    refine rf_iload_n C (n := 16) (q := 2) dX10_go_15 rfl rfl rfl ?_
    refine rf_iload_n C (n := 17) (q := 1) dX10_go_16 rfl rfl rfl ?_
    refine rf_icmp_ge C (tgt := 50) (n := 20) dX10_go_17 (by decide) rfl (fun h3 => ?_) (fun h3 => ?_)
    · refine rf_aload_n C (n := 51) (q := 0) dX10_go_50 rfl rfl rfl ?_
      refine rf_getS C (n := 54) fl_RX10_65 ly_0 rfl dX10_go_51 rfl ?_
      refine rf_getI C (n := 57) fl_RX10_218 ly_46 rfl dX10_go_54 rfl ?_
      exact rf_iret C K dX10_go_57
    · refine rf_aload_n C (n := 21) (q := 0) dX10_go_20 rfl rfl rfl ?_
      refine rf_getS C (n := 24) fl_RX10_65 ly_0 rfl dX10_go_21 rfl ?_
      refine rf_getI C (n := 27) fl_RX10_218 ly_46 rfl dX10_go_24 rfl ?_
      refine rf_sipush C (n := 30) (v := 2399) dX10_go_27 rfl (by decide) ?_
      refine rf_icmp_ge C (tgt := 50) (n := 33) dX10_go_30 (by decide) rfl (fun h4 => ?_) (fun h4 => ?_)
      · refine rf_aload_n C (n := 51) (q := 0) dX10_go_50 rfl rfl rfl ?_
        refine rf_getS C (n := 54) fl_RX10_65 ly_0 rfl dX10_go_51 rfl ?_
        refine rf_getI C (n := 57) fl_RX10_218 ly_46 rfl dX10_go_54 rfl ?_
        exact rf_iret C K dX10_go_57
      · refine rf_aload_n C (n := 34) (q := 0) dX10_go_33 rfl rfl rfl ?_
        refine rf_getS C (n := 37) fl_RX10_42 ly_0 rfl dX10_go_34 rfl ?_
        refine rf_aload_n C (n := 38) (q := 0) dX10_go_37 rfl rfl rfl ?_
        refine rf_getS C (n := 41) fl_RX10_65 ly_0 rfl dX10_go_38 rfl ?_
        refine rf_callVv C (n := 44) (c_X8_hourGoesBy G fu _ _) mw_RX10_228 ly_32 rfl ⟨by decide, by decide⟩ rfl (Nat.le_of_ble_eq_true rfl) rfl dX10_go_41 rfl (fun _ m5 => ?_)
        refine rf_iinc2 C (n := 47) (q := 2) (fun y6 => [(2, .int y6), (0, hA G 0), (1, .int x1)]) dX10_go_44 rfl rfl (by decide) (by decide) (fun _ => rfl) (fun y6 => ?_)
        refine rf_goto C (n := 15) dX10_go_47 (by decide) ?_
        exact rf_lv _ [1, 2, 0] rfl (ih _ _ _)
noncomputable def f_X10_go (fu : Nat) (x1 : Int32) (m : hM) : Option (Int32 × hM) :=
  if x1 < 0 then (
some ((-1), m)) else (
if x1 ≤ 500 then (
f_X10_go_15 fu fu x1 0 m) else (
some ((-1), m)))
set_option maxRecDepth 100000 in
set_option maxHeartbeats 4000000 in
theorem c_X10_go (G : hG) (fu : Nat) (x1 : Int32) (m : hM) : Mt vI G 7 yX10_go cX10_go 3 (some .int) [hA G 0, .int x1] m (f_X10_go fu x1 m) := by
  refine mt_of (by decide +kernel) (Nat.le_of_ble_eq_true rfl) (fun X C K => ?_)
  have C : Cx G X 7 cX10_go 3 RX10 (some .int) := C
  show Rf vI G X 0 [(0, hA G 0), (1, .int x1)] [] m _
  unfold f_X10_go
  refine rf_iload_n C (n := 1) (q := 1) dX10_go_0 rfl rfl rfl ?_
  refine rf_if_lt C (tgt := 11) (n := 4) dX10_go_1 (by decide) rfl (fun h1 => ?_) (fun h1 => ?_)
  · refine rf_iconst C (n := 12) (v := (-1)) dX10_go_11 rfl (by decide) ?_
    exact rf_iret C K dX10_go_12
  · refine rf_iload_n C (n := 5) (q := 1) dX10_go_4 rfl rfl rfl ?_
    refine rf_sipush C (n := 8) (v := 500) dX10_go_5 rfl (by decide) ?_
    refine rf_icmp_le C (tgt := 13) (n := 11) dX10_go_8 (by decide) rfl (fun h2 => ?_) (fun h2 => ?_)
    · refine rf_iconst C (n := 14) (v := 0) dX10_go_13 rfl (by decide) ?_
      refine rf_istore_n C (n := 15) [(2, .int 0), (0, hA G 0), (1, .int x1)] dX10_go_14 rfl rfl (by decide) rfl ?_
      exact rf_lv _ [1, 2, 0] rfl (r_X10_go_15 C K fu fu _ _ _)
    · refine rf_iconst C (n := 12) (v := (-1)) dX10_go_11 rfl (by decide) ?_
      exact rf_iret C K dX10_go_12
noncomputable def f_X10_hand (fu : Nat) (x1 : Int32) (x2 : Int32) (m : hM) : Option (Int32 × hM) :=
  hBd (f_X4_has fu x1 m) fun y1 m2 =>
if y1 = 0 then (
some ((-1), m2)) else (
hBd (f_X0_has fu x2 m2) fun y4 m5 =>
if ¬ y4 = 0 then (
if (((gI m5 46 1) >>> (x1 &&& 31)) &&& 1) = 1 then (
some ((-1), m5)) else (
if hIn x1 8 then (
if ¬ (gI m5 47 (Int32.toNatClampNeg x1)) = x2 then (
hBd (f_X8_handTo fu 46 x1 x2 (gI m5 46 0) m5) fun y10 m11 =>
some (y10, m11)) else (
some ((-1), m5))) else none)) else (
some ((-1), m5)))
set_option maxRecDepth 100000 in
set_option maxHeartbeats 4000000 in
theorem c_X10_hand (G : hG) (fu : Nat) (x1 : Int32) (x2 : Int32) (m : hM) : Mt vI G 4 yX10_hand cX10_hand 3 (some .int) [hA G 0, .int x1, .int x2] m (f_X10_hand fu x1 x2 m) := by
  refine mt_of (by decide +kernel) (Nat.le_of_ble_eq_true rfl) (fun X C K => ?_)
  have C : Cx G X 4 cX10_hand 3 RX10 (some .int) := C
  show Rf vI G X 0 [(0, hA G 0), (1, .int x1), (2, .int x2)] [] m _
  unfold f_X10_hand
  refine rf_aload_n C (n := 1) (q := 0) dX10_hand_0 rfl rfl rfl ?_
  refine rf_getS C (n := 4) fl_RX10_19 ly_0 rfl dX10_hand_1 rfl ?_
  refine rf_iload_n C (n := 5) (q := 1) dX10_hand_4 rfl rfl rfl ?_
  refine rf_callVi C (n := 8) (c_X4_has G fu _ _) mw_RX10_214 ly_18 rfl ⟨by decide, by decide⟩ rfl (Nat.le_of_ble_eq_true rfl) rfl dX10_hand_5 rfl (fun y1 m2 => ?_)
  refine rf_if_eq C (tgt := 22) (n := 11) dX10_hand_8 (by decide) rfl (fun h3 => ?_) (fun h3 => ?_)
  · refine rf_iconst C (n := 23) (v := (-1)) dX10_hand_22 rfl (by decide) ?_
    exact rf_iret C K dX10_hand_23
  · refine rf_aload_n C (n := 12) (q := 0) dX10_hand_11 rfl rfl rfl ?_
    refine rf_getS C (n := 15) fl_RX10_12 ly_0 rfl dX10_hand_12 rfl ?_
    refine rf_iload_n C (n := 16) (q := 2) dX10_hand_15 rfl rfl rfl ?_
    refine rf_callVi C (n := 19) (c_X0_has G fu _ _) mw_RX10_116 ly_1 rfl ⟨by decide, by decide⟩ rfl (Nat.le_of_ble_eq_true rfl) rfl dX10_hand_16 rfl (fun y4 m5 => ?_)
    refine rf_if_ne C (tgt := 24) (n := 22) dX10_hand_19 (by decide) rfl (fun h6 => ?_) (fun h6 => ?_)
    · refine rf_aload_n C (n := 25) (q := 0) dX10_hand_24 rfl rfl rfl ?_
      refine rf_getS C (n := 28) fl_RX10_65 ly_0 rfl dX10_hand_25 rfl ?_
      refine rf_getI C (n := 31) fl_RX10_260 ly_46 rfl dX10_hand_28 rfl ?_
      refine rf_iload_n C (n := 32) (q := 1) dX10_hand_31 rfl rfl rfl ?_
      refine rf_ishr C (n := 33) dX10_hand_32 rfl ?_
      refine rf_iconst C (n := 34) (v := 1) dX10_hand_33 rfl (by decide) ?_
      refine rf_iand C (n := 35) dX10_hand_34 rfl ?_
      refine rf_iconst C (n := 36) (v := 1) dX10_hand_35 rfl (by decide) ?_
      refine rf_icmp_eq C (tgt := 52) (n := 39) dX10_hand_36 (by decide) rfl (fun h7 => ?_) (fun h7 => ?_)
      · refine rf_iconst C (n := 53) (v := (-1)) dX10_hand_52 rfl (by decide) ?_
        exact rf_iret C K dX10_hand_53
      · refine rf_aload_n C (n := 40) (q := 0) dX10_hand_39 rfl rfl rfl ?_
        refine rf_getS C (n := 43) fl_RX10_65 ly_0 rfl dX10_hand_40 rfl ?_
        refine rf_getS C (n := 46) fl_RX10_232 ly_46 rfl dX10_hand_43 rfl ?_
        refine rf_iload_n C (n := 47) (q := 1) dX10_hand_46 rfl rfl rfl ?_
        refine rf_guard (fun h8 => ?_)
        refine rf_iald C (n := 48) ly_47 h8 rfl dX10_hand_47 rfl ?_
        refine rf_iload_n C (n := 49) (q := 2) dX10_hand_48 rfl rfl rfl ?_
        refine rf_icmp_ne C (tgt := 54) (n := 52) dX10_hand_49 (by decide) rfl (fun h9 => ?_) (fun h9 => ?_)
        · refine rf_aload_n C (n := 55) (q := 0) dX10_hand_54 rfl rfl rfl ?_
          refine rf_getS C (n := 58) fl_RX10_42 ly_0 rfl dX10_hand_55 rfl ?_
          refine rf_aload_n C (n := 59) (q := 0) dX10_hand_58 rfl rfl rfl ?_
          refine rf_getS C (n := 62) fl_RX10_65 ly_0 rfl dX10_hand_59 rfl ?_
          refine rf_iload_n C (n := 63) (q := 1) dX10_hand_62 rfl rfl rfl ?_
          refine rf_iload_n C (n := 64) (q := 2) dX10_hand_63 rfl rfl rfl ?_
          refine rf_aload_n C (n := 65) (q := 0) dX10_hand_64 rfl rfl rfl ?_
          refine rf_getS C (n := 68) fl_RX10_65 ly_0 rfl dX10_hand_65 rfl ?_
          refine rf_getI C (n := 71) fl_RX10_218 ly_46 rfl dX10_hand_68 rfl ?_
          refine rf_callVi C (n := 74) (c_X8_handTo G fu _ _ _ _ _) mw_RX10_263 ly_32 rfl ⟨by decide, by decide⟩ rfl (Nat.le_of_ble_eq_true rfl) rfl dX10_hand_71 rfl (fun y10 m11 => ?_)
          exact rf_iret C K dX10_hand_74
        · refine rf_iconst C (n := 53) (v := (-1)) dX10_hand_52 rfl (by decide) ?_
          exact rf_iret C K dX10_hand_53
    · refine rf_iconst C (n := 23) (v := (-1)) dX10_hand_22 rfl (by decide) ?_
      exact rf_iret C K dX10_hand_23
noncomputable def f_X10_fromNow (fu : Nat) (m : hM) : Option (Nat × hM) :=
  hBd (f_X7_copyFrom fu 55 46 m) fun _ m1 =>
some (55, m1)
set_option maxRecDepth 100000 in
set_option maxHeartbeats 4000000 in
theorem c_X10_fromNow (G : hG) (fu : Nat) (m : hM) : Mt (vA G) G 3 yX10_fromNow cX10_fromNow 1 (some (.object "FollowTheSun$State")) [hA G 0] m (f_X10_fromNow fu m) := by
  refine mt_of (by decide +kernel) (Nat.le_of_ble_eq_true rfl) (fun X C K => ?_)
  have C : Cx G X 3 cX10_fromNow 1 RX10 (some (.object "FollowTheSun$State")) := C
  show Rf (vA G) G X 0 [(0, hA G 0)] [] m _
  unfold f_X10_fromNow
  refine rf_aload_n C (n := 1) (q := 0) dX10_fromNow_0 rfl rfl rfl ?_
  refine rf_getS C (n := 4) fl_RX10_69 ly_0 rfl dX10_fromNow_1 rfl ?_
  refine rf_aload_n C (n := 5) (q := 0) dX10_fromNow_4 rfl rfl rfl ?_
  refine rf_getS C (n := 8) fl_RX10_65 ly_0 rfl dX10_fromNow_5 rfl ?_
  refine rf_callVv C (n := 11) (c_X7_copyFrom G fu _ _ _) mw_RX10_403 ly_55 rfl ⟨by decide, by decide⟩ rfl (Nat.le_of_ble_eq_true rfl) rfl dX10_fromNow_8 rfl (fun _ m1 => ?_)
  refine rf_aload_n C (n := 12) (q := 0) dX10_fromNow_11 rfl rfl rfl ?_
  refine rf_getS C (n := 15) fl_RX10_69 ly_0 rfl dX10_fromNow_12 rfl ?_
  exact rf_aret C K dX10_fromNow_15
noncomputable def f_X10_tellEnd_46 (fu : Nat) (x1 : Int32) (x2 : Int32) (x3 : Int32) (m : hM) : Option (Unit × hM) :=
  hBd (f_X7_allHandings fu 55 m) fun y3 m4 =>
hBd (f_X1_tell fu (Int32.toInt64 (y3 - x1)) m4) fun _ m5 =>
hBd (f_X7_allLost fu 55 m5) fun y6 m7 =>
hBd (f_X1_tell fu (Int32.toInt64 (y6 - x2)) m7) fun _ m8 =>
hBd (f_X1_tell fu (Int32.toInt64 ((gI m8 55 10) - x3)) m8) fun _ m9 =>
some ((), m9)
set_option maxRecDepth 100000 in
set_option maxHeartbeats 4000000 in
theorem r_X10_tellEnd_46 {G : hG} {X : hX} (C : Cx G X 2 cX10_tellEnd 5 RX10 none) (K : Cr G X) (fu : Nat) (x1 : Int32) (x2 : Int32) (x3 : Int32) (m : hM) : Rf vU G X 46 [(0, hA G 0), (1, .int x1), (2, .int x2), (3, .int x3)] [] m (f_X10_tellEnd_46 fu x1 x2 x3 m) := by
  unfold f_X10_tellEnd_46
  refine rf_aload_n C (n := 47) (q := 0) dX10_tellEnd_46 rfl rfl rfl ?_
  refine rf_getS C (n := 50) fl_RX10_83 ly_0 rfl dX10_tellEnd_47 rfl ?_
  refine rf_aload_n C (n := 51) (q := 0) dX10_tellEnd_50 rfl rfl rfl ?_
  refine rf_getS C (n := 54) fl_RX10_69 ly_0 rfl dX10_tellEnd_51 rfl ?_
  refine rf_callVi C (n := 57) (c_X7_allHandings G fu _ _) mw_RX10_274 ly_55 rfl ⟨by decide, by decide⟩ rfl (Nat.le_of_ble_eq_true rfl) rfl dX10_tellEnd_54 rfl (fun y3 m4 => ?_)
  refine rf_iload_n C (n := 58) (q := 1) dX10_tellEnd_57 rfl rfl rfl ?_
  refine rf_isub C (n := 59) dX10_tellEnd_58 rfl ?_
  refine rf_i2l C (n := 60) dX10_tellEnd_59 rfl ?_
  refine rf_callVv C (n := 63) (c_X1_tell G fu _ _) mw_RX10_173 ly_66 rfl ⟨by decide, by decide⟩ rfl (Nat.le_of_ble_eq_true rfl) rfl dX10_tellEnd_60 rfl (fun _ m5 => ?_)
  refine rf_aload_n C (n := 64) (q := 0) dX10_tellEnd_63 rfl rfl rfl ?_
  refine rf_getS C (n := 67) fl_RX10_83 ly_0 rfl dX10_tellEnd_64 rfl ?_
  refine rf_aload_n C (n := 68) (q := 0) dX10_tellEnd_67 rfl rfl rfl ?_
  refine rf_getS C (n := 71) fl_RX10_69 ly_0 rfl dX10_tellEnd_68 rfl ?_
  refine rf_callVi C (n := 74) (c_X7_allLost G fu _ _) mw_RX10_278 ly_55 rfl ⟨by decide, by decide⟩ rfl (Nat.le_of_ble_eq_true rfl) rfl dX10_tellEnd_71 rfl (fun y6 m7 => ?_)
  refine rf_iload_n C (n := 75) (q := 2) dX10_tellEnd_74 rfl rfl rfl ?_
  refine rf_isub C (n := 76) dX10_tellEnd_75 rfl ?_
  refine rf_i2l C (n := 77) dX10_tellEnd_76 rfl ?_
  refine rf_callVv C (n := 80) (c_X1_tell G fu _ _) mw_RX10_173 ly_66 rfl ⟨by decide, by decide⟩ rfl (Nat.le_of_ble_eq_true rfl) rfl dX10_tellEnd_77 rfl (fun _ m8 => ?_)
  refine rf_aload_n C (n := 81) (q := 0) dX10_tellEnd_80 rfl rfl rfl ?_
  refine rf_getS C (n := 84) fl_RX10_83 ly_0 rfl dX10_tellEnd_81 rfl ?_
  refine rf_aload_n C (n := 85) (q := 0) dX10_tellEnd_84 rfl rfl rfl ?_
  refine rf_getS C (n := 88) fl_RX10_69 ly_0 rfl dX10_tellEnd_85 rfl ?_
  refine rf_getI C (n := 91) fl_RX10_281 ly_55 rfl dX10_tellEnd_88 rfl ?_
  refine rf_iload_n C (n := 92) (q := 3) dX10_tellEnd_91 rfl rfl rfl ?_
  refine rf_isub C (n := 93) dX10_tellEnd_92 rfl ?_
  refine rf_i2l C (n := 94) dX10_tellEnd_93 rfl ?_
  refine rf_callVv C (n := 97) (c_X1_tell G fu _ _) mw_RX10_173 ly_66 rfl ⟨by decide, by decide⟩ rfl (Nat.le_of_ble_eq_true rfl) rfl dX10_tellEnd_94 rfl (fun _ m9 => ?_)
  exact rf_vret C K dX10_tellEnd_97
noncomputable def s_X10_tellEnd_10 (fu : Nat) (ih : Int32 → Int32 → Int32 → Int32 → hM → Option (Unit × hM)) (x1 : Int32) (x2 : Int32) (x3 : Int32) (x4 : Int32) (m : hM) : Option (Unit × hM) :=
  if (gI m 18 6) ≤ x4 then (
f_X10_tellEnd_46 fu x1 x2 x3 m) else (
if hIn x4 8 then (
hBd (f_X1_tell fu (Int32.toInt64 (gI m 59 (Int32.toNatClampNeg x4))) m) fun _ m11 =>
hLet (x4 + 1) fun y12 =>
ih x1 x2 x3 y12 m11) else none)
noncomputable def f_X10_tellEnd_10 (fu : Nat) (n : Nat) : Int32 → Int32 → Int32 → Int32 → hM → Option (Unit × hM) :=
  Nat.rec (motive := fun _ => Int32 → Int32 → Int32 → Int32 → hM → Option (Unit × hM)) (fun _ _ _ _ _ => none) (fun _ ih => s_X10_tellEnd_10 fu ih) n
theorem f_X10_tellEnd_10_s (fu : Nat) (n : Nat) (x1 : Int32) (x2 : Int32) (x3 : Int32) (x4 : Int32) (m : hM) : f_X10_tellEnd_10 fu (n + 1) x1 x2 x3 x4 m = s_X10_tellEnd_10 fu (f_X10_tellEnd_10 fu n) x1 x2 x3 x4 m := rfl
set_option maxRecDepth 100000 in
set_option maxHeartbeats 4000000 in
theorem r_X10_tellEnd_10 {G : hG} {X : hX} (C : Cx G X 2 cX10_tellEnd 5 RX10 none) (K : Cr G X) (fu : Nat) (n : Nat) : ∀ (x1 : Int32) (x2 : Int32) (x3 : Int32) (x4 : Int32) (m : hM), Rf vU G X 10 [(0, hA G 0), (1, .int x1), (2, .int x2), (3, .int x3), (4, .int x4)] [] m (f_X10_tellEnd_10 fu n x1 x2 x3 x4 m) := by
  induction n with
  | zero => intros; exact rf_none
  | succ n ih =>
    intro x1 x2 x3 x4 m
    show Rf vU G X 10 [(0, hA G 0), (1, .int x1), (2, .int x2), (3, .int x3), (4, .int x4)] [] m (s_X10_tellEnd_10 fu (f_X10_tellEnd_10 fu n) x1 x2 x3 x4 m)
    unfold s_X10_tellEnd_10
    refine rf_iload C (n := 12) (q := 4) dX10_tellEnd_10 rfl rfl ?_
    refine rf_aload_n C (n := 13) (q := 0) dX10_tellEnd_12 rfl rfl rfl ?_
    refine rf_getS C (n := 16) fl_RX10_19 ly_0 rfl dX10_tellEnd_13 rfl ?_
    refine rf_getI C (n := 19) fl_RX10_177 ly_18 rfl dX10_tellEnd_16 rfl ?_
    refine rf_icmp_ge C (tgt := 46) (n := 22) dX10_tellEnd_19 (by decide) rfl (fun h2 => ?_) (fun h2 => ?_)
    · exact rf_lv _ [0, 1, 2, 3] rfl (r_X10_tellEnd_46 C K fu _ _ _ _)
    · refine rf_aload_n C (n := 23) (q := 0) dX10_tellEnd_22 rfl rfl rfl ?_
      refine rf_getS C (n := 26) fl_RX10_83 ly_0 rfl dX10_tellEnd_23 rfl ?_
      refine rf_aload_n C (n := 27) (q := 0) dX10_tellEnd_26 rfl rfl rfl ?_
      refine rf_getS C (n := 30) fl_RX10_69 ly_0 rfl dX10_tellEnd_27 rfl ?_
      refine rf_getS C (n := 33) fl_RX10_244 ly_55 rfl dX10_tellEnd_30 rfl ?_
      refine rf_iload C (n := 35) (q := 4) dX10_tellEnd_33 rfl rfl ?_
      refine rf_guard (fun h10 => ?_)
      refine rf_iald C (n := 36) ly_59 h10 rfl dX10_tellEnd_35 rfl ?_
      refine rf_i2l C (n := 37) dX10_tellEnd_36 rfl ?_
      refine rf_callVv C (n := 40) (c_X1_tell G fu _ _) mw_RX10_173 ly_66 rfl ⟨by decide, by decide⟩ rfl (Nat.le_of_ble_eq_true rfl) rfl dX10_tellEnd_37 rfl (fun _ m11 => ?_)
      refine rf_iinc2 C (n := 43) (q := 4) (fun y12 => [(4, .int y12), (0, hA G 0), (1, .int x1), (2, .int x2), (3, .int x3)]) dX10_tellEnd_40 rfl rfl (by decide) (by decide) (fun _ => rfl) (fun y12 => ?_)
      refine rf_goto C (n := 10) dX10_tellEnd_43 (by decide) ?_
      exact rf_lv _ [1, 2, 3, 4, 0] rfl (ih _ _ _ _ _)
noncomputable def f_X10_tellEnd (fu : Nat) (x1 : Int32) (x2 : Int32) (x3 : Int32) (m : hM) : Option (Unit × hM) :=
  hBd (f_X1_clear fu m) fun _ m1 =>
f_X10_tellEnd_10 fu fu x1 x2 x3 0 m1
set_option maxRecDepth 100000 in
set_option maxHeartbeats 4000000 in
theorem c_X10_tellEnd (G : hG) (fu : Nat) (x1 : Int32) (x2 : Int32) (x3 : Int32) (m : hM) : Mt vU G 2 yX10_tellEnd cX10_tellEnd 5 none [hA G 0, .int x1, .int x2, .int x3] m (f_X10_tellEnd fu x1 x2 x3 m) := by
  refine mt_of (by decide +kernel) (Nat.le_of_ble_eq_true rfl) (fun X C K => ?_)
  have C : Cx G X 2 cX10_tellEnd 5 RX10 none := C
  show Rf vU G X 0 [(0, hA G 0), (1, .int x1), (2, .int x2), (3, .int x3)] [] m _
  unfold f_X10_tellEnd
  refine rf_aload_n C (n := 1) (q := 0) dX10_tellEnd_0 rfl rfl rfl ?_
  refine rf_getS C (n := 4) fl_RX10_83 ly_0 rfl dX10_tellEnd_1 rfl ?_
  refine rf_callVv C (n := 7) (c_X1_clear G fu _) mw_RX10_170 ly_66 rfl ⟨by decide, by decide⟩ rfl (Nat.le_of_ble_eq_true rfl) rfl dX10_tellEnd_4 rfl (fun _ m1 => ?_)
  refine rf_iconst C (n := 8) (v := 0) dX10_tellEnd_7 rfl (by decide) ?_
  refine rf_istore C (n := 10) [(4, .int 0), (0, hA G 0), (1, .int x1), (2, .int x2), (3, .int x3)] dX10_tellEnd_8 rfl (by decide) rfl ?_
  exact rf_lv _ [1, 2, 3, 4, 0] rfl (r_X10_tellEnd_10 C K fu fu _ _ _ _ _)
noncomputable def f_X10_ends (fu : Nat) (m : hM) : Option (Int32 × hM) :=
  if ¬ (gI m 18 6) = 0 then (
hBd (f_X10_fromNow fu m) fun y2 m3 =>
if y2 = 55 then (
hBd (f_X8_runToEnd fu 55 2399 m3) fun y5 m6 =>
if y5 = (-2) then (
some (y5, m6)) else (
hBd (f_X7_allHandings fu 46 m6) fun y8 m9 =>
hBd (f_X7_allLost fu 46 m9) fun y10 m11 =>
hBd (f_X10_tellEnd fu y8 y10 (gI m11 46 10) m11) fun _ m12 =>
some (y5, m12))) else none) else (
some ((-1), m))
set_option maxRecDepth 100000 in
set_option maxHeartbeats 4000000 in
theorem c_X10_ends (G : hG) (fu : Nat) (m : hM) : Mt vI G 8 yX10_ends cX10_ends 2 (some .int) [hA G 0] m (f_X10_ends fu m) := by
  refine mt_of (by decide +kernel) (Nat.le_of_ble_eq_true rfl) (fun X C K => ?_)
  have C : Cx G X 8 cX10_ends 2 RX10 (some .int) := C
  show Rf vI G X 0 [(0, hA G 0)] [] m _
  unfold f_X10_ends
  refine rf_aload_n C (n := 1) (q := 0) dX10_ends_0 rfl rfl rfl ?_
  refine rf_getS C (n := 4) fl_RX10_19 ly_0 rfl dX10_ends_1 rfl ?_
  refine rf_getI C (n := 7) fl_RX10_177 ly_18 rfl dX10_ends_4 rfl ?_
  refine rf_if_ne C (tgt := 12) (n := 10) dX10_ends_7 (by decide) rfl (fun h1 => ?_) (fun h1 => ?_)
  · refine rf_aload_n C (n := 13) (q := 0) dX10_ends_12 rfl rfl rfl ?_
    refine rf_getS C (n := 16) fl_RX10_42 ly_0 rfl dX10_ends_13 rfl ?_
    refine rf_aload_n C (n := 17) (q := 0) dX10_ends_16 rfl rfl rfl ?_
    refine rf_callVa C (n := 20) (c_X10_fromNow G fu _) mw_RX10_266 ly_0 rfl ⟨by decide, by decide⟩ rfl (Nat.le_of_ble_eq_true rfl) rfl dX10_ends_17 rfl (fun y2 m3 => ?_)
    refine rf_guard (fun h4 => ?_)
    subst h4
    refine rf_sipush C (n := 23) (v := 2399) dX10_ends_20 rfl (by decide) ?_
    refine rf_callVi C (n := 26) (c_X8_runToEnd G fu _ _ _) mw_RX10_270 ly_32 rfl ⟨by decide, by decide⟩ rfl (Nat.le_of_ble_eq_true rfl) rfl dX10_ends_23 rfl (fun y5 m6 => ?_)
    refine rf_istore_n C (n := 27) [(1, .int y5), (0, hA G 0)] dX10_ends_26 rfl rfl (by decide) rfl ?_
    refine rf_iload_n C (n := 28) (q := 0) dX10_ends_27 rfl rfl rfl ?_
    refine rf_bipush C (n := 30) (v := (-2)) dX10_ends_28 rfl (by decide) ?_
    refine rf_icmp_eq C (tgt := 58) (n := 33) dX10_ends_30 (by decide) rfl (fun h7 => ?_) (fun h7 => ?_)
    · refine rf_iload_n C (n := 59) (q := 0) dX10_ends_58 rfl rfl rfl ?_
      exact rf_iret C K dX10_ends_59
    · refine rf_aload_n C (n := 34) (q := 1) dX10_ends_33 rfl rfl rfl ?_
      refine rf_aload_n C (n := 35) (q := 1) dX10_ends_34 rfl rfl rfl ?_
      refine rf_getS C (n := 38) fl_RX10_65 ly_0 rfl dX10_ends_35 rfl ?_
      refine rf_callVi C (n := 41) (c_X7_allHandings G fu _ _) mw_RX10_274 ly_46 rfl ⟨by decide, by decide⟩ rfl (Nat.le_of_ble_eq_true rfl) rfl dX10_ends_38 rfl (fun y8 m9 => ?_)
      refine rf_aload_n C (n := 42) (q := 1) dX10_ends_41 rfl rfl rfl ?_
      refine rf_getS C (n := 45) fl_RX10_65 ly_0 rfl dX10_ends_42 rfl ?_
      refine rf_callVi C (n := 48) (c_X7_allLost G fu _ _) mw_RX10_278 ly_46 rfl ⟨by decide, by decide⟩ rfl (Nat.le_of_ble_eq_true rfl) rfl dX10_ends_45 rfl (fun y10 m11 => ?_)
      refine rf_aload_n C (n := 49) (q := 1) dX10_ends_48 rfl rfl rfl ?_
      refine rf_getS C (n := 52) fl_RX10_65 ly_0 rfl dX10_ends_49 rfl ?_
      refine rf_getI C (n := 55) fl_RX10_281 ly_46 rfl dX10_ends_52 rfl ?_
      refine rf_callVv C (n := 58) (c_X10_tellEnd G fu _ _ _ _) mw_RX10_284 ly_0 rfl ⟨by decide, by decide⟩ rfl (Nat.le_of_ble_eq_true rfl) rfl dX10_ends_55 rfl (fun _ m12 => ?_)
      refine rf_iload_n C (n := 59) (q := 0) dX10_ends_58 rfl rfl rfl ?_
      exact rf_iret C K dX10_ends_59
  · refine rf_iconst C (n := 11) (v := (-1)) dX10_ends_10 rfl (by decide) ?_
    exact rf_iret C K dX10_ends_11
noncomputable def f_X10_judge_107 (fu : Nat) (x1 : Int32) (x3 : Int32) (m : hM) : Option (Int32 × hM) :=
  hBd (f_X1_clear fu m) fun _ m18 =>
hBd (f_X1_tell fu (Int32.toInt64 (x3 / 6)) m18) fun _ m19 =>
hBd (f_X1_tell fu (Int32.toInt64 (x3 - x3 / 6 * 6)) m19) fun _ m20 =>
some (x1, m20)
set_option maxRecDepth 100000 in
set_option maxHeartbeats 4000000 in
theorem r_X10_judge_107 {G : hG} {X : hX} (C : Cx G X 7 cX10_judge 4 RX10 (some .int)) (K : Cr G X) (fu : Nat) (x1 : Int32) (x3 : Int32) (m : hM) : Rf vI G X 107 [(0, hA G 0), (1, .int x1), (3, .int x3)] [] m (f_X10_judge_107 fu x1 x3 m) := by
  unfold f_X10_judge_107
  refine rf_aload_n C (n := 108) (q := 0) dX10_judge_107 rfl rfl rfl ?_
  refine rf_getS C (n := 111) fl_RX10_83 ly_0 rfl dX10_judge_108 rfl ?_
  refine rf_callVv C (n := 114) (c_X1_clear G fu _) mw_RX10_170 ly_66 rfl ⟨by decide, by decide⟩ rfl (Nat.le_of_ble_eq_true rfl) rfl dX10_judge_111 rfl (fun _ m18 => ?_)
  refine rf_aload_n C (n := 115) (q := 0) dX10_judge_114 rfl rfl rfl ?_
  refine rf_getS C (n := 118) fl_RX10_83 ly_0 rfl dX10_judge_115 rfl ?_
  refine rf_iload_n C (n := 119) (q := 2) dX10_judge_118 rfl rfl rfl ?_
  refine rf_bipush C (n := 121) (v := 6) dX10_judge_119 rfl (by decide) ?_
  refine rf_idiv C (n := 122) dX10_judge_121 rfl (by decide) ?_
  refine rf_i2l C (n := 123) dX10_judge_122 rfl ?_
  refine rf_callVv C (n := 126) (c_X1_tell G fu _ _) mw_RX10_173 ly_66 rfl ⟨by decide, by decide⟩ rfl (Nat.le_of_ble_eq_true rfl) rfl dX10_judge_123 rfl (fun _ m19 => ?_)
  refine rf_aload_n C (n := 127) (q := 0) dX10_judge_126 rfl rfl rfl ?_
  refine rf_getS C (n := 130) fl_RX10_83 ly_0 rfl dX10_judge_127 rfl ?_
  refine rf_iload_n C (n := 131) (q := 2) dX10_judge_130 rfl rfl rfl ?_
  refine rf_bipush C (n := 133) (v := 6) dX10_judge_131 rfl (by decide) ?_
  refine rf_irem C (n := 134) dX10_judge_133 rfl (by decide) ?_
  refine rf_i2l C (n := 135) dX10_judge_134 rfl ?_
  refine rf_callVv C (n := 138) (c_X1_tell G fu _ _) mw_RX10_173 ly_66 rfl ⟨by decide, by decide⟩ rfl (Nat.le_of_ble_eq_true rfl) rfl dX10_judge_135 rfl (fun _ m20 => ?_)
  refine rf_iload_n C (n := 139) (q := 1) dX10_judge_138 rfl rfl rfl ?_
  exact rf_iret C K dX10_judge_139
noncomputable def s_X10_judge_25 (fu : Nat) (ih : Int32 → hM → Option (Int32 × hM)) (x1 : Int32) (m : hM) : Option (Int32 × hM) :=
  if 2399 ≤ x1 then (
some ((-2), m)) else (
hBd (f_X4_all fu m) fun y7 m8 =>
if (gI m 55 1) = y7 then (
some ((-2), m8)) else (
hBd (f_X8_readyPieces fu 55 m8) fun y10 m11 =>
hLet (y10 &&& ((gI m11 55 2) ^^^ (-1))) fun y12 =>
hBd (f_X8_hourGoesBy fu 55 m11) fun _ m13 =>
hBd (f_X8_idleThough fu (y12 &&& ((gI m13 32 5) ^^^ (-1))) x1 m13) fun y14 m15 =>
if y14 = (-1) then (
hLet (x1 + 1) fun y17 =>
ih y17 m15) else (
f_X10_judge_107 fu x1 y14 m15)))
noncomputable def f_X10_judge_25 (fu : Nat) (n : Nat) : Int32 → hM → Option (Int32 × hM) :=
  Nat.rec (motive := fun _ => Int32 → hM → Option (Int32 × hM)) (fun _ _ => none) (fun _ ih => s_X10_judge_25 fu ih) n
theorem f_X10_judge_25_s (fu : Nat) (n : Nat) (x1 : Int32) (m : hM) : f_X10_judge_25 fu (n + 1) x1 m = s_X10_judge_25 fu (f_X10_judge_25 fu n) x1 m := rfl
set_option maxRecDepth 100000 in
set_option maxHeartbeats 4000000 in
theorem r_X10_judge_25 {G : hG} {X : hX} (C : Cx G X 7 cX10_judge 4 RX10 (some .int)) (K : Cr G X) (fu : Nat) (n : Nat) : ∀ (x1 : Int32) (m : hM), Rf vI G X 25 [(0, hA G 0), (1, .int x1)] [] m (f_X10_judge_25 fu n x1 m) := by
  induction n with
  | zero => intros; exact rf_none
  | succ n ih =>
    intro x1 m
    show Rf vI G X 25 [(0, hA G 0), (1, .int x1)] [] m (s_X10_judge_25 fu (f_X10_judge_25 fu n) x1 m)
    unfold s_X10_judge_25
    refine rf_iload_n C (n := 26) (q := 1) dX10_judge_25 rfl rfl rfl ?_
    refine rf_sipush C (n := 29) (v := 2399) dX10_judge_26 rfl (by decide) ?_
    refine rf_icmp_ge C (tgt := 146) (n := 32) dX10_judge_29 (by decide) rfl (fun h6 => ?_) (fun h6 => ?_)
    · refine rf_bipush C (n := 148) (v := (-2)) dX10_judge_146 rfl (by decide) ?_
      exact rf_iret C K dX10_judge_148
    · refine rf_aload_n C (n := 33) (q := 0) dX10_judge_32 rfl rfl rfl ?_
      refine rf_getS C (n := 36) fl_RX10_69 ly_0 rfl dX10_judge_33 rfl ?_
      refine rf_getI C (n := 39) fl_RX10_260 ly_55 rfl dX10_judge_36 rfl ?_
      refine rf_aload_n C (n := 40) (q := 0) dX10_judge_39 rfl rfl rfl ?_
      refine rf_getS C (n := 43) fl_RX10_19 ly_0 rfl dX10_judge_40 rfl ?_
      refine rf_callVi C (n := 46) (c_X4_all G fu _) mw_RX10_287 ly_18 rfl ⟨by decide, by decide⟩ rfl (Nat.le_of_ble_eq_true rfl) rfl dX10_judge_43 rfl (fun y7 m8 => ?_)
      refine rf_icmp_eq C (tgt := 146) (n := 49) dX10_judge_46 (by decide) rfl (fun h9 => ?_) (fun h9 => ?_)
      · refine rf_bipush C (n := 148) (v := (-2)) dX10_judge_146 rfl (by decide) ?_
        exact rf_iret C K dX10_judge_148
      · refine rf_aload_n C (n := 50) (q := 0) dX10_judge_49 rfl rfl rfl ?_
        refine rf_getS C (n := 53) fl_RX10_42 ly_0 rfl dX10_judge_50 rfl ?_
        refine rf_aload_n C (n := 54) (q := 0) dX10_judge_53 rfl rfl rfl ?_
        refine rf_getS C (n := 57) fl_RX10_69 ly_0 rfl dX10_judge_54 rfl ?_
        refine rf_callVi C (n := 60) (c_X8_readyPieces G fu _ _) mw_RX10_256 ly_32 rfl ⟨by decide, by decide⟩ rfl (Nat.le_of_ble_eq_true rfl) rfl dX10_judge_57 rfl (fun y10 m11 => ?_)
        refine rf_aload_n C (n := 61) (q := 0) dX10_judge_60 rfl rfl rfl ?_
        refine rf_getS C (n := 64) fl_RX10_69 ly_0 rfl dX10_judge_61 rfl ?_
        refine rf_getI C (n := 67) fl_RX10_241 ly_55 rfl dX10_judge_64 rfl ?_
        refine rf_iconst C (n := 68) (v := (-1)) dX10_judge_67 rfl (by decide) ?_
        refine rf_ixor C (n := 69) dX10_judge_68 rfl ?_
        refine rf_iand C (n := 70) dX10_judge_69 rfl ?_
        refine rf_letI (fun y12 => ?_)
        refine rf_istore_n C (n := 71) [(2, .int y12), (0, hA G 0), (1, .int x1)] dX10_judge_70 rfl rfl (by decide) rfl ?_
        refine rf_aload_n C (n := 72) (q := 1) dX10_judge_71 rfl rfl rfl ?_
        refine rf_getS C (n := 75) fl_RX10_42 ly_0 rfl dX10_judge_72 rfl ?_
        refine rf_aload_n C (n := 76) (q := 1) dX10_judge_75 rfl rfl rfl ?_
        refine rf_getS C (n := 79) fl_RX10_69 ly_0 rfl dX10_judge_76 rfl ?_
        refine rf_callVv C (n := 82) (c_X8_hourGoesBy G fu _ _) mw_RX10_228 ly_32 rfl ⟨by decide, by decide⟩ rfl (Nat.le_of_ble_eq_true rfl) rfl dX10_judge_79 rfl (fun _ m13 => ?_)
        refine rf_aload_n C (n := 83) (q := 1) dX10_judge_82 rfl rfl rfl ?_
        refine rf_getS C (n := 86) fl_RX10_42 ly_0 rfl dX10_judge_83 rfl ?_
        refine rf_iload_n C (n := 87) (q := 0) dX10_judge_86 rfl rfl rfl ?_
        refine rf_aload_n C (n := 88) (q := 1) dX10_judge_87 rfl rfl rfl ?_
        refine rf_getS C (n := 91) fl_RX10_42 ly_0 rfl dX10_judge_88 rfl ?_
        refine rf_getI C (n := 94) fl_RX10_290 ly_32 rfl dX10_judge_91 rfl ?_
        refine rf_iconst C (n := 95) (v := (-1)) dX10_judge_94 rfl (by decide) ?_
        refine rf_ixor C (n := 96) dX10_judge_95 rfl ?_
        refine rf_iand C (n := 97) dX10_judge_96 rfl ?_
        refine rf_iload_n C (n := 98) (q := 2) dX10_judge_97 rfl rfl rfl ?_
        refine rf_callVi C (n := 101) (c_X8_idleThough G fu _ _ _) mw_RX10_293 ly_32 rfl ⟨by decide, by decide⟩ rfl (Nat.le_of_ble_eq_true rfl) rfl dX10_judge_98 rfl (fun y14 m15 => ?_)
        refine rf_istore_n C (n := 102) [(3, .int y14), (2, .int y12), (0, hA G 0), (1, .int x1)] dX10_judge_101 rfl rfl (by decide) rfl ?_
        refine rf_iload_n C (n := 103) (q := 0) dX10_judge_102 rfl rfl rfl ?_
        refine rf_iconst C (n := 104) (v := (-1)) dX10_judge_103 rfl (by decide) ?_
        refine rf_icmp_eq C (tgt := 140) (n := 107) dX10_judge_104 (by decide) rfl (fun h16 => ?_) (fun h16 => ?_)
        · refine rf_iinc2 C (n := 143) (q := 3) (fun y17 => [(1, .int y17), (3, .int y14), (2, .int y12), (0, hA G 0)]) dX10_judge_140 rfl rfl (by decide) (by decide) (fun _ => rfl) (fun y17 => ?_)
          refine rf_goto C (n := 25) dX10_judge_143 (by decide) ?_
          exact rf_lv _ [3, 0] rfl (ih _ _)
        · exact rf_lv _ [2, 3, 0] rfl (r_X10_judge_107 C K fu _ _ _)
noncomputable def f_X10_judge (fu : Nat) (m : hM) : Option (Int32 × hM) :=
  if ¬ (gI m 18 6) = 0 then (
hBd (f_X10_fromNow fu m) fun y2 m3 =>
if y2 = 55 then (
hLet (gI m3 55 0) fun y5 =>
f_X10_judge_25 fu fu y5 m3) else none) else (
some ((-1), m))
set_option maxRecDepth 100000 in
set_option maxHeartbeats 4000000 in
theorem c_X10_judge (G : hG) (fu : Nat) (m : hM) : Mt vI G 7 yX10_judge cX10_judge 4 (some .int) [hA G 0] m (f_X10_judge fu m) := by
  refine mt_of (by decide +kernel) (Nat.le_of_ble_eq_true rfl) (fun X C K => ?_)
  have C : Cx G X 7 cX10_judge 4 RX10 (some .int) := C
  show Rf vI G X 0 [(0, hA G 0)] [] m _
  unfold f_X10_judge
  refine rf_aload_n C (n := 1) (q := 0) dX10_judge_0 rfl rfl rfl ?_
  refine rf_getS C (n := 4) fl_RX10_19 ly_0 rfl dX10_judge_1 rfl ?_
  refine rf_getI C (n := 7) fl_RX10_177 ly_18 rfl dX10_judge_4 rfl ?_
  refine rf_if_ne C (tgt := 12) (n := 10) dX10_judge_7 (by decide) rfl (fun h1 => ?_) (fun h1 => ?_)
  · refine rf_aload_n C (n := 13) (q := 0) dX10_judge_12 rfl rfl rfl ?_
    refine rf_callVa C (n := 16) (c_X10_fromNow G fu _) mw_RX10_266 ly_0 rfl ⟨by decide, by decide⟩ rfl (Nat.le_of_ble_eq_true rfl) rfl dX10_judge_13 rfl (fun y2 m3 => ?_)
    refine rf_guard (fun h4 => ?_)
    subst h4
    refine rf_pop C (n := 17) dX10_judge_16 rfl rfl ?_
    refine rf_aload_n C (n := 18) (q := 0) dX10_judge_17 rfl rfl rfl ?_
    refine rf_getS C (n := 21) fl_RX10_69 ly_0 rfl dX10_judge_18 rfl ?_
    refine rf_getI C (n := 24) fl_RX10_218 ly_55 rfl dX10_judge_21 rfl ?_
    refine rf_letI (fun y5 => ?_)
    refine rf_istore_n C (n := 25) [(1, .int y5), (0, hA G 0)] dX10_judge_24 rfl rfl (by decide) rfl ?_
    exact rf_lv _ [1, 0] rfl (r_X10_judge_25 C K fu fu _ _)
  · refine rf_iconst C (n := 11) (v := (-1)) dX10_judge_10 rfl (by decide) ?_
    exact rf_iret C K dX10_judge_11
noncomputable def f_X10_one (fu : Nat) (x1 : Int32) (x2 : Int32) (x3 : Int32) (m : hM) : Option (Int32 × hM) :=
  hBd (f_X4_has fu x1 m) fun y1 m2 =>
if y1 = 0 then (
some ((-1), m2)) else (
hBd (f_X10_isHour fu x2 m2) fun y4 m5 =>
if y4 = 0 then (
some ((-1), m5)) else (
if x3 < 0 then (
some ((-1), m5)) else (
if x3 ≤ 3 then (
if hIn x1 8 then (
hBd (f_X9_grow fu (gI m5 23 (Int32.toNatClampNeg x1)) x3 m5) fun _ m10 =>
hBd (f_X9_soonest fu x1 x2 2399 m10) fun y11 m12 =>
if y11 = (-2) then (
some (y11, m12)) else (
hBd (f_X9_tellBest fu m12) fun _ m14 =>
some (y11, m14))) else none) else (
some ((-1), m5)))))
set_option maxRecDepth 100000 in
set_option maxHeartbeats 4000000 in
theorem c_X10_one (G : hG) (fu : Nat) (x1 : Int32) (x2 : Int32) (x3 : Int32) (m : hM) : Mt vI G 5 yX10_one cX10_one 5 (some .int) [hA G 0, .int x1, .int x2, .int x3] m (f_X10_one fu x1 x2 x3 m) := by
  refine mt_of (by decide +kernel) (Nat.le_of_ble_eq_true rfl) (fun X C K => ?_)
  have C : Cx G X 5 cX10_one 5 RX10 (some .int) := C
  show Rf vI G X 0 [(0, hA G 0), (1, .int x1), (2, .int x2), (3, .int x3)] [] m _
  unfold f_X10_one
  refine rf_aload_n C (n := 1) (q := 0) dX10_one_0 rfl rfl rfl ?_
  refine rf_getS C (n := 4) fl_RX10_19 ly_0 rfl dX10_one_1 rfl ?_
  refine rf_iload_n C (n := 5) (q := 1) dX10_one_4 rfl rfl rfl ?_
  refine rf_callVi C (n := 8) (c_X4_has G fu _ _) mw_RX10_214 ly_18 rfl ⟨by decide, by decide⟩ rfl (Nat.le_of_ble_eq_true rfl) rfl dX10_one_5 rfl (fun y1 m2 => ?_)
  refine rf_if_eq C (tgt := 27) (n := 11) dX10_one_8 (by decide) rfl (fun h3 => ?_) (fun h3 => ?_)
  · refine rf_iconst C (n := 28) (v := (-1)) dX10_one_27 rfl (by decide) ?_
    exact rf_iret C K dX10_one_28
  · refine rf_iload_n C (n := 12) (q := 2) dX10_one_11 rfl rfl rfl ?_
    refine rf_callSi C (n := 15) (c_X10_isHour G fu _ _) sw_RX10_119 ⟨by decide, by decide⟩ rfl (Nat.le_of_ble_eq_true rfl) rfl dX10_one_12 rfl (fun y4 m5 => ?_)
    refine rf_if_eq C (tgt := 27) (n := 18) dX10_one_15 (by decide) rfl (fun h6 => ?_) (fun h6 => ?_)
    · refine rf_iconst C (n := 28) (v := (-1)) dX10_one_27 rfl (by decide) ?_
      exact rf_iret C K dX10_one_28
    · refine rf_iload_n C (n := 19) (q := 3) dX10_one_18 rfl rfl rfl ?_
      refine rf_if_lt C (tgt := 27) (n := 22) dX10_one_19 (by decide) rfl (fun h7 => ?_) (fun h7 => ?_)
      · refine rf_iconst C (n := 28) (v := (-1)) dX10_one_27 rfl (by decide) ?_
        exact rf_iret C K dX10_one_28
      · refine rf_iload_n C (n := 23) (q := 3) dX10_one_22 rfl rfl rfl ?_
        refine rf_iconst C (n := 24) (v := 3) dX10_one_23 rfl (by decide) ?_
        refine rf_icmp_le C (tgt := 29) (n := 27) dX10_one_24 (by decide) rfl (fun h8 => ?_) (fun h8 => ?_)
        · refine rf_aload_n C (n := 30) (q := 0) dX10_one_29 rfl rfl rfl ?_
          refine rf_getS C (n := 33) fl_RX10_51 ly_0 rfl dX10_one_30 rfl ?_
          refine rf_aload_n C (n := 34) (q := 0) dX10_one_33 rfl rfl rfl ?_
          refine rf_getS C (n := 37) fl_RX10_19 ly_0 rfl dX10_one_34 rfl ?_
          refine rf_getS C (n := 40) fl_RX10_190 ly_18 rfl dX10_one_37 rfl ?_
          refine rf_iload_n C (n := 41) (q := 1) dX10_one_40 rfl rfl rfl ?_
          refine rf_guard (fun h9 => ?_)
          refine rf_iald C (n := 42) ly_23 h9 rfl dX10_one_41 rfl ?_
          refine rf_iload_n C (n := 43) (q := 3) dX10_one_42 rfl rfl rfl ?_
          refine rf_callVv C (n := 46) (c_X9_grow G fu _ _ _) mw_RX10_296 ly_34 rfl ⟨by decide, by decide⟩ rfl (Nat.le_of_ble_eq_true rfl) rfl dX10_one_43 rfl (fun _ m10 => ?_)
          refine rf_aload_n C (n := 47) (q := 0) dX10_one_46 rfl rfl rfl ?_
          refine rf_getS C (n := 50) fl_RX10_51 ly_0 rfl dX10_one_47 rfl ?_
          refine rf_aload_n C (n := 51) (q := 0) dX10_one_50 rfl rfl rfl ?_
          refine rf_getS C (n := 54) fl_RX10_19 ly_0 rfl dX10_one_51 rfl ?_
          refine rf_iload_n C (n := 55) (q := 1) dX10_one_54 rfl rfl rfl ?_
          refine rf_iload_n C (n := 56) (q := 2) dX10_one_55 rfl rfl rfl ?_
          refine rf_sipush C (n := 59) (v := 2399) dX10_one_56 rfl (by decide) ?_
          refine rf_callVi C (n := 62) (c_X9_soonest G fu _ _ _ _) mw_RX10_300 ly_34 rfl ⟨by decide, by decide⟩ rfl (Nat.le_of_ble_eq_true rfl) rfl dX10_one_59 rfl (fun y11 m12 => ?_)
          refine rf_istore C (n := 64) [(4, .int y11), (0, hA G 0), (1, .int x1), (2, .int x2), (3, .int x3)] dX10_one_62 rfl (by decide) rfl ?_
          refine rf_iload C (n := 66) (q := 0) dX10_one_64 rfl rfl ?_
          refine rf_bipush C (n := 68) (v := (-2)) dX10_one_66 rfl (by decide) ?_
          refine rf_icmp_eq C (tgt := 82) (n := 71) dX10_one_68 (by decide) rfl (fun h13 => ?_) (fun h13 => ?_)
          · refine rf_iload C (n := 84) (q := 0) dX10_one_82 rfl rfl ?_
            exact rf_iret C K dX10_one_84
          · refine rf_aload_n C (n := 72) (q := 1) dX10_one_71 rfl rfl rfl ?_
            refine rf_getS C (n := 75) fl_RX10_51 ly_0 rfl dX10_one_72 rfl ?_
            refine rf_aload_n C (n := 76) (q := 1) dX10_one_75 rfl rfl rfl ?_
            refine rf_getS C (n := 79) fl_RX10_83 ly_0 rfl dX10_one_76 rfl ?_
            refine rf_callVv C (n := 82) (c_X9_tellBest G fu _) mw_RX10_304 ly_34 rfl ⟨by decide, by decide⟩ rfl (Nat.le_of_ble_eq_true rfl) rfl dX10_one_79 rfl (fun _ m14 => ?_)
            refine rf_iload C (n := 84) (q := 0) dX10_one_82 rfl rfl ?_
            exact rf_iret C K dX10_one_84
        · refine rf_iconst C (n := 28) (v := (-1)) dX10_one_27 rfl (by decide) ?_
          exact rf_iret C K dX10_one_28
noncomputable def f_X10_cheap (fu : Nat) (x1 : Int32) (x2 : Int32) (x3 : Int32) (x4 : Int32) (m : hM) : Option (Int32 × hM) :=
  hBd (f_X4_has fu x1 m) fun y1 m2 =>
if y1 = 0 then (
some ((-1), m2)) else (
hBd (f_X10_isHour fu x2 m2) fun y4 m5 =>
if y4 = 0 then (
some ((-1), m5)) else (
if x3 < 0 then (
some ((-1), m5)) else (
if x3 ≤ 2 then (
hBd (f_X10_isHour fu x4 m5) fun y9 m10 =>
if y9 = 0 then (
some ((-1), m10)) else (
if x4 < x2 then (
some ((-1), m10)) else (
if x4 ≤ (x2 + 400) then (
if hIn x1 8 then (
hBd (f_X9_grow fu (gI m10 23 (Int32.toNatClampNeg x1)) x3 m10) fun _ m15 =>
hBd (f_X9_cheapest fu x1 x2 x4 m15) fun y16 m17 =>
if y16 = (-2) then (
some (y16, m17)) else (
hBd (f_X9_tellBest fu m17) fun _ m19 =>
some (y16, m19))) else none) else (
some ((-1), m10))))) else (
some ((-1), m5)))))
set_option maxRecDepth 100000 in
set_option maxHeartbeats 4000000 in
theorem c_X10_cheap (G : hG) (fu : Nat) (x1 : Int32) (x2 : Int32) (x3 : Int32) (x4 : Int32) (m : hM) : Mt vI G 5 yX10_cheap cX10_cheap 6 (some .int) [hA G 0, .int x1, .int x2, .int x3, .int x4] m (f_X10_cheap fu x1 x2 x3 x4 m) := by
  refine mt_of (by decide +kernel) (Nat.le_of_ble_eq_true rfl) (fun X C K => ?_)
  have C : Cx G X 5 cX10_cheap 6 RX10 (some .int) := C
  show Rf vI G X 0 [(0, hA G 0), (1, .int x1), (2, .int x2), (3, .int x3), (4, .int x4)] [] m _
  unfold f_X10_cheap
  refine rf_aload_n C (n := 1) (q := 0) dX10_cheap_0 rfl rfl rfl ?_
  refine rf_getS C (n := 4) fl_RX10_19 ly_0 rfl dX10_cheap_1 rfl ?_
  refine rf_iload_n C (n := 5) (q := 1) dX10_cheap_4 rfl rfl rfl ?_
  refine rf_callVi C (n := 8) (c_X4_has G fu _ _) mw_RX10_214 ly_18 rfl ⟨by decide, by decide⟩ rfl (Nat.le_of_ble_eq_true rfl) rfl dX10_cheap_5 rfl (fun y1 m2 => ?_)
  refine rf_if_eq C (tgt := 27) (n := 11) dX10_cheap_8 (by decide) rfl (fun h3 => ?_) (fun h3 => ?_)
  · refine rf_iconst C (n := 28) (v := (-1)) dX10_cheap_27 rfl (by decide) ?_
    exact rf_iret C K dX10_cheap_28
  · refine rf_iload_n C (n := 12) (q := 2) dX10_cheap_11 rfl rfl rfl ?_
    refine rf_callSi C (n := 15) (c_X10_isHour G fu _ _) sw_RX10_119 ⟨by decide, by decide⟩ rfl (Nat.le_of_ble_eq_true rfl) rfl dX10_cheap_12 rfl (fun y4 m5 => ?_)
    refine rf_if_eq C (tgt := 27) (n := 18) dX10_cheap_15 (by decide) rfl (fun h6 => ?_) (fun h6 => ?_)
    · refine rf_iconst C (n := 28) (v := (-1)) dX10_cheap_27 rfl (by decide) ?_
      exact rf_iret C K dX10_cheap_28
    · refine rf_iload_n C (n := 19) (q := 3) dX10_cheap_18 rfl rfl rfl ?_
      refine rf_if_lt C (tgt := 27) (n := 22) dX10_cheap_19 (by decide) rfl (fun h7 => ?_) (fun h7 => ?_)
      · refine rf_iconst C (n := 28) (v := (-1)) dX10_cheap_27 rfl (by decide) ?_
        exact rf_iret C K dX10_cheap_28
      · refine rf_iload_n C (n := 23) (q := 3) dX10_cheap_22 rfl rfl rfl ?_
        refine rf_iconst C (n := 24) (v := 2) dX10_cheap_23 rfl (by decide) ?_
        refine rf_icmp_le C (tgt := 29) (n := 27) dX10_cheap_24 (by decide) rfl (fun h8 => ?_) (fun h8 => ?_)
        · refine rf_iload C (n := 31) (q := 4) dX10_cheap_29 rfl rfl ?_
          refine rf_callSi C (n := 34) (c_X10_isHour G fu _ _) sw_RX10_119 ⟨by decide, by decide⟩ rfl (Nat.le_of_ble_eq_true rfl) rfl dX10_cheap_31 rfl (fun y9 m10 => ?_)
          refine rf_if_eq C (tgt := 53) (n := 37) dX10_cheap_34 (by decide) rfl (fun h11 => ?_) (fun h11 => ?_)
          · refine rf_iconst C (n := 54) (v := (-1)) dX10_cheap_53 rfl (by decide) ?_
            exact rf_iret C K dX10_cheap_54
          · refine rf_iload C (n := 39) (q := 4) dX10_cheap_37 rfl rfl ?_
            refine rf_iload_n C (n := 40) (q := 2) dX10_cheap_39 rfl rfl rfl ?_
            refine rf_icmp_lt C (tgt := 53) (n := 43) dX10_cheap_40 (by decide) rfl (fun h12 => ?_) (fun h12 => ?_)
            · refine rf_iconst C (n := 54) (v := (-1)) dX10_cheap_53 rfl (by decide) ?_
              exact rf_iret C K dX10_cheap_54
            · refine rf_iload C (n := 45) (q := 4) dX10_cheap_43 rfl rfl ?_
              refine rf_iload_n C (n := 46) (q := 2) dX10_cheap_45 rfl rfl rfl ?_
              refine rf_sipush C (n := 49) (v := 400) dX10_cheap_46 rfl (by decide) ?_
              refine rf_iadd C (n := 50) dX10_cheap_49 rfl ?_
              refine rf_icmp_le C (tgt := 55) (n := 53) dX10_cheap_50 (by decide) rfl (fun h13 => ?_) (fun h13 => ?_)
              · refine rf_aload_n C (n := 56) (q := 0) dX10_cheap_55 rfl rfl rfl ?_
                refine rf_getS C (n := 59) fl_RX10_51 ly_0 rfl dX10_cheap_56 rfl ?_
                refine rf_aload_n C (n := 60) (q := 0) dX10_cheap_59 rfl rfl rfl ?_
                refine rf_getS C (n := 63) fl_RX10_19 ly_0 rfl dX10_cheap_60 rfl ?_
                refine rf_getS C (n := 66) fl_RX10_190 ly_18 rfl dX10_cheap_63 rfl ?_
                refine rf_iload_n C (n := 67) (q := 1) dX10_cheap_66 rfl rfl rfl ?_
                refine rf_guard (fun h14 => ?_)
                refine rf_iald C (n := 68) ly_23 h14 rfl dX10_cheap_67 rfl ?_
                refine rf_iload_n C (n := 69) (q := 3) dX10_cheap_68 rfl rfl rfl ?_
                refine rf_callVv C (n := 72) (c_X9_grow G fu _ _ _) mw_RX10_296 ly_34 rfl ⟨by decide, by decide⟩ rfl (Nat.le_of_ble_eq_true rfl) rfl dX10_cheap_69 rfl (fun _ m15 => ?_)
                refine rf_aload_n C (n := 73) (q := 0) dX10_cheap_72 rfl rfl rfl ?_
                refine rf_getS C (n := 76) fl_RX10_51 ly_0 rfl dX10_cheap_73 rfl ?_
                refine rf_aload_n C (n := 77) (q := 0) dX10_cheap_76 rfl rfl rfl ?_
                refine rf_getS C (n := 80) fl_RX10_19 ly_0 rfl dX10_cheap_77 rfl ?_
                refine rf_iload_n C (n := 81) (q := 1) dX10_cheap_80 rfl rfl rfl ?_
                refine rf_iload_n C (n := 82) (q := 2) dX10_cheap_81 rfl rfl rfl ?_
                refine rf_iload C (n := 84) (q := 4) dX10_cheap_82 rfl rfl ?_
                refine rf_callVi C (n := 87) (c_X9_cheapest G fu _ _ _ _) mw_RX10_308 ly_34 rfl ⟨by decide, by decide⟩ rfl (Nat.le_of_ble_eq_true rfl) rfl dX10_cheap_84 rfl (fun y16 m17 => ?_)
                refine rf_istore C (n := 89) [(5, .int y16), (0, hA G 0), (1, .int x1), (2, .int x2), (3, .int x3), (4, .int x4)] dX10_cheap_87 rfl (by decide) rfl ?_
                refine rf_iload C (n := 91) (q := 0) dX10_cheap_89 rfl rfl ?_
                refine rf_bipush C (n := 93) (v := (-2)) dX10_cheap_91 rfl (by decide) ?_
                refine rf_icmp_eq C (tgt := 107) (n := 96) dX10_cheap_93 (by decide) rfl (fun h18 => ?_) (fun h18 => ?_)
                · refine rf_iload C (n := 109) (q := 0) dX10_cheap_107 rfl rfl ?_
                  exact rf_iret C K dX10_cheap_109
                · refine rf_aload_n C (n := 97) (q := 1) dX10_cheap_96 rfl rfl rfl ?_
                  refine rf_getS C (n := 100) fl_RX10_51 ly_0 rfl dX10_cheap_97 rfl ?_
                  refine rf_aload_n C (n := 101) (q := 1) dX10_cheap_100 rfl rfl rfl ?_
                  refine rf_getS C (n := 104) fl_RX10_83 ly_0 rfl dX10_cheap_101 rfl ?_
                  refine rf_callVv C (n := 107) (c_X9_tellBest G fu _) mw_RX10_304 ly_34 rfl ⟨by decide, by decide⟩ rfl (Nat.le_of_ble_eq_true rfl) rfl dX10_cheap_104 rfl (fun _ m19 => ?_)
                  refine rf_iload C (n := 109) (q := 0) dX10_cheap_107 rfl rfl ?_
                  exact rf_iret C K dX10_cheap_109
              · refine rf_iconst C (n := 54) (v := (-1)) dX10_cheap_53 rfl (by decide) ?_
                exact rf_iret C K dX10_cheap_54
        · refine rf_iconst C (n := 28) (v := (-1)) dX10_cheap_27 rfl (by decide) ?_
          exact rf_iret C K dX10_cheap_28
noncomputable def f_X10_edge_190 (fu : Nat) (x6 : Int32) (x7 : Int32) (m : hM) : Option (Int32 × hM) :=
  hLet (sI m 1 5 x6) fun m20 =>
if x7 ≤ 20 then (
some (x7, m20)) else (
some ((-2), m20))
set_option maxRecDepth 100000 in
set_option maxHeartbeats 4000000 in
theorem r_X10_edge_190 {G : hG} {X : hX} (C : Cx G X 5 cX10_edge 10 RX10 (some .int)) (K : Cr G X) (fu : Nat) (x6 : Int32) (x7 : Int32) (m : hM) : Rf vI G X 190 [(0, hA G 0), (6, .int x6), (7, .int x7)] [] m (f_X10_edge_190 fu x6 x7 m) := by
  unfold f_X10_edge_190
  refine rf_aload_n C (n := 191) (q := 0) dX10_edge_190 rfl rfl rfl ?_
  refine rf_getS C (n := 194) fl_RX10_12 ly_0 rfl dX10_edge_191 rfl ?_
  refine rf_iload C (n := 196) (q := 1) dX10_edge_194 rfl rfl ?_
  refine rf_putI C (n := 199) pl_RX10_145 ly_1 rfl ⟨rfl, rfl⟩ dX10_edge_196 rfl ?_
  refine rf_letM (fun m20 => ?_)
  refine rf_iload C (n := 201) (q := 2) dX10_edge_199 rfl rfl ?_
  refine rf_bipush C (n := 203) (v := 20) dX10_edge_201 rfl (by decide) ?_
  refine rf_icmp_le C (tgt := 211) (n := 206) dX10_edge_203 (by decide) rfl (fun h21 => ?_) (fun h21 => ?_)
  · refine rf_iload C (n := 213) (q := 2) dX10_edge_211 rfl rfl ?_
    exact rf_iret C K dX10_edge_213
  · refine rf_bipush C (n := 208) (v := (-2)) dX10_edge_206 rfl (by decide) ?_
    refine rf_goto C (n := 213) dX10_edge_208 (by decide) ?_
    exact rf_iret C K dX10_edge_213
noncomputable def f_X10_edge_182 (fu : Nat) (k121 : Int32 → Int32 → Int32 → Int32 → Int32 → Int32 → hM → Option (Int32 × hM)) (x1 : Int32) (x2 : Int32) (x5 : Int32) (x6 : Int32) (x8 : Int32) (s0 : Int32) (m : hM) : Option (Int32 × hM) :=
  hLet (x8 + (-1)) fun y28 =>
k121 x1 x2 x5 x6 s0 y28 m
set_option maxRecDepth 100000 in
set_option maxHeartbeats 4000000 in
theorem r_X10_edge_182 {G : hG} {X : hX} (C : Cx G X 5 cX10_edge 10 RX10 (some .int)) (K : Cr G X) (fu : Nat) (k121 : Int32 → Int32 → Int32 → Int32 → Int32 → Int32 → hM → Option (Int32 × hM)) (hk121 : ∀ (x1 : Int32) (x2 : Int32) (x5 : Int32) (x6 : Int32) (x7 : Int32) (x8 : Int32) (m : hM), Rf vI G X 121 [(0, hA G 0), (1, .int x1), (2, .int x2), (5, .int x5), (6, .int x6), (7, .int x7), (8, .int x8)] [] m (k121 x1 x2 x5 x6 x7 x8 m)) (x1 : Int32) (x2 : Int32) (x5 : Int32) (x6 : Int32) (x8 : Int32) (s0 : Int32) (m : hM) : Rf vI G X 182 [(0, hA G 0), (1, .int x1), (2, .int x2), (5, .int x5), (6, .int x6), (8, .int x8)] [.int s0] m (f_X10_edge_182 fu k121 x1 x2 x5 x6 x8 s0 m) := by
  unfold f_X10_edge_182
  refine rf_istore C (n := 184) [(7, .int s0), (0, hA G 0), (1, .int x1), (2, .int x2), (5, .int x5), (6, .int x6), (8, .int x8)] dX10_edge_182 rfl (by decide) rfl ?_
  refine rf_iinc2 C (n := 187) (q := 6) (fun y28 => [(8, .int y28), (7, .int s0), (0, hA G 0), (1, .int x1), (2, .int x2), (5, .int x5), (6, .int x6)]) dX10_edge_184 rfl rfl (by decide) (by decide) (fun _ => rfl) (fun y28 => ?_)
  refine rf_goto C (n := 121) dX10_edge_187 (by decide) ?_
  exact rf_lv _ [2, 3, 4, 5, 6, 1, 0] rfl (hk121 _ _ _ _ _ _ _)
noncomputable def f_X10_edge_167 (fu : Nat) (k121 : Int32 → Int32 → Int32 → Int32 → Int32 → Int32 → hM → Option (Int32 × hM)) (x1 : Int32) (x2 : Int32) (x5 : Int32) (x6 : Int32) (x8 : Int32) (s0 : Int32) (m : hM) : Option (Int32 × hM) :=
  if s0 = 0 then (
f_X10_edge_182 fu k121 x1 x2 x5 x6 x8 0 m) else (
f_X10_edge_182 fu k121 x1 x2 x5 x6 x8 (x8 + 1) m)
set_option maxRecDepth 100000 in
set_option maxHeartbeats 4000000 in
theorem r_X10_edge_167 {G : hG} {X : hX} (C : Cx G X 5 cX10_edge 10 RX10 (some .int)) (K : Cr G X) (fu : Nat) (k121 : Int32 → Int32 → Int32 → Int32 → Int32 → Int32 → hM → Option (Int32 × hM)) (hk121 : ∀ (x1 : Int32) (x2 : Int32) (x5 : Int32) (x6 : Int32) (x7 : Int32) (x8 : Int32) (m : hM), Rf vI G X 121 [(0, hA G 0), (1, .int x1), (2, .int x2), (5, .int x5), (6, .int x6), (7, .int x7), (8, .int x8)] [] m (k121 x1 x2 x5 x6 x7 x8 m)) (x1 : Int32) (x2 : Int32) (x5 : Int32) (x6 : Int32) (x8 : Int32) (s0 : Int32) (m : hM) : Rf vI G X 167 [(0, hA G 0), (1, .int x1), (2, .int x2), (5, .int x5), (6, .int x6), (8, .int x8)] [.int s0] m (f_X10_edge_167 fu k121 x1 x2 x5 x6 x8 s0 m) := by
  unfold f_X10_edge_167
  refine rf_istore C (n := 169) [(9, .int s0), (0, hA G 0), (1, .int x1), (2, .int x2), (5, .int x5), (6, .int x6), (8, .int x8)] dX10_edge_167 rfl (by decide) rfl ?_
  refine rf_iload C (n := 171) (q := 0) dX10_edge_169 rfl rfl ?_
  refine rf_if_eq C (tgt := 181) (n := 174) dX10_edge_171 (by decide) rfl (fun h27 => ?_) (fun h27 => ?_)
  · refine rf_iconst C (n := 182) (v := 0) dX10_edge_181 rfl (by decide) ?_
    exact rf_lv _ [1, 2, 3, 4, 5, 6] rfl (r_X10_edge_182 C K fu _ hk121 _ _ _ _ _ _ _)
  · refine rf_iload C (n := 176) (q := 6) dX10_edge_174 rfl rfl ?_
    refine rf_iconst C (n := 177) (v := 1) dX10_edge_176 rfl (by decide) ?_
    refine rf_iadd C (n := 178) dX10_edge_177 rfl ?_
    refine rf_goto C (n := 182) dX10_edge_178 (by decide) ?_
    exact rf_lv _ [1, 2, 3, 4, 5, 6] rfl (r_X10_edge_182 C K fu _ hk121 _ _ _ _ _ _ _)
noncomputable def s_X10_edge_121 (fu : Nat) (ih : Int32 → Int32 → Int32 → Int32 → Int32 → Int32 → hM → Option (Int32 × hM)) (x1 : Int32) (x2 : Int32) (x5 : Int32) (x6 : Int32) (x7 : Int32) (x8 : Int32) (m : hM) : Option (Int32 × hM) :=
  if x8 < 0 then (
f_X10_edge_190 fu x6 x7 m) else (
if ¬ x7 = 0 then (
f_X10_edge_190 fu x6 x7 m) else (
hLet (sI m 1 5 x8) fun m23 =>
hBd (f_X9_soonest fu x1 x2 (x5 - 1) m23) fun y24 m25 =>
if y24 = (-2) then (
f_X10_edge_167 fu ih x1 x2 x5 x6 x8 0 m25) else (
f_X10_edge_167 fu ih x1 x2 x5 x6 x8 1 m25)))
noncomputable def f_X10_edge_121 (fu : Nat) (n : Nat) : Int32 → Int32 → Int32 → Int32 → Int32 → Int32 → hM → Option (Int32 × hM) :=
  Nat.rec (motive := fun _ => Int32 → Int32 → Int32 → Int32 → Int32 → Int32 → hM → Option (Int32 × hM)) (fun _ _ _ _ _ _ _ => none) (fun _ ih => s_X10_edge_121 fu ih) n
theorem f_X10_edge_121_s (fu : Nat) (n : Nat) (x1 : Int32) (x2 : Int32) (x5 : Int32) (x6 : Int32) (x7 : Int32) (x8 : Int32) (m : hM) : f_X10_edge_121 fu (n + 1) x1 x2 x5 x6 x7 x8 m = s_X10_edge_121 fu (f_X10_edge_121 fu n) x1 x2 x5 x6 x7 x8 m := rfl
set_option maxRecDepth 100000 in
set_option maxHeartbeats 4000000 in
theorem r_X10_edge_121 {G : hG} {X : hX} (C : Cx G X 5 cX10_edge 10 RX10 (some .int)) (K : Cr G X) (fu : Nat) (n : Nat) : ∀ (x1 : Int32) (x2 : Int32) (x5 : Int32) (x6 : Int32) (x7 : Int32) (x8 : Int32) (m : hM), Rf vI G X 121 [(0, hA G 0), (1, .int x1), (2, .int x2), (5, .int x5), (6, .int x6), (7, .int x7), (8, .int x8)] [] m (f_X10_edge_121 fu n x1 x2 x5 x6 x7 x8 m) := by
  induction n with
  | zero => intros; exact rf_none
  | succ n ih =>
    intro x1 x2 x5 x6 x7 x8 m
    show Rf vI G X 121 [(0, hA G 0), (1, .int x1), (2, .int x2), (5, .int x5), (6, .int x6), (7, .int x7), (8, .int x8)] [] m (s_X10_edge_121 fu (f_X10_edge_121 fu n) x1 x2 x5 x6 x7 x8 m)
    unfold s_X10_edge_121
    refine rf_iload C (n := 123) (q := 6) dX10_edge_121 rfl rfl ?_
    refine rf_if_lt C (tgt := 190) (n := 126) dX10_edge_123 (by decide) rfl (fun h19 => ?_) (fun h19 => ?_)
    · exact rf_lv _ [0, 4, 5] rfl (r_X10_edge_190 C K fu _ _ _)
    · refine rf_iload C (n := 128) (q := 5) dX10_edge_126 rfl rfl ?_
      refine rf_if_ne C (tgt := 190) (n := 131) dX10_edge_128 (by decide) rfl (fun h22 => ?_) (fun h22 => ?_)
      · exact rf_lv _ [0, 4, 5] rfl (r_X10_edge_190 C K fu _ _ _)
      · refine rf_aload_n C (n := 132) (q := 0) dX10_edge_131 rfl rfl rfl ?_
        refine rf_getS C (n := 135) fl_RX10_12 ly_0 rfl dX10_edge_132 rfl ?_
        refine rf_iload C (n := 137) (q := 6) dX10_edge_135 rfl rfl ?_
        refine rf_putI C (n := 140) pl_RX10_145 ly_1 rfl ⟨rfl, rfl⟩ dX10_edge_137 rfl ?_
        refine rf_letM (fun m23 => ?_)
        refine rf_aload_n C (n := 141) (q := 0) dX10_edge_140 rfl rfl rfl ?_
        refine rf_getS C (n := 144) fl_RX10_51 ly_0 rfl dX10_edge_141 rfl ?_
        refine rf_aload_n C (n := 145) (q := 0) dX10_edge_144 rfl rfl rfl ?_
        refine rf_getS C (n := 148) fl_RX10_19 ly_0 rfl dX10_edge_145 rfl ?_
        refine rf_iload_n C (n := 149) (q := 1) dX10_edge_148 rfl rfl rfl ?_
        refine rf_iload_n C (n := 150) (q := 2) dX10_edge_149 rfl rfl rfl ?_
        refine rf_iload C (n := 152) (q := 3) dX10_edge_150 rfl rfl ?_
        refine rf_iconst C (n := 153) (v := 1) dX10_edge_152 rfl (by decide) ?_
        refine rf_isub C (n := 154) dX10_edge_153 rfl ?_
        refine rf_callVi C (n := 157) (c_X9_soonest G fu _ _ _ _) mw_RX10_300 ly_34 rfl ⟨by decide, by decide⟩ rfl (Nat.le_of_ble_eq_true rfl) rfl dX10_edge_154 rfl (fun y24 m25 => ?_)
        refine rf_bipush C (n := 159) (v := (-2)) dX10_edge_157 rfl (by decide) ?_
        refine rf_icmp_eq C (tgt := 166) (n := 162) dX10_edge_159 (by decide) rfl (fun h26 => ?_) (fun h26 => ?_)
        · refine rf_iconst C (n := 167) (v := 0) dX10_edge_166 rfl (by decide) ?_
          exact rf_lv _ [0, 1, 2, 3, 4, 6] rfl (r_X10_edge_167 C K fu _ ih _ _ _ _ _ _ _)
        · refine rf_iconst C (n := 163) (v := 1) dX10_edge_162 rfl (by decide) ?_
          refine rf_goto C (n := 167) dX10_edge_163 (by decide) ?_
          exact rf_lv _ [0, 1, 2, 3, 4, 6] rfl (r_X10_edge_167 C K fu _ ih _ _ _ _ _ _ _)
noncomputable def f_X10_edge (fu : Nat) (x1 : Int32) (x2 : Int32) (x3 : Int32) (m : hM) : Option (Int32 × hM) :=
  hBd (f_X4_has fu x1 m) fun y1 m2 =>
if y1 = 0 then (
some ((-1), m2)) else (
hBd (f_X10_isHour fu x2 m2) fun y4 m5 =>
if y4 = 0 then (
some ((-1), m5)) else (
if x3 < 1 then (
some ((-1), m5)) else (
if x3 ≤ 3 then (
if hIn x1 8 then (
hLet (gI m5 23 (Int32.toNatClampNeg x1)) fun y10 =>
hBd (f_X9_grow fu y10 0 m5) fun _ m11 =>
hBd (f_X9_soonest fu x1 x2 2399 m11) fun y12 m13 =>
if ¬ y12 = (-2) then (
hBd (f_X1_clear fu m13) fun _ m15 =>
hBd (f_X1_tell fu (Int32.toInt64 y12) m15) fun _ m16 =>
hBd (f_X9_grow fu y10 x3 m16) fun _ m17 =>
hLet (gI m17 1 5) fun y18 =>
f_X10_edge_121 fu fu x1 x2 y12 y18 0 20 m17) else (
some ((-1), m13))) else none) else (
some ((-1), m5)))))
set_option maxRecDepth 100000 in
set_option maxHeartbeats 4000000 in
theorem c_X10_edge (G : hG) (fu : Nat) (x1 : Int32) (x2 : Int32) (x3 : Int32) (m : hM) : Mt vI G 5 yX10_edge cX10_edge 10 (some .int) [hA G 0, .int x1, .int x2, .int x3] m (f_X10_edge fu x1 x2 x3 m) := by
  refine mt_of (by decide +kernel) (Nat.le_of_ble_eq_true rfl) (fun X C K => ?_)
  have C : Cx G X 5 cX10_edge 10 RX10 (some .int) := C
  show Rf vI G X 0 [(0, hA G 0), (1, .int x1), (2, .int x2), (3, .int x3)] [] m _
  unfold f_X10_edge
  refine rf_aload_n C (n := 1) (q := 0) dX10_edge_0 rfl rfl rfl ?_
  refine rf_getS C (n := 4) fl_RX10_19 ly_0 rfl dX10_edge_1 rfl ?_
  refine rf_iload_n C (n := 5) (q := 1) dX10_edge_4 rfl rfl rfl ?_
  refine rf_callVi C (n := 8) (c_X4_has G fu _ _) mw_RX10_214 ly_18 rfl ⟨by decide, by decide⟩ rfl (Nat.le_of_ble_eq_true rfl) rfl dX10_edge_5 rfl (fun y1 m2 => ?_)
  refine rf_if_eq C (tgt := 28) (n := 11) dX10_edge_8 (by decide) rfl (fun h3 => ?_) (fun h3 => ?_)
  · refine rf_iconst C (n := 29) (v := (-1)) dX10_edge_28 rfl (by decide) ?_
    exact rf_iret C K dX10_edge_29
  · refine rf_iload_n C (n := 12) (q := 2) dX10_edge_11 rfl rfl rfl ?_
    refine rf_callSi C (n := 15) (c_X10_isHour G fu _ _) sw_RX10_119 ⟨by decide, by decide⟩ rfl (Nat.le_of_ble_eq_true rfl) rfl dX10_edge_12 rfl (fun y4 m5 => ?_)
    refine rf_if_eq C (tgt := 28) (n := 18) dX10_edge_15 (by decide) rfl (fun h6 => ?_) (fun h6 => ?_)
    · refine rf_iconst C (n := 29) (v := (-1)) dX10_edge_28 rfl (by decide) ?_
      exact rf_iret C K dX10_edge_29
    · refine rf_iload_n C (n := 19) (q := 3) dX10_edge_18 rfl rfl rfl ?_
      refine rf_iconst C (n := 20) (v := 1) dX10_edge_19 rfl (by decide) ?_
      refine rf_icmp_lt C (tgt := 28) (n := 23) dX10_edge_20 (by decide) rfl (fun h7 => ?_) (fun h7 => ?_)
      · refine rf_iconst C (n := 29) (v := (-1)) dX10_edge_28 rfl (by decide) ?_
        exact rf_iret C K dX10_edge_29
      · refine rf_iload_n C (n := 24) (q := 3) dX10_edge_23 rfl rfl rfl ?_
        refine rf_iconst C (n := 25) (v := 3) dX10_edge_24 rfl (by decide) ?_
        refine rf_icmp_le C (tgt := 30) (n := 28) dX10_edge_25 (by decide) rfl (fun h8 => ?_) (fun h8 => ?_)
        · refine rf_aload_n C (n := 31) (q := 0) dX10_edge_30 rfl rfl rfl ?_
          refine rf_getS C (n := 34) fl_RX10_19 ly_0 rfl dX10_edge_31 rfl ?_
          refine rf_getS C (n := 37) fl_RX10_190 ly_18 rfl dX10_edge_34 rfl ?_
          refine rf_iload_n C (n := 38) (q := 1) dX10_edge_37 rfl rfl rfl ?_
          refine rf_guard (fun h9 => ?_)
          refine rf_iald C (n := 39) ly_23 h9 rfl dX10_edge_38 rfl ?_
          refine rf_letI (fun y10 => ?_)
          refine rf_istore C (n := 41) [(4, .int y10), (0, hA G 0), (1, .int x1), (2, .int x2), (3, .int x3)] dX10_edge_39 rfl (by decide) rfl ?_
          refine rf_aload_n C (n := 42) (q := 1) dX10_edge_41 rfl rfl rfl ?_
          refine rf_getS C (n := 45) fl_RX10_51 ly_0 rfl dX10_edge_42 rfl ?_
          refine rf_iload C (n := 47) (q := 0) dX10_edge_45 rfl rfl ?_
          refine rf_iconst C (n := 48) (v := 0) dX10_edge_47 rfl (by decide) ?_
          refine rf_callVv C (n := 51) (c_X9_grow G fu _ _ _) mw_RX10_296 ly_34 rfl ⟨by decide, by decide⟩ rfl (Nat.le_of_ble_eq_true rfl) rfl dX10_edge_48 rfl (fun _ m11 => ?_)
          refine rf_aload_n C (n := 52) (q := 1) dX10_edge_51 rfl rfl rfl ?_
          refine rf_getS C (n := 55) fl_RX10_51 ly_0 rfl dX10_edge_52 rfl ?_
          refine rf_aload_n C (n := 56) (q := 1) dX10_edge_55 rfl rfl rfl ?_
          refine rf_getS C (n := 59) fl_RX10_19 ly_0 rfl dX10_edge_56 rfl ?_
          refine rf_iload_n C (n := 60) (q := 2) dX10_edge_59 rfl rfl rfl ?_
          refine rf_iload_n C (n := 61) (q := 3) dX10_edge_60 rfl rfl rfl ?_
          refine rf_sipush C (n := 64) (v := 2399) dX10_edge_61 rfl (by decide) ?_
          refine rf_callVi C (n := 67) (c_X9_soonest G fu _ _ _ _) mw_RX10_300 ly_34 rfl ⟨by decide, by decide⟩ rfl (Nat.le_of_ble_eq_true rfl) rfl dX10_edge_64 rfl (fun y12 m13 => ?_)
          refine rf_istore C (n := 69) [(5, .int y12), (4, .int y10), (0, hA G 0), (1, .int x1), (2, .int x2), (3, .int x3)] dX10_edge_67 rfl (by decide) rfl ?_
          refine rf_iload C (n := 71) (q := 0) dX10_edge_69 rfl rfl ?_
          refine rf_bipush C (n := 73) (v := (-2)) dX10_edge_71 rfl (by decide) ?_
          refine rf_icmp_ne C (tgt := 78) (n := 76) dX10_edge_73 (by decide) rfl (fun h14 => ?_) (fun h14 => ?_)
          · refine rf_aload_n C (n := 79) (q := 2) dX10_edge_78 rfl rfl rfl ?_
            refine rf_getS C (n := 82) fl_RX10_83 ly_0 rfl dX10_edge_79 rfl ?_
            refine rf_callVv C (n := 85) (c_X1_clear G fu _) mw_RX10_170 ly_66 rfl ⟨by decide, by decide⟩ rfl (Nat.le_of_ble_eq_true rfl) rfl dX10_edge_82 rfl (fun _ m15 => ?_)
            refine rf_aload_n C (n := 86) (q := 2) dX10_edge_85 rfl rfl rfl ?_
            refine rf_getS C (n := 89) fl_RX10_83 ly_0 rfl dX10_edge_86 rfl ?_
            refine rf_iload C (n := 91) (q := 0) dX10_edge_89 rfl rfl ?_
            refine rf_i2l C (n := 92) dX10_edge_91 rfl ?_
            refine rf_callVv C (n := 95) (c_X1_tell G fu _ _) mw_RX10_173 ly_66 rfl ⟨by decide, by decide⟩ rfl (Nat.le_of_ble_eq_true rfl) rfl dX10_edge_92 rfl (fun _ m16 => ?_)
            refine rf_aload_n C (n := 96) (q := 2) dX10_edge_95 rfl rfl rfl ?_
            refine rf_getS C (n := 99) fl_RX10_51 ly_0 rfl dX10_edge_96 rfl ?_
            refine rf_iload C (n := 101) (q := 1) dX10_edge_99 rfl rfl ?_
            refine rf_iload_n C (n := 102) (q := 5) dX10_edge_101 rfl rfl rfl ?_
            refine rf_callVv C (n := 105) (c_X9_grow G fu _ _ _) mw_RX10_296 ly_34 rfl ⟨by decide, by decide⟩ rfl (Nat.le_of_ble_eq_true rfl) rfl dX10_edge_102 rfl (fun _ m17 => ?_)
            refine rf_aload_n C (n := 106) (q := 2) dX10_edge_105 rfl rfl rfl ?_
            refine rf_getS C (n := 109) fl_RX10_12 ly_0 rfl dX10_edge_106 rfl ?_
            refine rf_getI C (n := 112) fl_RX10_145 ly_1 rfl dX10_edge_109 rfl ?_
            refine rf_letI (fun y18 => ?_)
            refine rf_istore C (n := 114) [(6, .int y18), (5, .int y12), (4, .int y10), (0, hA G 0), (1, .int x1), (2, .int x2), (3, .int x3)] dX10_edge_112 rfl (by decide) rfl ?_
            refine rf_iconst C (n := 115) (v := 0) dX10_edge_114 rfl (by decide) ?_
            refine rf_istore C (n := 117) [(7, .int 0), (6, .int y18), (5, .int y12), (4, .int y10), (0, hA G 0), (1, .int x1), (2, .int x2), (3, .int x3)] dX10_edge_115 rfl (by decide) rfl ?_
            refine rf_bipush C (n := 119) (v := 20) dX10_edge_117 rfl (by decide) ?_
            refine rf_istore C (n := 121) [(8, .int 20), (7, .int 0), (6, .int y18), (5, .int y12), (4, .int y10), (0, hA G 0), (1, .int x1), (2, .int x2), (3, .int x3)] dX10_edge_119 rfl (by decide) rfl ?_
            exact rf_lv _ [5, 6, 7, 3, 2, 1, 0] rfl (r_X10_edge_121 C K fu fu _ _ _ _ _ _ _)
          · refine rf_iconst C (n := 77) (v := (-1)) dX10_edge_76 rfl (by decide) ?_
            exact rf_iret C K dX10_edge_77
        · refine rf_iconst C (n := 29) (v := (-1)) dX10_edge_28 rfl (by decide) ?_
          exact rf_iret C K dX10_edge_29
noncomputable def f_X10_lie_92 (fu : Nat) (x3 : Int32) (x4 : Int32) (x5 : Int32) (m : hM) : Option (Int32 × hM) :=
  if x3 = (-2) then (
some (x3, m)) else (
hBd (f_X1_clear fu m) fun _ m9 =>
hBd (f_X1_tell fu (Int32.toInt64 x4) m9) fun _ m10 =>
hBd (f_X1_tell fu (Int32.toInt64 x5) m10) fun _ m11 =>
some (x3, m11))
set_option maxRecDepth 100000 in
set_option maxHeartbeats 4000000 in
theorem r_X10_lie_92 {G : hG} {X : hX} (C : Cx G X 3 cX10_lie 8 RX10 (some .int)) (K : Cr G X) (fu : Nat) (x3 : Int32) (x4 : Int32) (x5 : Int32) (m : hM) : Rf vI G X 92 [(0, hA G 0), (3, .int x3), (4, .int x4), (5, .int x5)] [] m (f_X10_lie_92 fu x3 x4 x5 m) := by
  unfold f_X10_lie_92
  refine rf_iload_n C (n := 93) (q := 1) dX10_lie_92 rfl rfl rfl ?_
  refine rf_bipush C (n := 95) (v := (-2)) dX10_lie_93 rfl (by decide) ?_
  refine rf_icmp_eq C (tgt := 125) (n := 98) dX10_lie_95 (by decide) rfl (fun h8 => ?_) (fun h8 => ?_)
  · refine rf_iload_n C (n := 126) (q := 1) dX10_lie_125 rfl rfl rfl ?_
    exact rf_iret C K dX10_lie_126
  · refine rf_aload_n C (n := 99) (q := 0) dX10_lie_98 rfl rfl rfl ?_
    refine rf_getS C (n := 102) fl_RX10_83 ly_0 rfl dX10_lie_99 rfl ?_
    refine rf_callVv C (n := 105) (c_X1_clear G fu _) mw_RX10_170 ly_66 rfl ⟨by decide, by decide⟩ rfl (Nat.le_of_ble_eq_true rfl) rfl dX10_lie_102 rfl (fun _ m9 => ?_)
    refine rf_aload_n C (n := 106) (q := 0) dX10_lie_105 rfl rfl rfl ?_
    refine rf_getS C (n := 109) fl_RX10_83 ly_0 rfl dX10_lie_106 rfl ?_
    refine rf_iload C (n := 111) (q := 2) dX10_lie_109 rfl rfl ?_
    refine rf_i2l C (n := 112) dX10_lie_111 rfl ?_
    refine rf_callVv C (n := 115) (c_X1_tell G fu _ _) mw_RX10_173 ly_66 rfl ⟨by decide, by decide⟩ rfl (Nat.le_of_ble_eq_true rfl) rfl dX10_lie_112 rfl (fun _ m10 => ?_)
    refine rf_aload_n C (n := 116) (q := 0) dX10_lie_115 rfl rfl rfl ?_
    refine rf_getS C (n := 119) fl_RX10_83 ly_0 rfl dX10_lie_116 rfl ?_
    refine rf_iload C (n := 121) (q := 3) dX10_lie_119 rfl rfl ?_
    refine rf_i2l C (n := 122) dX10_lie_121 rfl ?_
    refine rf_callVv C (n := 125) (c_X1_tell G fu _ _) mw_RX10_173 ly_66 rfl ⟨by decide, by decide⟩ rfl (Nat.le_of_ble_eq_true rfl) rfl dX10_lie_122 rfl (fun _ m11 => ?_)
    refine rf_iload_n C (n := 126) (q := 1) dX10_lie_125 rfl rfl rfl ?_
    exact rf_iret C K dX10_lie_126
noncomputable def f_X10_lie_86 (fu : Nat) (k34 : Int32 → Int32 → Int32 → Int32 → Int32 → Int32 → hM → Option (Int32 × hM)) (x1 : Int32) (x2 : Int32) (x3 : Int32) (x4 : Int32) (x5 : Int32) (x6 : Int32) (m : hM) : Option (Int32 × hM) :=
  hLet (x6 + 1) fun y15 =>
k34 x1 x2 x3 x4 x5 y15 m
set_option maxRecDepth 100000 in
set_option maxHeartbeats 4000000 in
theorem r_X10_lie_86 {G : hG} {X : hX} (C : Cx G X 3 cX10_lie 8 RX10 (some .int)) (K : Cr G X) (fu : Nat) (k34 : Int32 → Int32 → Int32 → Int32 → Int32 → Int32 → hM → Option (Int32 × hM)) (hk34 : ∀ (x1 : Int32) (x2 : Int32) (x3 : Int32) (x4 : Int32) (x5 : Int32) (x6 : Int32) (m : hM), Rf vI G X 34 [(0, hA G 0), (1, .int x1), (2, .int x2), (3, .int x3), (4, .int x4), (5, .int x5), (6, .int x6)] [] m (k34 x1 x2 x3 x4 x5 x6 m)) (x1 : Int32) (x2 : Int32) (x3 : Int32) (x4 : Int32) (x5 : Int32) (x6 : Int32) (m : hM) : Rf vI G X 86 [(0, hA G 0), (1, .int x1), (2, .int x2), (3, .int x3), (4, .int x4), (5, .int x5), (6, .int x6)] [] m (f_X10_lie_86 fu k34 x1 x2 x3 x4 x5 x6 m) := by
  unfold f_X10_lie_86
  refine rf_iinc2 C (n := 89) (q := 6) (fun y15 => [(6, .int y15), (0, hA G 0), (1, .int x1), (2, .int x2), (3, .int x3), (4, .int x4), (5, .int x5)]) dX10_lie_86 rfl rfl (by decide) (by decide) (fun _ => rfl) (fun y15 => ?_)
  refine rf_goto C (n := 34) dX10_lie_89 (by decide) ?_
  exact rf_lv _ [1, 2, 3, 4, 5, 6, 0] rfl (hk34 _ _ _ _ _ _ _)
noncomputable def s_X10_lie_34 (fu : Nat) (ih : Int32 → Int32 → Int32 → Int32 → Int32 → Int32 → hM → Option (Int32 × hM)) (x1 : Int32) (x2 : Int32) (x3 : Int32) (x4 : Int32) (x5 : Int32) (x6 : Int32) (m : hM) : Option (Int32 × hM) :=
  if (gI m 1 4) ≤ x6 then (
f_X10_lie_92 fu x3 x4 x5 m) else (
hBd (f_X8_doneAlone fu x1 x6 x2 (x4 - 1) m) fun y12 m13 =>
if y12 = (-2) then (
f_X10_lie_86 fu ih x1 x2 x3 x4 x5 x6 m13) else (
hLet (gI m13 32 7) fun y16 =>
f_X10_lie_86 fu ih x1 x2 x6 y12 y16 x6 m13))
noncomputable def f_X10_lie_34 (fu : Nat) (n : Nat) : Int32 → Int32 → Int32 → Int32 → Int32 → Int32 → hM → Option (Int32 × hM) :=
  Nat.rec (motive := fun _ => Int32 → Int32 → Int32 → Int32 → Int32 → Int32 → hM → Option (Int32 × hM)) (fun _ _ _ _ _ _ _ => none) (fun _ ih => s_X10_lie_34 fu ih) n
theorem f_X10_lie_34_s (fu : Nat) (n : Nat) (x1 : Int32) (x2 : Int32) (x3 : Int32) (x4 : Int32) (x5 : Int32) (x6 : Int32) (m : hM) : f_X10_lie_34 fu (n + 1) x1 x2 x3 x4 x5 x6 m = s_X10_lie_34 fu (f_X10_lie_34 fu n) x1 x2 x3 x4 x5 x6 m := rfl
set_option maxRecDepth 100000 in
set_option maxHeartbeats 4000000 in
theorem r_X10_lie_34 {G : hG} {X : hX} (C : Cx G X 3 cX10_lie 8 RX10 (some .int)) (K : Cr G X) (fu : Nat) (n : Nat) : ∀ (x1 : Int32) (x2 : Int32) (x3 : Int32) (x4 : Int32) (x5 : Int32) (x6 : Int32) (m : hM), Rf vI G X 34 [(0, hA G 0), (1, .int x1), (2, .int x2), (3, .int x3), (4, .int x4), (5, .int x5), (6, .int x6)] [] m (f_X10_lie_34 fu n x1 x2 x3 x4 x5 x6 m) := by
  induction n with
  | zero => intros; exact rf_none
  | succ n ih =>
    intro x1 x2 x3 x4 x5 x6 m
    show Rf vI G X 34 [(0, hA G 0), (1, .int x1), (2, .int x2), (3, .int x3), (4, .int x4), (5, .int x5), (6, .int x6)] [] m (s_X10_lie_34 fu (f_X10_lie_34 fu n) x1 x2 x3 x4 x5 x6 m)
    unfold s_X10_lie_34
    refine rf_iload C (n := 36) (q := 6) dX10_lie_34 rfl rfl ?_
    refine rf_aload_n C (n := 37) (q := 0) dX10_lie_36 rfl rfl rfl ?_
    refine rf_getS C (n := 40) fl_RX10_12 ly_0 rfl dX10_lie_37 rfl ?_
    refine rf_getI C (n := 43) fl_RX10_95 ly_1 rfl dX10_lie_40 rfl ?_
    refine rf_icmp_ge C (tgt := 92) (n := 46) dX10_lie_43 (by decide) rfl (fun h7 => ?_) (fun h7 => ?_)
    · exact rf_lv _ [0, 3, 4, 5] rfl (r_X10_lie_92 C K fu _ _ _ _)
    · refine rf_aload_n C (n := 47) (q := 0) dX10_lie_46 rfl rfl rfl ?_
      refine rf_getS C (n := 50) fl_RX10_42 ly_0 rfl dX10_lie_47 rfl ?_
      refine rf_iload_n C (n := 51) (q := 1) dX10_lie_50 rfl rfl rfl ?_
      refine rf_iload C (n := 53) (q := 6) dX10_lie_51 rfl rfl ?_
      refine rf_iload_n C (n := 54) (q := 2) dX10_lie_53 rfl rfl rfl ?_
      refine rf_iload C (n := 56) (q := 4) dX10_lie_54 rfl rfl ?_
      refine rf_iconst C (n := 57) (v := 1) dX10_lie_56 rfl (by decide) ?_
      refine rf_isub C (n := 58) dX10_lie_57 rfl ?_
      refine rf_callVi C (n := 61) (c_X8_doneAlone G fu _ _ _ _ _) mw_RX10_311 ly_32 rfl ⟨by decide, by decide⟩ rfl (Nat.le_of_ble_eq_true rfl) rfl dX10_lie_58 rfl (fun y12 m13 => ?_)
      refine rf_istore C (n := 63) [(7, .int y12), (0, hA G 0), (1, .int x1), (2, .int x2), (3, .int x3), (4, .int x4), (5, .int x5), (6, .int x6)] dX10_lie_61 rfl (by decide) rfl ?_
      refine rf_iload C (n := 65) (q := 0) dX10_lie_63 rfl rfl ?_
      refine rf_bipush C (n := 67) (v := (-2)) dX10_lie_65 rfl (by decide) ?_
      refine rf_icmp_eq C (tgt := 86) (n := 70) dX10_lie_67 (by decide) rfl (fun h14 => ?_) (fun h14 => ?_)
      · exact rf_lv _ [1, 2, 3, 4, 5, 6, 7] rfl (r_X10_lie_86 C K fu _ ih _ _ _ _ _ _ _)
      · refine rf_iload C (n := 72) (q := 7) dX10_lie_70 rfl rfl ?_
        refine rf_istore_n C (n := 73) [(3, .int x6), (7, .int y12), (0, hA G 0), (1, .int x1), (2, .int x2), (4, .int x4), (5, .int x5), (6, .int x6)] dX10_lie_72 rfl rfl (by decide) rfl ?_
        refine rf_iload C (n := 75) (q := 1) dX10_lie_73 rfl rfl ?_
        refine rf_istore C (n := 77) [(4, .int y12), (3, .int x6), (7, .int y12), (0, hA G 0), (1, .int x1), (2, .int x2), (5, .int x5), (6, .int x6)] dX10_lie_75 rfl (by decide) rfl ?_
        refine rf_aload_n C (n := 78) (q := 3) dX10_lie_77 rfl rfl rfl ?_
        refine rf_getS C (n := 81) fl_RX10_42 ly_0 rfl dX10_lie_78 rfl ?_
        refine rf_getI C (n := 84) fl_RX10_315 ly_32 rfl dX10_lie_81 rfl ?_
        refine rf_letI (fun y16 => ?_)
        refine rf_istore C (n := 86) [(5, .int y16), (4, .int y12), (3, .int x6), (7, .int y12), (0, hA G 0), (1, .int x1), (2, .int x2), (6, .int x6)] dX10_lie_84 rfl (by decide) rfl ?_
        exact rf_lv _ [4, 5, 6, 2, 1, 0, 7] rfl (r_X10_lie_86 C K fu _ ih _ _ _ _ _ _ _)
noncomputable def f_X10_lie (fu : Nat) (x1 : Int32) (x2 : Int32) (m : hM) : Option (Int32 × hM) :=
  hBd (f_X4_has fu x1 m) fun y1 m2 =>
if y1 = 0 then (
some ((-1), m2)) else (
hBd (f_X10_isHour fu x2 m2) fun y4 m5 =>
if ¬ y4 = 0 then (
f_X10_lie_34 fu fu x1 x2 (-2) 2400 0 0 m5) else (
some ((-1), m5)))
set_option maxRecDepth 100000 in
set_option maxHeartbeats 4000000 in
theorem c_X10_lie (G : hG) (fu : Nat) (x1 : Int32) (x2 : Int32) (m : hM) : Mt vI G 3 yX10_lie cX10_lie 8 (some .int) [hA G 0, .int x1, .int x2] m (f_X10_lie fu x1 x2 m) := by
  refine mt_of (by decide +kernel) (Nat.le_of_ble_eq_true rfl) (fun X C K => ?_)
  have C : Cx G X 3 cX10_lie 8 RX10 (some .int) := C
  show Rf vI G X 0 [(0, hA G 0), (1, .int x1), (2, .int x2)] [] m _
  unfold f_X10_lie
  refine rf_aload_n C (n := 1) (q := 0) dX10_lie_0 rfl rfl rfl ?_
  refine rf_getS C (n := 4) fl_RX10_19 ly_0 rfl dX10_lie_1 rfl ?_
  refine rf_iload_n C (n := 5) (q := 1) dX10_lie_4 rfl rfl rfl ?_
  refine rf_callVi C (n := 8) (c_X4_has G fu _ _) mw_RX10_214 ly_18 rfl ⟨by decide, by decide⟩ rfl (Nat.le_of_ble_eq_true rfl) rfl dX10_lie_5 rfl (fun y1 m2 => ?_)
  refine rf_if_eq C (tgt := 18) (n := 11) dX10_lie_8 (by decide) rfl (fun h3 => ?_) (fun h3 => ?_)
  · refine rf_iconst C (n := 19) (v := (-1)) dX10_lie_18 rfl (by decide) ?_
    exact rf_iret C K dX10_lie_19
  · refine rf_iload_n C (n := 12) (q := 2) dX10_lie_11 rfl rfl rfl ?_
    refine rf_callSi C (n := 15) (c_X10_isHour G fu _ _) sw_RX10_119 ⟨by decide, by decide⟩ rfl (Nat.le_of_ble_eq_true rfl) rfl dX10_lie_12 rfl (fun y4 m5 => ?_)
    refine rf_if_ne C (tgt := 20) (n := 18) dX10_lie_15 (by decide) rfl (fun h6 => ?_) (fun h6 => ?_)
    · refine rf_bipush C (n := 22) (v := (-2)) dX10_lie_20 rfl (by decide) ?_
      refine rf_istore_n C (n := 23) [(3, .int (-2)), (0, hA G 0), (1, .int x1), (2, .int x2)] dX10_lie_22 rfl rfl (by decide) rfl ?_
      refine rf_sipush C (n := 26) (v := 2400) dX10_lie_23 rfl (by decide) ?_
      refine rf_istore C (n := 28) [(4, .int 2400), (3, .int (-2)), (0, hA G 0), (1, .int x1), (2, .int x2)] dX10_lie_26 rfl (by decide) rfl ?_
      refine rf_iconst C (n := 29) (v := 0) dX10_lie_28 rfl (by decide) ?_
      refine rf_istore C (n := 31) [(5, .int 0), (4, .int 2400), (3, .int (-2)), (0, hA G 0), (1, .int x1), (2, .int x2)] dX10_lie_29 rfl (by decide) rfl ?_
      refine rf_iconst C (n := 32) (v := 0) dX10_lie_31 rfl (by decide) ?_
      refine rf_istore C (n := 34) [(6, .int 0), (5, .int 0), (4, .int 2400), (3, .int (-2)), (0, hA G 0), (1, .int x1), (2, .int x2)] dX10_lie_32 rfl (by decide) rfl ?_
      exact rf_lv _ [4, 5, 6, 3, 2, 1, 0] rfl (r_X10_lie_34 C K fu fu _ _ _ _ _ _ _)
    · refine rf_iconst C (n := 19) (v := (-1)) dX10_lie_18 rfl (by decide) ?_
      exact rf_iret C K dX10_lie_19
