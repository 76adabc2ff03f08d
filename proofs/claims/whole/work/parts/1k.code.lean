theorem dX11_worked_0 : decode cX11_worked 0 = .ok (.iconst 0, 1) := by decide +kernel
theorem dX11_worked_1 : decode cX11_worked 1 = .ok (.istore 4, 2) := by decide +kernel
theorem dX11_worked_3 : decode cX11_worked 3 = .ok (.iconst 0, 1) := by decide +kernel
theorem dX11_worked_4 : decode cX11_worked 4 = .ok (.istore 5, 2) := by decide +kernel
theorem dX11_worked_6 : decode cX11_worked 6 = .ok (.iload 5, 2) := by decide +kernel
theorem dX11_worked_8 : decode cX11_worked 8 = .ok (.aload_n 0, 1) := by decide +kernel
theorem dX11_worked_9 : decode cX11_worked 9 = .ok (.getfield 199, 3) := by decide +kernel
theorem dX11_worked_12 : decode cX11_worked 12 = .ok (.iconst 0, 1) := by decide +kernel
theorem dX11_worked_13 : decode cX11_worked 13 = .ok (.iaload, 1) := by decide +kernel
theorem dX11_worked_14 : decode cX11_worked 14 = .ok (.if_icmp .ge 172, 3) := by decide +kernel
theorem dX11_worked_17 : decode cX11_worked 17 = .ok (.aload_n 0, 1) := by decide +kernel
theorem dX11_worked_18 : decode cX11_worked 18 = .ok (.getfield 196, 3) := by decide +kernel
theorem dX11_worked_21 : decode cX11_worked 21 = .ok (.iload 5, 2) := by decide +kernel
theorem dX11_worked_23 : decode cX11_worked 23 = .ok (.iaload, 1) := by decide +kernel
theorem dX11_worked_24 : decode cX11_worked 24 = .ok (.istore 6, 2) := by decide +kernel
theorem dX11_worked_26 : decode cX11_worked 26 = .ok (.iload 6, 2) := by decide +kernel
theorem dX11_worked_28 : decode cX11_worked 28 = .ok (.sipush 2000, 3) := by decide +kernel
theorem dX11_worked_31 : decode cX11_worked 31 = .ok (.if_icmp .ge 42, 3) := by decide +kernel
theorem dX11_worked_34 : decode cX11_worked 34 = .ok (.aload_n 0, 1) := by decide +kernel
theorem dX11_worked_35 : decode cX11_worked 35 = .ok (.getfield 246, 3) := by decide +kernel
theorem dX11_worked_38 : decode cX11_worked 38 = .ok (.iload 4, 2) := by decide +kernel
theorem dX11_worked_40 : decode cX11_worked 40 = .ok (.iload 6, 2) := by decide +kernel
theorem dX11_worked_42 : decode cX11_worked 42 = .ok (.sipush 1000, 3) := by decide +kernel
theorem dX11_worked_45 : decode cX11_worked 45 = .ok (.if_icmp .ge 8, 3) := by decide +kernel
theorem dX11_worked_48 : decode cX11_worked 48 = .ok (.iload 6, 2) := by decide +kernel
theorem dX11_worked_50 : decode cX11_worked 50 = .ok (.goto 16, 3) := by decide +kernel
theorem dX11_worked_53 : decode cX11_worked 53 = .ok (.aload_n 0, 1) := by decide +kernel
theorem dX11_worked_54 : decode cX11_worked 54 = .ok (.iload 6, 2) := by decide +kernel
theorem dX11_worked_56 : decode cX11_worked 56 = .ok (.sipush 1000, 3) := by decide +kernel
theorem dX11_worked_59 : decode cX11_worked 59 = .ok (.isub, 1) := by decide +kernel
theorem dX11_worked_60 : decode cX11_worked 60 = .ok (.iload_n 1, 1) := by decide +kernel
theorem dX11_worked_61 : decode cX11_worked 61 = .ok (.iload_n 2, 1) := by decide +kernel
theorem dX11_worked_62 : decode cX11_worked 62 = .ok (.iload_n 3, 1) := by decide +kernel
theorem dX11_worked_63 : decode cX11_worked 63 = .ok (.invokevirtual 249, 3) := by decide +kernel
theorem dX11_worked_66 : decode cX11_worked 66 = .ok (.iastore, 1) := by decide +kernel
theorem dX11_worked_67 : decode cX11_worked 67 = .ok (.iinc 4 1, 3) := by decide +kernel
theorem dX11_worked_70 : decode cX11_worked 70 = .ok (.goto 110, 3) := by decide +kernel
theorem dX11_worked_73 : decode cX11_worked 73 = .ok (.iload 6, 2) := by decide +kernel
theorem dX11_worked_75 : decode cX11_worked 75 = .ok (.sipush 2033, 3) := by decide +kernel
theorem dX11_worked_78 : decode cX11_worked 78 = .ok (.if_icmp .ne 35, 3) := by decide +kernel
theorem dX11_worked_81 : decode cX11_worked 81 = .ok (.aload_n 0, 1) := by decide +kernel
theorem dX11_worked_82 : decode cX11_worked 82 = .ok (.getfield 246, 3) := by decide +kernel
theorem dX11_worked_85 : decode cX11_worked 85 = .ok (.iload 4, 2) := by decide +kernel
theorem dX11_worked_87 : decode cX11_worked 87 = .ok (.iconst 1, 1) := by decide +kernel
theorem dX11_worked_88 : decode cX11_worked 88 = .ok (.isub, 1) := by decide +kernel
theorem dX11_worked_89 : decode cX11_worked 89 = .ok (.aload_n 0, 1) := by decide +kernel
theorem dX11_worked_90 : decode cX11_worked 90 = .ok (.getfield 246, 3) := by decide +kernel
theorem dX11_worked_93 : decode cX11_worked 93 = .ok (.iload 4, 2) := by decide +kernel
theorem dX11_worked_95 : decode cX11_worked 95 = .ok (.iconst 1, 1) := by decide +kernel
theorem dX11_worked_96 : decode cX11_worked 96 = .ok (.isub, 1) := by decide +kernel
theorem dX11_worked_97 : decode cX11_worked 97 = .ok (.iaload, 1) := by decide +kernel
theorem dX11_worked_98 : decode cX11_worked 98 = .ok (.ifCond .ne 7, 3) := by decide +kernel
theorem dX11_worked_101 : decode cX11_worked 101 = .ok (.iconst 1, 1) := by decide +kernel
theorem dX11_worked_102 : decode cX11_worked 102 = .ok (.goto 4, 3) := by decide +kernel
theorem dX11_worked_105 : decode cX11_worked 105 = .ok (.iconst 0, 1) := by decide +kernel
theorem dX11_worked_106 : decode cX11_worked 106 = .ok (.invokestatic 124, 3) := by decide +kernel
theorem dX11_worked_109 : decode cX11_worked 109 = .ok (.iastore, 1) := by decide +kernel
theorem dX11_worked_110 : decode cX11_worked 110 = .ok (.goto 70, 3) := by decide +kernel
theorem dX11_worked_113 : decode cX11_worked 113 = .ok (.iload 6, 2) := by decide +kernel
theorem dX11_worked_115 : decode cX11_worked 115 = .ok (.sipush 2126, 3) := by decide +kernel
theorem dX11_worked_118 : decode cX11_worked 118 = .ok (.if_icmp .ne 25, 3) := by decide +kernel
theorem dX11_worked_121 : decode cX11_worked 121 = .ok (.aload_n 0, 1) := by decide +kernel
theorem dX11_worked_122 : decode cX11_worked 122 = .ok (.getfield 246, 3) := by decide +kernel
theorem dX11_worked_125 : decode cX11_worked 125 = .ok (.iload 4, 2) := by decide +kernel
theorem dX11_worked_127 : decode cX11_worked 127 = .ok (.iconst 1, 1) := by decide +kernel
theorem dX11_worked_128 : decode cX11_worked 128 = .ok (.isub, 1) := by decide +kernel
theorem dX11_worked_129 : decode cX11_worked 129 = .ok (.aload_n 0, 1) := by decide +kernel
theorem dX11_worked_130 : decode cX11_worked 130 = .ok (.getfield 246, 3) := by decide +kernel
theorem dX11_worked_133 : decode cX11_worked 133 = .ok (.iload 4, 2) := by decide +kernel
theorem dX11_worked_135 : decode cX11_worked 135 = .ok (.iconst 1, 1) := by decide +kernel
theorem dX11_worked_136 : decode cX11_worked 136 = .ok (.isub, 1) := by decide +kernel
theorem dX11_worked_137 : decode cX11_worked 137 = .ok (.iaload, 1) := by decide +kernel
theorem dX11_worked_138 : decode cX11_worked 138 = .ok (.ineg, 1) := by decide +kernel
theorem dX11_worked_139 : decode cX11_worked 139 = .ok (.iastore, 1) := by decide +kernel
theorem dX11_worked_140 : decode cX11_worked 140 = .ok (.goto 40, 3) := by decide +kernel
theorem dX11_worked_143 : decode cX11_worked 143 = .ok (.iinc 4 (-1), 3) := by decide +kernel
theorem dX11_worked_146 : decode cX11_worked 146 = .ok (.aload_n 0, 1) := by decide +kernel
theorem dX11_worked_147 : decode cX11_worked 147 = .ok (.getfield 246, 3) := by decide +kernel
theorem dX11_worked_150 : decode cX11_worked 150 = .ok (.iload 4, 2) := by decide +kernel
theorem dX11_worked_152 : decode cX11_worked 152 = .ok (.iconst 1, 1) := by decide +kernel
theorem dX11_worked_153 : decode cX11_worked 153 = .ok (.isub, 1) := by decide +kernel
theorem dX11_worked_154 : decode cX11_worked 154 = .ok (.iload 6, 2) := by decide +kernel
theorem dX11_worked_156 : decode cX11_worked 156 = .ok (.sipush 2000, 3) := by decide +kernel
theorem dX11_worked_159 : decode cX11_worked 159 = .ok (.isub, 1) := by decide +kernel
theorem dX11_worked_160 : decode cX11_worked 160 = .ok (.aload_n 0, 1) := by decide +kernel
theorem dX11_worked_161 : decode cX11_worked 161 = .ok (.getfield 246, 3) := by decide +kernel
theorem dX11_worked_164 : decode cX11_worked 164 = .ok (.iload 4, 2) := by decide +kernel
theorem dX11_worked_166 : decode cX11_worked 166 = .ok (.iconst 1, 1) := by decide +kernel
theorem dX11_worked_167 : decode cX11_worked 167 = .ok (.isub, 1) := by decide +kernel
theorem dX11_worked_168 : decode cX11_worked 168 = .ok (.iaload, 1) := by decide +kernel
theorem dX11_worked_169 : decode cX11_worked 169 = .ok (.aload_n 0, 1) := by decide +kernel
theorem dX11_worked_170 : decode cX11_worked 170 = .ok (.getfield 246, 3) := by decide +kernel
theorem dX11_worked_173 : decode cX11_worked 173 = .ok (.iload 4, 2) := by decide +kernel
theorem dX11_worked_175 : decode cX11_worked 175 = .ok (.iaload, 1) := by decide +kernel
theorem dX11_worked_176 : decode cX11_worked 176 = .ok (.invokestatic 253, 3) := by decide +kernel
theorem dX11_worked_179 : decode cX11_worked 179 = .ok (.iastore, 1) := by decide +kernel
theorem dX11_worked_180 : decode cX11_worked 180 = .ok (.iinc 5 1, 3) := by decide +kernel
theorem dX11_worked_183 : decode cX11_worked 183 = .ok (.goto (-177), 3) := by decide +kernel
theorem dX11_worked_186 : decode cX11_worked 186 = .ok (.aload_n 0, 1) := by decide +kernel
theorem dX11_worked_187 : decode cX11_worked 187 = .ok (.getfield 246, 3) := by decide +kernel
theorem dX11_worked_190 : decode cX11_worked 190 = .ok (.iconst 0, 1) := by decide +kernel
theorem dX11_worked_191 : decode cX11_worked 191 = .ok (.iaload, 1) := by decide +kernel
theorem dX11_worked_192 : decode cX11_worked 192 = .ok (.ireturn, 1) := by decide +kernel
theorem dX11_isPiece_0 : decode cX11_isPiece 0 = .ok (.iload_n 1, 1) := by decide +kernel
theorem dX11_isPiece_1 : decode cX11_isPiece 1 = .ok (.i2l, 1) := by decide +kernel
theorem dX11_isPiece_2 : decode cX11_isPiece 2 = .ok (.lconst 0, 1) := by decide +kernel
theorem dX11_isPiece_3 : decode cX11_isPiece 3 = .ok (.aload_n 0, 1) := by decide +kernel
theorem dX11_isPiece_4 : decode cX11_isPiece 4 = .ok (.getfield 151, 3) := by decide +kernel
theorem dX11_isPiece_7 : decode cX11_isPiece 7 = .ok (.iconst 1, 1) := by decide +kernel
theorem dX11_isPiece_8 : decode cX11_isPiece 8 = .ok (.isub, 1) := by decide +kernel
theorem dX11_isPiece_9 : decode cX11_isPiece 9 = .ok (.i2l, 1) := by decide +kernel
theorem dX11_isPiece_10 : decode cX11_isPiece 10 = .ok (.invokestatic 25, 3) := by decide +kernel
theorem dX11_isPiece_13 : decode cX11_isPiece 13 = .ok (.ireturn, 1) := by decide +kernel
theorem dX11_value_0 : decode cX11_value 0 = .ok (.aload_n 0, 1) := by decide +kernel
theorem dX11_value_1 : decode cX11_value 1 = .ok (.iconst 0, 1) := by decide +kernel
theorem dX11_value_2 : decode cX11_value 2 = .ok (.putfield 3, 3) := by decide +kernel
theorem dX11_value_5 : decode cX11_value 5 = .ok (.aload_n 0, 1) := by decide +kernel
theorem dX11_value_6 : decode cX11_value 6 = .ok (.iload_n 1, 1) := by decide +kernel
theorem dX11_value_7 : decode cX11_value 7 = .ok (.invokevirtual 256, 3) := by decide +kernel
theorem dX11_value_10 : decode cX11_value 10 = .ok (.ifCond .eq 20, 3) := by decide +kernel
theorem dX11_value_13 : decode cX11_value 13 = .ok (.aload_n 0, 1) := by decide +kernel
theorem dX11_value_14 : decode cX11_value 14 = .ok (.iload_n 2, 1) := by decide +kernel
theorem dX11_value_15 : decode cX11_value 15 = .ok (.invokevirtual 77, 3) := by decide +kernel
theorem dX11_value_18 : decode cX11_value 18 = .ok (.ifCond .eq 12, 3) := by decide +kernel
theorem dX11_value_21 : decode cX11_value 21 = .ok (.aload_n 0, 1) := by decide +kernel
theorem dX11_value_22 : decode cX11_value 22 = .ok (.getfield 199, 3) := by decide +kernel
theorem dX11_value_25 : decode cX11_value 25 = .ok (.iconst 0, 1) := by decide +kernel
theorem dX11_value_26 : decode cX11_value 26 = .ok (.iaload, 1) := by decide +kernel
theorem dX11_value_27 : decode cX11_value 27 = .ok (.ifCond .ne 8, 3) := by decide +kernel
theorem dX11_value_30 : decode cX11_value 30 = .ok (.aload_n 0, 1) := by decide +kernel
theorem dX11_value_31 : decode cX11_value 31 = .ok (.invokevirtual 259, 3) := by decide +kernel
theorem dX11_value_34 : decode cX11_value 34 = .ok (.ireturn, 1) := by decide +kernel
theorem dX11_value_35 : decode cX11_value 35 = .ok (.aload_n 0, 1) := by decide +kernel
theorem dX11_value_36 : decode cX11_value 36 = .ok (.iload_n 1, 1) := by decide +kernel
theorem dX11_value_37 : decode cX11_value 37 = .ok (.iload_n 2, 1) := by decide +kernel
theorem dX11_value_38 : decode cX11_value 38 = .ok (.aload_n 0, 1) := by decide +kernel
theorem dX11_value_39 : decode cX11_value 39 = .ok (.getfield 140, 3) := by decide +kernel
theorem dX11_value_42 : decode cX11_value 42 = .ok (.iconst 0, 1) := by decide +kernel
theorem dX11_value_43 : decode cX11_value 43 = .ok (.iaload, 1) := by decide +kernel
theorem dX11_value_44 : decode cX11_value 44 = .ok (.iconst 1, 1) := by decide +kernel
theorem dX11_value_45 : decode cX11_value 45 = .ok (.iadd, 1) := by decide +kernel
theorem dX11_value_46 : decode cX11_value 46 = .ok (.invokevirtual 262, 3) := by decide +kernel
theorem dX11_value_49 : decode cX11_value 49 = .ok (.ireturn, 1) := by decide +kernel
theorem dX11_isDone_0 : decode cX11_isDone 0 = .ok (.aload_n 0, 1) := by decide +kernel
theorem dX11_isDone_1 : decode cX11_isDone 1 = .ok (.getfield 140, 3) := by decide +kernel
theorem dX11_isDone_4 : decode cX11_isDone 4 = .ok (.bipush 35, 2) := by decide +kernel
theorem dX11_isDone_6 : decode cX11_isDone 6 = .ok (.iload_n 1, 1) := by decide +kernel
theorem dX11_isDone_7 : decode cX11_isDone 7 = .ok (.iadd, 1) := by decide +kernel
theorem dX11_isDone_8 : decode cX11_isDone 8 = .ok (.iaload, 1) := by decide +kernel
theorem dX11_isDone_9 : decode cX11_isDone 9 = .ok (.ifCond .lt 7, 3) := by decide +kernel
theorem dX11_isDone_12 : decode cX11_isDone 12 = .ok (.iconst 1, 1) := by decide +kernel
theorem dX11_isDone_13 : decode cX11_isDone 13 = .ok (.goto 4, 3) := by decide +kernel
theorem dX11_isDone_16 : decode cX11_isDone 16 = .ok (.iconst 0, 1) := by decide +kernel
theorem dX11_isDone_17 : decode cX11_isDone 17 = .ok (.ireturn, 1) := by decide +kernel
theorem dX11_isReady_0 : decode cX11_isReady 0 = .ok (.aload_n 0, 1) := by decide +kernel
theorem dX11_isReady_1 : decode cX11_isReady 1 = .ok (.iload_n 1, 1) := by decide +kernel
theorem dX11_isReady_2 : decode cX11_isReady 2 = .ok (.invokevirtual 265, 3) := by decide +kernel
theorem dX11_isReady_5 : decode cX11_isReady 5 = .ok (.ifCond .ne 7, 3) := by decide +kernel
theorem dX11_isReady_8 : decode cX11_isReady 8 = .ok (.iconst 1, 1) := by decide +kernel
theorem dX11_isReady_9 : decode cX11_isReady 9 = .ok (.goto 4, 3) := by decide +kernel
theorem dX11_isReady_12 : decode cX11_isReady 12 = .ok (.iconst 0, 1) := by decide +kernel
theorem dX11_isReady_13 : decode cX11_isReady 13 = .ok (.istore_n 2, 1) := by decide +kernel
theorem dX11_isReady_14 : decode cX11_isReady 14 = .ok (.iconst 0, 1) := by decide +kernel
theorem dX11_isReady_15 : decode cX11_isReady 15 = .ok (.istore_n 3, 1) := by decide +kernel
theorem dX11_isReady_16 : decode cX11_isReady 16 = .ok (.iload_n 3, 1) := by decide +kernel
theorem dX11_isReady_17 : decode cX11_isReady 17 = .ok (.iload_n 1, 1) := by decide +kernel
theorem dX11_isReady_18 : decode cX11_isReady 18 = .ok (.if_icmp .ge 40, 3) := by decide +kernel
theorem dX11_isReady_21 : decode cX11_isReady 21 = .ok (.iload_n 2, 1) := by decide +kernel
theorem dX11_isReady_22 : decode cX11_isReady 22 = .ok (.ifCond .eq 28, 3) := by decide +kernel
theorem dX11_isReady_25 : decode cX11_isReady 25 = .ok (.aload_n 0, 1) := by decide +kernel
theorem dX11_isReady_26 : decode cX11_isReady 26 = .ok (.getfield 160, 3) := by decide +kernel
theorem dX11_isReady_29 : decode cX11_isReady 29 = .ok (.iload_n 1, 1) := by decide +kernel
theorem dX11_isReady_30 : decode cX11_isReady 30 = .ok (.iaload, 1) := by decide +kernel
theorem dX11_isReady_31 : decode cX11_isReady 31 = .ok (.iload_n 3, 1) := by decide +kernel
theorem dX11_isReady_32 : decode cX11_isReady 32 = .ok (.invokestatic 137, 3) := by decide +kernel
theorem dX11_isReady_35 : decode cX11_isReady 35 = .ok (.ifCond .eq 11, 3) := by decide +kernel
theorem dX11_isReady_38 : decode cX11_isReady 38 = .ok (.aload_n 0, 1) := by decide +kernel
theorem dX11_isReady_39 : decode cX11_isReady 39 = .ok (.iload_n 3, 1) := by decide +kernel
theorem dX11_isReady_40 : decode cX11_isReady 40 = .ok (.invokevirtual 265, 3) := by decide +kernel
theorem dX11_isReady_43 : decode cX11_isReady 43 = .ok (.ifCond .eq 7, 3) := by decide +kernel
theorem dX11_isReady_46 : decode cX11_isReady 46 = .ok (.iconst 1, 1) := by decide +kernel
theorem dX11_isReady_47 : decode cX11_isReady 47 = .ok (.goto 4, 3) := by decide +kernel
theorem dX11_isReady_50 : decode cX11_isReady 50 = .ok (.iconst 0, 1) := by decide +kernel
theorem dX11_isReady_51 : decode cX11_isReady 51 = .ok (.istore_n 2, 1) := by decide +kernel
theorem dX11_isReady_52 : decode cX11_isReady 52 = .ok (.iinc 3 1, 3) := by decide +kernel
theorem dX11_isReady_55 : decode cX11_isReady 55 = .ok (.goto (-39), 3) := by decide +kernel
theorem dX11_isReady_58 : decode cX11_isReady 58 = .ok (.iload_n 2, 1) := by decide +kernel
theorem dX11_isReady_59 : decode cX11_isReady 59 = .ok (.ireturn, 1) := by decide +kernel
theorem dX11_readyBits_0 : decode cX11_readyBits 0 = .ok (.iconst 0, 1) := by decide +kernel
theorem dX11_readyBits_1 : decode cX11_readyBits 1 = .ok (.istore_n 1, 1) := by decide +kernel
theorem dX11_readyBits_2 : decode cX11_readyBits 2 = .ok (.iconst 0, 1) := by decide +kernel
theorem dX11_readyBits_3 : decode cX11_readyBits 3 = .ok (.istore_n 2, 1) := by decide +kernel
theorem dX11_readyBits_4 : decode cX11_readyBits 4 = .ok (.iload_n 2, 1) := by decide +kernel
theorem dX11_readyBits_5 : decode cX11_readyBits 5 = .ok (.aload_n 0, 1) := by decide +kernel
theorem dX11_readyBits_6 : decode cX11_readyBits 6 = .ok (.getfield 151, 3) := by decide +kernel
theorem dX11_readyBits_9 : decode cX11_readyBits 9 = .ok (.if_icmp .ge 27, 3) := by decide +kernel
theorem dX11_readyBits_12 : decode cX11_readyBits 12 = .ok (.iload_n 1, 1) := by decide +kernel
theorem dX11_readyBits_13 : decode cX11_readyBits 13 = .ok (.aload_n 0, 1) := by decide +kernel
theorem dX11_readyBits_14 : decode cX11_readyBits 14 = .ok (.iload_n 2, 1) := by decide +kernel
theorem dX11_readyBits_15 : decode cX11_readyBits 15 = .ok (.invokevirtual 268, 3) := by decide +kernel
theorem dX11_readyBits_18 : decode cX11_readyBits 18 = .ok (.ifCond .eq 9, 3) := by decide +kernel
theorem dX11_readyBits_21 : decode cX11_readyBits 21 = .ok (.iconst 1, 1) := by decide +kernel
theorem dX11_readyBits_22 : decode cX11_readyBits 22 = .ok (.iload_n 2, 1) := by decide +kernel
theorem dX11_readyBits_23 : decode cX11_readyBits 23 = .ok (.ishl, 1) := by decide +kernel
theorem dX11_readyBits_24 : decode cX11_readyBits 24 = .ok (.goto 4, 3) := by decide +kernel
theorem dX11_readyBits_27 : decode cX11_readyBits 27 = .ok (.iconst 0, 1) := by decide +kernel
theorem dX11_readyBits_28 : decode cX11_readyBits 28 = .ok (.ior, 1) := by decide +kernel
theorem dX11_readyBits_29 : decode cX11_readyBits 29 = .ok (.istore_n 1, 1) := by decide +kernel
theorem dX11_readyBits_30 : decode cX11_readyBits 30 = .ok (.iinc 2 1, 3) := by decide +kernel
theorem dX11_readyBits_33 : decode cX11_readyBits 33 = .ok (.goto (-29), 3) := by decide +kernel
theorem dX11_readyBits_36 : decode cX11_readyBits 36 = .ok (.iload_n 1, 1) := by decide +kernel
theorem dX11_readyBits_37 : decode cX11_readyBits 37 = .ok (.ireturn, 1) := by decide +kernel
theorem dX11_asked_0 : decode cX11_asked 0 = .ok (.aload_n 0, 1) := by decide +kernel
theorem dX11_asked_1 : decode cX11_asked 1 = .ok (.getfield 271, 3) := by decide +kernel
theorem dX11_asked_4 : decode cX11_asked 4 = .ok (.ifCond .eq 7, 3) := by decide +kernel
theorem dX11_asked_7 : decode cX11_asked 7 = .ok (.iconst (-1), 1) := by decide +kernel
theorem dX11_asked_8 : decode cX11_asked 8 = .ok (.goto 9, 3) := by decide +kernel
theorem dX11_asked_11 : decode cX11_asked 11 = .ok (.aload_n 0, 1) := by decide +kernel
theorem dX11_asked_12 : decode cX11_asked 12 = .ok (.getfield 163, 3) := by decide +kernel
theorem dX11_asked_15 : decode cX11_asked 15 = .ok (.iload_n 1, 1) := by decide +kernel
theorem dX11_asked_16 : decode cX11_asked 16 = .ok (.iaload, 1) := by decide +kernel
theorem dX11_asked_17 : decode cX11_asked 17 = .ok (.ireturn, 1) := by decide +kernel
theorem dX11_works_0 : decode cX11_works 0 = .ok (.aload_n 0, 1) := by decide +kernel
theorem dX11_works_1 : decode cX11_works 1 = .ok (.getfield 140, 3) := by decide +kernel
theorem dX11_works_4 : decode cX11_works 4 = .ok (.iconst 0, 1) := by decide +kernel
theorem dX11_works_5 : decode cX11_works 5 = .ok (.iaload, 1) := by decide +kernel
theorem dX11_works_6 : decode cX11_works 6 = .ok (.istore_n 1, 1) := by decide +kernel
theorem dX11_works_7 : decode cX11_works 7 = .ok (.aload_n 0, 1) := by decide +kernel
theorem dX11_works_8 : decode cX11_works 8 = .ok (.aload_n 0, 1) := by decide +kernel
theorem dX11_works_9 : decode cX11_works 9 = .ok (.invokevirtual 275, 3) := by decide +kernel
theorem dX11_works_12 : decode cX11_works 12 = .ok (.putfield 278, 3) := by decide +kernel
theorem dX11_works_15 : decode cX11_works 15 = .ok (.aload_n 0, 1) := by decide +kernel
theorem dX11_works_16 : decode cX11_works 16 = .ok (.iconst 0, 1) := by decide +kernel
theorem dX11_works_17 : decode cX11_works 17 = .ok (.putfield 281, 3) := by decide +kernel
theorem dX11_works_20 : decode cX11_works 20 = .ok (.aload_n 0, 1) := by decide +kernel
theorem dX11_works_21 : decode cX11_works 21 = .ok (.iconst 0, 1) := by decide +kernel
theorem dX11_works_22 : decode cX11_works 22 = .ok (.putfield 284, 3) := by decide +kernel
theorem dX11_works_25 : decode cX11_works 25 = .ok (.iconst 0, 1) := by decide +kernel
theorem dX11_works_26 : decode cX11_works 26 = .ok (.istore_n 2, 1) := by decide +kernel
theorem dX11_works_27 : decode cX11_works 27 = .ok (.iload_n 2, 1) := by decide +kernel
theorem dX11_works_28 : decode cX11_works 28 = .ok (.aload_n 0, 1) := by decide +kernel
theorem dX11_works_29 : decode cX11_works 29 = .ok (.getfield 22, 3) := by decide +kernel
theorem dX11_works_32 : decode cX11_works 32 = .ok (.if_icmp .ge 16, 3) := by decide +kernel
theorem dX11_works_35 : decode cX11_works 35 = .ok (.aload_n 0, 1) := by decide +kernel
theorem dX11_works_36 : decode cX11_works 36 = .ok (.getfield 287, 3) := by decide +kernel
theorem dX11_works_39 : decode cX11_works 39 = .ok (.iload_n 2, 1) := by decide +kernel
theorem dX11_works_40 : decode cX11_works 40 = .ok (.iconst 0, 1) := by decide +kernel
theorem dX11_works_41 : decode cX11_works 41 = .ok (.iastore, 1) := by decide +kernel
theorem dX11_works_42 : decode cX11_works 42 = .ok (.iinc 2 1, 3) := by decide +kernel
theorem dX11_works_45 : decode cX11_works 45 = .ok (.goto (-18), 3) := by decide +kernel
theorem dX11_works_48 : decode cX11_works 48 = .ok (.iconst 0, 1) := by decide +kernel
theorem dX11_works_49 : decode cX11_works 49 = .ok (.istore_n 2, 1) := by decide +kernel
theorem dX11_works_50 : decode cX11_works 50 = .ok (.iload_n 2, 1) := by decide +kernel
theorem dX11_works_51 : decode cX11_works 51 = .ok (.aload_n 0, 1) := by decide +kernel
theorem dX11_works_52 : decode cX11_works 52 = .ok (.getfield 151, 3) := by decide +kernel
theorem dX11_works_55 : decode cX11_works 55 = .ok (.if_icmp .ge 294, 3) := by decide +kernel
theorem dX11_works_58 : decode cX11_works 58 = .ok (.aload_n 0, 1) := by decide +kernel
theorem dX11_works_59 : decode cX11_works 59 = .ok (.getfield 278, 3) := by decide +kernel
theorem dX11_works_62 : decode cX11_works 62 = .ok (.iload_n 2, 1) := by decide +kernel
theorem dX11_works_63 : decode cX11_works 63 = .ok (.invokestatic 137, 3) := by decide +kernel
theorem dX11_works_66 : decode cX11_works 66 = .ok (.ifCond .ne 6, 3) := by decide +kernel
theorem dX11_works_69 : decode cX11_works 69 = .ok (.goto 274, 3) := by decide +kernel
theorem dX11_works_72 : decode cX11_works 72 = .ok (.aload_n 0, 1) := by decide +kernel
theorem dX11_works_73 : decode cX11_works 73 = .ok (.getfield 140, 3) := by decide +kernel
theorem dX11_works_76 : decode cX11_works 76 = .ok (.iconst 3, 1) := by decide +kernel
theorem dX11_works_77 : decode cX11_works 77 = .ok (.iload_n 2, 1) := by decide +kernel
theorem dX11_works_78 : decode cX11_works 78 = .ok (.iadd, 1) := by decide +kernel
theorem dX11_works_79 : decode cX11_works 79 = .ok (.iaload, 1) := by decide +kernel
theorem dX11_works_80 : decode cX11_works 80 = .ok (.istore_n 3, 1) := by decide +kernel
theorem dX11_works_81 : decode cX11_works 81 = .ok (.aload_n 0, 1) := by decide +kernel
theorem dX11_works_82 : decode cX11_works 82 = .ok (.getfield 140, 3) := by decide +kernel
theorem dX11_works_85 : decode cX11_works 85 = .ok (.bipush 27, 2) := by decide +kernel
theorem dX11_works_87 : decode cX11_works 87 = .ok (.iload_n 2, 1) := by decide +kernel
theorem dX11_works_88 : decode cX11_works 88 = .ok (.iadd, 1) := by decide +kernel
theorem dX11_works_89 : decode cX11_works 89 = .ok (.iaload, 1) := by decide +kernel
theorem dX11_works_90 : decode cX11_works 90 = .ok (.iconst 1, 1) := by decide +kernel
theorem dX11_works_91 : decode cX11_works 91 = .ok (.if_icmp .ne 58, 3) := by decide +kernel
theorem dX11_works_94 : decode cX11_works 94 = .ok (.aload_n 0, 1) := by decide +kernel
theorem dX11_works_95 : decode cX11_works 95 = .ok (.dup, 1) := by decide +kernel
theorem dX11_works_96 : decode cX11_works 96 = .ok (.getfield 281, 3) := by decide +kernel
theorem dX11_works_99 : decode cX11_works 99 = .ok (.iconst 1, 1) := by decide +kernel
theorem dX11_works_100 : decode cX11_works 100 = .ok (.iload_n 2, 1) := by decide +kernel
theorem dX11_works_101 : decode cX11_works 101 = .ok (.ishl, 1) := by decide +kernel
theorem dX11_works_102 : decode cX11_works 102 = .ok (.ior, 1) := by decide +kernel
theorem dX11_works_103 : decode cX11_works 103 = .ok (.putfield 281, 3) := by decide +kernel
theorem dX11_works_106 : decode cX11_works 106 = .ok (.aload_n 0, 1) := by decide +kernel
theorem dX11_works_107 : decode cX11_works 107 = .ok (.getfield 140, 3) := by decide +kernel
theorem dX11_works_110 : decode cX11_works 110 = .ok (.bipush 27, 2) := by decide +kernel
theorem dX11_works_112 : decode cX11_works 112 = .ok (.iload_n 2, 1) := by decide +kernel
theorem dX11_works_113 : decode cX11_works 113 = .ok (.iadd, 1) := by decide +kernel
theorem dX11_works_114 : decode cX11_works 114 = .ok (.aload_n 0, 1) := by decide +kernel
theorem dX11_works_115 : decode cX11_works 115 = .ok (.iload_n 3, 1) := by decide +kernel
theorem dX11_works_116 : decode cX11_works 116 = .ok (.iload_n 1, 1) := by decide +kernel
theorem dX11_works_117 : decode cX11_works 117 = .ok (.invokevirtual 120, 3) := by decide +kernel
theorem dX11_works_120 : decode cX11_works 120 = .ok (.ifCond .eq 17, 3) := by decide +kernel
theorem dX11_works_123 : decode cX11_works 123 = .ok (.aload_n 0, 1) := by decide +kernel
theorem dX11_works_124 : decode cX11_works 124 = .ok (.aload_n 0, 1) := by decide +kernel
theorem dX11_works_125 : decode cX11_works 125 = .ok (.getfield 163, 3) := by decide +kernel
theorem dX11_works_128 : decode cX11_works 128 = .ok (.iload_n 2, 1) := by decide +kernel
theorem dX11_works_129 : decode cX11_works 129 = .ok (.iaload, 1) := by decide +kernel
theorem dX11_works_130 : decode cX11_works 130 = .ok (.iload_n 1, 1) := by decide +kernel
theorem dX11_works_131 : decode cX11_works 131 = .ok (.invokevirtual 120, 3) := by decide +kernel
theorem dX11_works_134 : decode cX11_works 134 = .ok (.ifCond .ne 7, 3) := by decide +kernel
theorem dX11_works_137 : decode cX11_works 137 = .ok (.iconst 1, 1) := by decide +kernel
theorem dX11_works_138 : decode cX11_works 138 = .ok (.goto 4, 3) := by decide +kernel
theorem dX11_works_141 : decode cX11_works 141 = .ok (.iconst 0, 1) := by decide +kernel
theorem dX11_works_142 : decode cX11_works 142 = .ok (.invokestatic 124, 3) := by decide +kernel
theorem dX11_works_145 : decode cX11_works 145 = .ok (.iastore, 1) := by decide +kernel
theorem dX11_works_146 : decode cX11_works 146 = .ok (.goto 197, 3) := by decide +kernel
theorem dX11_works_149 : decode cX11_works 149 = .ok (.aload_n 0, 1) := by decide +kernel
theorem dX11_works_150 : decode cX11_works 150 = .ok (.iload_n 3, 1) := by decide +kernel
theorem dX11_works_151 : decode cX11_works 151 = .ok (.iload_n 1, 1) := by decide +kernel
theorem dX11_works_152 : decode cX11_works 152 = .ok (.invokevirtual 120, 3) := by decide +kernel
theorem dX11_works_155 : decode cX11_works 155 = .ok (.ifCond .eq 188, 3) := by decide +kernel
theorem dX11_works_158 : decode cX11_works 158 = .ok (.aload_n 0, 1) := by decide +kernel
theorem dX11_works_159 : decode cX11_works 159 = .ok (.getfield 47, 3) := by decide +kernel
theorem dX11_works_162 : decode cX11_works 162 = .ok (.iload_n 3, 1) := by decide +kernel
theorem dX11_works_163 : decode cX11_works 163 = .ok (.iaload, 1) := by decide +kernel
theorem dX11_works_164 : decode cX11_works 164 = .ok (.aload_n 0, 1) := by decide +kernel
theorem dX11_works_165 : decode cX11_works 165 = .ok (.getfield 154, 3) := by decide +kernel
theorem dX11_works_168 : decode cX11_works 168 = .ok (.iload_n 2, 1) := by decide +kernel
theorem dX11_works_169 : decode cX11_works 169 = .ok (.iaload, 1) := by decide +kernel
theorem dX11_works_170 : decode cX11_works 170 = .ok (.invokestatic 137, 3) := by decide +kernel
theorem dX11_works_173 : decode cX11_works 173 = .ok (.ifCond .eq 170, 3) := by decide +kernel
theorem dX11_works_176 : decode cX11_works 176 = .ok (.aload_n 0, 1) := by decide +kernel
theorem dX11_works_177 : decode cX11_works 177 = .ok (.getfield 287, 3) := by decide +kernel
theorem dX11_works_180 : decode cX11_works 180 = .ok (.iload_n 3, 1) := by decide +kernel
theorem dX11_works_181 : decode cX11_works 181 = .ok (.iaload, 1) := by decide +kernel
theorem dX11_works_182 : decode cX11_works 182 = .ok (.aload_n 0, 1) := by decide +kernel
theorem dX11_works_183 : decode cX11_works 183 = .ok (.getfield 44, 3) := by decide +kernel
theorem dX11_works_186 : decode cX11_works 186 = .ok (.iload_n 3, 1) := by decide +kernel
theorem dX11_works_187 : decode cX11_works 187 = .ok (.iaload, 1) := by decide +kernel
theorem dX11_works_188 : decode cX11_works 188 = .ok (.if_icmp .lt 6, 3) := by decide +kernel
theorem dX11_works_191 : decode cX11_works 191 = .ok (.goto 152, 3) := by decide +kernel
theorem dX11_works_194 : decode cX11_works 194 = .ok (.aload_n 0, 1) := by decide +kernel
theorem dX11_works_195 : decode cX11_works 195 = .ok (.getfield 287, 3) := by decide +kernel
theorem dX11_works_198 : decode cX11_works 198 = .ok (.iload_n 3, 1) := by decide +kernel
theorem dX11_works_199 : decode cX11_works 199 = .ok (.dup2, 1) := by decide +kernel
theorem dX11_works_200 : decode cX11_works 200 = .ok (.iaload, 1) := by decide +kernel
theorem dX11_works_201 : decode cX11_works 201 = .ok (.iconst 1, 1) := by decide +kernel
theorem dX11_works_202 : decode cX11_works 202 = .ok (.iadd, 1) := by decide +kernel
theorem dX11_works_203 : decode cX11_works 203 = .ok (.iastore, 1) := by decide +kernel
theorem dX11_works_204 : decode cX11_works 204 = .ok (.aload_n 0, 1) := by decide +kernel
theorem dX11_works_205 : decode cX11_works 205 = .ok (.dup, 1) := by decide +kernel
theorem dX11_works_206 : decode cX11_works 206 = .ok (.getfield 284, 3) := by decide +kernel
theorem dX11_works_209 : decode cX11_works 209 = .ok (.iconst 1, 1) := by decide +kernel
theorem dX11_works_210 : decode cX11_works 210 = .ok (.iload_n 2, 1) := by decide +kernel
theorem dX11_works_211 : decode cX11_works 211 = .ok (.ishl, 1) := by decide +kernel
theorem dX11_works_212 : decode cX11_works 212 = .ok (.ior, 1) := by decide +kernel
theorem dX11_works_213 : decode cX11_works 213 = .ok (.putfield 284, 3) := by decide +kernel
theorem dX11_works_216 : decode cX11_works 216 = .ok (.aload_n 0, 1) := by decide +kernel
theorem dX11_works_217 : decode cX11_works 217 = .ok (.getfield 140, 3) := by decide +kernel
theorem dX11_works_220 : decode cX11_works 220 = .ok (.bipush 11, 2) := by decide +kernel
theorem dX11_works_222 : decode cX11_works 222 = .ok (.iload_n 2, 1) := by decide +kernel
theorem dX11_works_223 : decode cX11_works 223 = .ok (.iadd, 1) := by decide +kernel
theorem dX11_works_224 : decode cX11_works 224 = .ok (.dup2, 1) := by decide +kernel
theorem dX11_works_225 : decode cX11_works 225 = .ok (.iaload, 1) := by decide +kernel
theorem dX11_works_226 : decode cX11_works 226 = .ok (.iconst 1, 1) := by decide +kernel
theorem dX11_works_227 : decode cX11_works 227 = .ok (.isub, 1) := by decide +kernel
theorem dX11_works_228 : decode cX11_works 228 = .ok (.iastore, 1) := by decide +kernel
theorem dX11_works_229 : decode cX11_works 229 = .ok (.aload_n 0, 1) := by decide +kernel
theorem dX11_works_230 : decode cX11_works 230 = .ok (.getfield 140, 3) := by decide +kernel
theorem dX11_works_233 : decode cX11_works 233 = .ok (.bipush 19, 2) := by decide +kernel
theorem dX11_works_235 : decode cX11_works 235 = .ok (.iload_n 2, 1) := by decide +kernel
theorem dX11_works_236 : decode cX11_works 236 = .ok (.iadd, 1) := by decide +kernel
theorem dX11_works_237 : decode cX11_works 237 = .ok (.dup2, 1) := by decide +kernel
theorem dX11_works_238 : decode cX11_works 238 = .ok (.iaload, 1) := by decide +kernel
theorem dX11_works_239 : decode cX11_works 239 = .ok (.iconst 1, 1) := by decide +kernel
theorem dX11_works_240 : decode cX11_works 240 = .ok (.iadd, 1) := by decide +kernel
theorem dX11_works_241 : decode cX11_works 241 = .ok (.iastore, 1) := by decide +kernel
theorem dX11_works_242 : decode cX11_works 242 = .ok (.aload_n 0, 1) := by decide +kernel
theorem dX11_works_243 : decode cX11_works 243 = .ok (.getfield 140, 3) := by decide +kernel
theorem dX11_works_246 : decode cX11_works 246 = .ok (.bipush 43, 2) := by decide +kernel
theorem dX11_works_248 : decode cX11_works 248 = .ok (.iload_n 2, 1) := by decide +kernel
theorem dX11_works_249 : decode cX11_works 249 = .ok (.iadd, 1) := by decide +kernel
theorem dX11_works_250 : decode cX11_works 250 = .ok (.dup2, 1) := by decide +kernel
theorem dX11_works_251 : decode cX11_works 251 = .ok (.iaload, 1) := by decide +kernel
theorem dX11_works_252 : decode cX11_works 252 = .ok (.iconst 1, 1) := by decide +kernel
theorem dX11_works_253 : decode cX11_works 253 = .ok (.iadd, 1) := by decide +kernel
theorem dX11_works_254 : decode cX11_works 254 = .ok (.iastore, 1) := by decide +kernel
theorem dX11_works_255 : decode cX11_works 255 = .ok (.aload_n 0, 1) := by decide +kernel
theorem dX11_works_256 : decode cX11_works 256 = .ok (.getfield 140, 3) := by decide +kernel
theorem dX11_works_259 : decode cX11_works 259 = .ok (.iconst 1, 1) := by decide +kernel
theorem dX11_works_260 : decode cX11_works 260 = .ok (.dup2, 1) := by decide +kernel
theorem dX11_works_261 : decode cX11_works 261 = .ok (.iaload, 1) := by decide +kernel
theorem dX11_works_262 : decode cX11_works 262 = .ok (.aload_n 0, 1) := by decide +kernel
theorem dX11_works_263 : decode cX11_works 263 = .ok (.getfield 41, 3) := by decide +kernel
theorem dX11_works_266 : decode cX11_works 266 = .ok (.iload_n 3, 1) := by decide +kernel
theorem dX11_works_267 : decode cX11_works 267 = .ok (.iaload, 1) := by decide +kernel
theorem dX11_works_268 : decode cX11_works 268 = .ok (.iadd, 1) := by decide +kernel
theorem dX11_works_269 : decode cX11_works 269 = .ok (.iastore, 1) := by decide +kernel
theorem dX11_works_270 : decode cX11_works 270 = .ok (.aload_n 0, 1) := by decide +kernel
theorem dX11_works_271 : decode cX11_works 271 = .ok (.getfield 140, 3) := by decide +kernel
theorem dX11_works_274 : decode cX11_works 274 = .ok (.bipush 11, 2) := by decide +kernel
theorem dX11_works_276 : decode cX11_works 276 = .ok (.iload_n 2, 1) := by decide +kernel
theorem dX11_works_277 : decode cX11_works 277 = .ok (.iadd, 1) := by decide +kernel
theorem dX11_works_278 : decode cX11_works 278 = .ok (.iaload, 1) := by decide +kernel
theorem dX11_works_279 : decode cX11_works 279 = .ok (.ifCond .ne 18, 3) := by decide +kernel
theorem dX11_works_282 : decode cX11_works 282 = .ok (.aload_n 0, 1) := by decide +kernel
theorem dX11_works_283 : decode cX11_works 283 = .ok (.getfield 140, 3) := by decide +kernel
theorem dX11_works_286 : decode cX11_works 286 = .ok (.bipush 35, 2) := by decide +kernel
theorem dX11_works_288 : decode cX11_works 288 = .ok (.iload_n 2, 1) := by decide +kernel
theorem dX11_works_289 : decode cX11_works 289 = .ok (.iadd, 1) := by decide +kernel
theorem dX11_works_290 : decode cX11_works 290 = .ok (.iload_n 1, 1) := by decide +kernel
theorem dX11_works_291 : decode cX11_works 291 = .ok (.iconst 1, 1) := by decide +kernel
theorem dX11_works_292 : decode cX11_works 292 = .ok (.iadd, 1) := by decide +kernel
theorem dX11_works_293 : decode cX11_works 293 = .ok (.iastore, 1) := by decide +kernel
theorem dX11_works_294 : decode cX11_works 294 = .ok (.goto 49, 3) := by decide +kernel
theorem dX11_works_297 : decode cX11_works 297 = .ok (.aload_n 0, 1) := by decide +kernel
theorem dX11_works_298 : decode cX11_works 298 = .ok (.iload_n 2, 1) := by decide +kernel
theorem dX11_works_299 : decode cX11_works 299 = .ok (.invokevirtual 290, 3) := by decide +kernel
theorem dX11_works_302 : decode cX11_works 302 = .ok (.ifCond .lt 41, 3) := by decide +kernel
theorem dX11_works_305 : decode cX11_works 305 = .ok (.aload_n 0, 1) := by decide +kernel
theorem dX11_works_306 : decode cX11_works 306 = .ok (.getfield 140, 3) := by decide +kernel
theorem dX11_works_309 : decode cX11_works 309 = .ok (.bipush 19, 2) := by decide +kernel
theorem dX11_works_311 : decode cX11_works 311 = .ok (.iload_n 2, 1) := by decide +kernel
theorem dX11_works_312 : decode cX11_works 312 = .ok (.iadd, 1) := by decide +kernel
theorem dX11_works_313 : decode cX11_works 313 = .ok (.iaload, 1) := by decide +kernel
theorem dX11_works_314 : decode cX11_works 314 = .ok (.aload_n 0, 1) := by decide +kernel
theorem dX11_works_315 : decode cX11_works 315 = .ok (.getfield 157, 3) := by decide +kernel
theorem dX11_works_318 : decode cX11_works 318 = .ok (.iload_n 2, 1) := by decide +kernel
theorem dX11_works_319 : decode cX11_works 319 = .ok (.iaload, 1) := by decide +kernel
theorem dX11_works_320 : decode cX11_works 320 = .ok (.if_icmp .ne 23, 3) := by decide +kernel
theorem dX11_works_323 : decode cX11_works 323 = .ok (.aload_n 0, 1) := by decide +kernel
theorem dX11_works_324 : decode cX11_works 324 = .ok (.getfield 140, 3) := by decide +kernel
theorem dX11_works_327 : decode cX11_works 327 = .ok (.bipush 27, 2) := by decide +kernel
theorem dX11_works_329 : decode cX11_works 329 = .ok (.iload_n 2, 1) := by decide +kernel
theorem dX11_works_330 : decode cX11_works 330 = .ok (.iadd, 1) := by decide +kernel
theorem dX11_works_331 : decode cX11_works 331 = .ok (.iconst 1, 1) := by decide +kernel
theorem dX11_works_332 : decode cX11_works 332 = .ok (.iastore, 1) := by decide +kernel
theorem dX11_works_333 : decode cX11_works 333 = .ok (.aload_n 0, 1) := by decide +kernel
theorem dX11_works_334 : decode cX11_works 334 = .ok (.getfield 140, 3) := by decide +kernel
theorem dX11_works_337 : decode cX11_works 337 = .ok (.bipush 19, 2) := by decide +kernel
theorem dX11_works_339 : decode cX11_works 339 = .ok (.iload_n 2, 1) := by decide +kernel
theorem dX11_works_340 : decode cX11_works 340 = .ok (.iadd, 1) := by decide +kernel
theorem dX11_works_341 : decode cX11_works 341 = .ok (.iconst 0, 1) := by decide +kernel
theorem dX11_works_342 : decode cX11_works 342 = .ok (.iastore, 1) := by decide +kernel
theorem dX11_works_343 : decode cX11_works 343 = .ok (.iinc 2 1, 3) := by decide +kernel
theorem dX11_works_346 : decode cX11_works 346 = .ok (.goto (-296), 3) := by decide +kernel
theorem dX11_works_349 : decode cX11_works 349 = .ok (.return_, 1) := by decide +kernel
theorem dX11_hands_0 : decode cX11_hands 0 = .ok (.aload_n 0, 1) := by decide +kernel
theorem dX11_hands_1 : decode cX11_hands 1 = .ok (.getfield 140, 3) := by decide +kernel
theorem dX11_hands_4 : decode cX11_hands 4 = .ok (.iconst 3, 1) := by decide +kernel
theorem dX11_hands_5 : decode cX11_hands 5 = .ok (.iload_n 1, 1) := by decide +kernel
theorem dX11_hands_6 : decode cX11_hands 6 = .ok (.iadd, 1) := by decide +kernel
theorem dX11_hands_7 : decode cX11_hands 7 = .ok (.iaload, 1) := by decide +kernel
theorem dX11_hands_8 : decode cX11_hands 8 = .ok (.istore 4, 2) := by decide +kernel
theorem dX11_hands_10 : decode cX11_hands 10 = .ok (.aload_n 0, 1) := by decide +kernel
theorem dX11_hands_11 : decode cX11_hands 11 = .ok (.iload 4, 2) := by decide +kernel
theorem dX11_hands_13 : decode cX11_hands 13 = .ok (.iload_n 2, 1) := by decide +kernel
theorem dX11_hands_14 : decode cX11_hands 14 = .ok (.iload_n 3, 1) := by decide +kernel
theorem dX11_hands_15 : decode cX11_hands 15 = .ok (.invokevirtual 132, 3) := by decide +kernel
theorem dX11_hands_18 : decode cX11_hands 18 = .ok (.istore 5, 2) := by decide +kernel
theorem dX11_hands_20 : decode cX11_hands 20 = .ok (.aload_n 0, 1) := by decide +kernel
theorem dX11_hands_21 : decode cX11_hands 21 = .ok (.getfield 140, 3) := by decide +kernel
theorem dX11_hands_24 : decode cX11_hands 24 = .ok (.bipush 11, 2) := by decide +kernel
theorem dX11_hands_26 : decode cX11_hands 26 = .ok (.iload_n 1, 1) := by decide +kernel
theorem dX11_hands_27 : decode cX11_hands 27 = .ok (.iadd, 1) := by decide +kernel
theorem dX11_hands_28 : decode cX11_hands 28 = .ok (.dup2, 1) := by decide +kernel
theorem dX11_hands_29 : decode cX11_hands 29 = .ok (.iaload, 1) := by decide +kernel
theorem dX11_hands_30 : decode cX11_hands 30 = .ok (.iload 5, 2) := by decide +kernel
theorem dX11_hands_32 : decode cX11_hands 32 = .ok (.iadd, 1) := by decide +kernel
theorem dX11_hands_33 : decode cX11_hands 33 = .ok (.iastore, 1) := by decide +kernel
theorem dX11_hands_34 : decode cX11_hands 34 = .ok (.aload_n 0, 1) := by decide +kernel
theorem dX11_hands_35 : decode cX11_hands 35 = .ok (.getfield 140, 3) := by decide +kernel
theorem dX11_hands_38 : decode cX11_hands 38 = .ok (.bipush 59, 2) := by decide +kernel
theorem dX11_hands_40 : decode cX11_hands 40 = .ok (.iload_n 1, 1) := by decide +kernel
theorem dX11_hands_41 : decode cX11_hands 41 = .ok (.iadd, 1) := by decide +kernel
theorem dX11_hands_42 : decode cX11_hands 42 = .ok (.dup2, 1) := by decide +kernel
theorem dX11_hands_43 : decode cX11_hands 43 = .ok (.iaload, 1) := by decide +kernel
theorem dX11_hands_44 : decode cX11_hands 44 = .ok (.iload 5, 2) := by decide +kernel
theorem dX11_hands_46 : decode cX11_hands 46 = .ok (.iadd, 1) := by decide +kernel
theorem dX11_hands_47 : decode cX11_hands 47 = .ok (.iastore, 1) := by decide +kernel
theorem dX11_hands_48 : decode cX11_hands 48 = .ok (.aload_n 0, 1) := by decide +kernel
theorem dX11_hands_49 : decode cX11_hands 49 = .ok (.getfield 140, 3) := by decide +kernel
theorem dX11_hands_52 : decode cX11_hands 52 = .ok (.bipush 51, 2) := by decide +kernel
theorem dX11_hands_54 : decode cX11_hands 54 = .ok (.iload_n 1, 1) := by decide +kernel
theorem dX11_hands_55 : decode cX11_hands 55 = .ok (.iadd, 1) := by decide +kernel
theorem dX11_hands_56 : decode cX11_hands 56 = .ok (.dup2, 1) := by decide +kernel
theorem dX11_hands_57 : decode cX11_hands 57 = .ok (.iaload, 1) := by decide +kernel
theorem dX11_hands_58 : decode cX11_hands 58 = .ok (.iconst 1, 1) := by decide +kernel
theorem dX11_hands_59 : decode cX11_hands 59 = .ok (.iadd, 1) := by decide +kernel
theorem dX11_hands_60 : decode cX11_hands 60 = .ok (.iastore, 1) := by decide +kernel
theorem dX11_hands_61 : decode cX11_hands 61 = .ok (.aload_n 0, 1) := by decide +kernel
theorem dX11_hands_62 : decode cX11_hands 62 = .ok (.getfield 140, 3) := by decide +kernel
theorem dX11_hands_65 : decode cX11_hands 65 = .ok (.iconst 2, 1) := by decide +kernel
theorem dX11_hands_66 : decode cX11_hands 66 = .ok (.iaload, 1) := by decide +kernel
theorem dX11_hands_67 : decode cX11_hands 67 = .ok (.bipush 60, 2) := by decide +kernel
theorem dX11_hands_69 : decode cX11_hands 69 = .ok (.if_icmp .ge 50, 3) := by decide +kernel
theorem dX11_hands_72 : decode cX11_hands 72 = .ok (.aload_n 0, 1) := by decide +kernel
theorem dX11_hands_73 : decode cX11_hands 73 = .ok (.getfield 140, 3) := by decide +kernel
theorem dX11_hands_76 : decode cX11_hands 76 = .ok (.bipush 67, 2) := by decide +kernel
theorem dX11_hands_78 : decode cX11_hands 78 = .ok (.aload_n 0, 1) := by decide +kernel
theorem dX11_hands_79 : decode cX11_hands 79 = .ok (.getfield 140, 3) := by decide +kernel
theorem dX11_hands_82 : decode cX11_hands 82 = .ok (.iconst 2, 1) := by decide +kernel
theorem dX11_hands_83 : decode cX11_hands 83 = .ok (.iaload, 1) := by decide +kernel
theorem dX11_hands_84 : decode cX11_hands 84 = .ok (.iadd, 1) := by decide +kernel
theorem dX11_hands_85 : decode cX11_hands 85 = .ok (.aload_n 0, 1) := by decide +kernel
theorem dX11_hands_86 : decode cX11_hands 86 = .ok (.getfield 111, 3) := by decide +kernel
theorem dX11_hands_89 : decode cX11_hands 89 = .ok (.bipush 10, 2) := by decide +kernel
theorem dX11_hands_91 : decode cX11_hands 91 = .ok (.aload_n 0, 1) := by decide +kernel
theorem dX11_hands_92 : decode cX11_hands 92 = .ok (.getfield 60, 3) := by decide +kernel
theorem dX11_hands_95 : decode cX11_hands 95 = .ok (.bipush 6, 2) := by decide +kernel
theorem dX11_hands_97 : decode cX11_hands 97 = .ok (.iload 4, 2) := by decide +kernel
theorem dX11_hands_99 : decode cX11_hands 99 = .ok (.imul, 1) := by decide +kernel
theorem dX11_hands_100 : decode cX11_hands 100 = .ok (.iload_n 2, 1) := by decide +kernel
theorem dX11_hands_101 : decode cX11_hands 101 = .ok (.iadd, 1) := by decide +kernel
theorem dX11_hands_102 : decode cX11_hands 102 = .ok (.iaload, 1) := by decide +kernel
theorem dX11_hands_103 : decode cX11_hands 103 = .ok (.isub, 1) := by decide +kernel
theorem dX11_hands_104 : decode cX11_hands 104 = .ok (.imul, 1) := by decide +kernel
theorem dX11_hands_105 : decode cX11_hands 105 = .ok (.bipush 10, 2) := by decide +kernel
theorem dX11_hands_107 : decode cX11_hands 107 = .ok (.idiv, 1) := by decide +kernel
theorem dX11_hands_108 : decode cX11_hands 108 = .ok (.iastore, 1) := by decide +kernel
theorem dX11_hands_109 : decode cX11_hands 109 = .ok (.aload_n 0, 1) := by decide +kernel
theorem dX11_hands_110 : decode cX11_hands 110 = .ok (.getfield 140, 3) := by decide +kernel
theorem dX11_hands_113 : decode cX11_hands 113 = .ok (.iconst 2, 1) := by decide +kernel
theorem dX11_hands_114 : decode cX11_hands 114 = .ok (.dup2, 1) := by decide +kernel
theorem dX11_hands_115 : decode cX11_hands 115 = .ok (.iaload, 1) := by decide +kernel
theorem dX11_hands_116 : decode cX11_hands 116 = .ok (.iconst 1, 1) := by decide +kernel
theorem dX11_hands_117 : decode cX11_hands 117 = .ok (.iadd, 1) := by decide +kernel
theorem dX11_hands_118 : decode cX11_hands 118 = .ok (.iastore, 1) := by decide +kernel
theorem dX11_hands_119 : decode cX11_hands 119 = .ok (.aload_n 0, 1) := by decide +kernel
theorem dX11_hands_120 : decode cX11_hands 120 = .ok (.getfield 140, 3) := by decide +kernel
theorem dX11_hands_123 : decode cX11_hands 123 = .ok (.iconst 3, 1) := by decide +kernel
theorem dX11_hands_124 : decode cX11_hands 124 = .ok (.iload_n 1, 1) := by decide +kernel
theorem dX11_hands_125 : decode cX11_hands 125 = .ok (.iadd, 1) := by decide +kernel
theorem dX11_hands_126 : decode cX11_hands 126 = .ok (.iload_n 2, 1) := by decide +kernel
theorem dX11_hands_127 : decode cX11_hands 127 = .ok (.iastore, 1) := by decide +kernel
theorem dX11_hands_128 : decode cX11_hands 128 = .ok (.iload 5, 2) := by decide +kernel
theorem dX11_hands_130 : decode cX11_hands 130 = .ok (.ireturn, 1) := by decide +kernel
theorem dX11_closes_0 : decode cX11_closes 0 = .ok (.aload_n 0, 1) := by decide +kernel
theorem dX11_closes_1 : decode cX11_closes 1 = .ok (.getfield 140, 3) := by decide +kernel
theorem dX11_closes_4 : decode cX11_closes 4 = .ok (.iconst 0, 1) := by decide +kernel
theorem dX11_closes_5 : decode cX11_closes 5 = .ok (.iaload, 1) := by decide +kernel
theorem dX11_closes_6 : decode cX11_closes 6 = .ok (.istore_n 1, 1) := by decide +kernel
theorem dX11_closes_7 : decode cX11_closes 7 = .ok (.iconst 0, 1) := by decide +kernel
theorem dX11_closes_8 : decode cX11_closes 8 = .ok (.istore_n 2, 1) := by decide +kernel
theorem dX11_closes_9 : decode cX11_closes 9 = .ok (.iload_n 2, 1) := by decide +kernel
theorem dX11_closes_10 : decode cX11_closes 10 = .ok (.aload_n 0, 1) := by decide +kernel
theorem dX11_closes_11 : decode cX11_closes 11 = .ok (.getfield 151, 3) := by decide +kernel
theorem dX11_closes_14 : decode cX11_closes 14 = .ok (.if_icmp .ge 155, 3) := by decide +kernel
theorem dX11_closes_17 : decode cX11_closes 17 = .ok (.aload_n 0, 1) := by decide +kernel
theorem dX11_closes_18 : decode cX11_closes 18 = .ok (.getfield 199, 3) := by decide +kernel
theorem dX11_closes_21 : decode cX11_closes 21 = .ok (.iconst 0, 1) := by decide +kernel
theorem dX11_closes_22 : decode cX11_closes 22 = .ok (.iaload, 1) := by decide +kernel
theorem dX11_closes_23 : decode cX11_closes 23 = .ok (.ifCond .le 146, 3) := by decide +kernel
theorem dX11_closes_26 : decode cX11_closes 26 = .ok (.aload_n 0, 1) := by decide +kernel
theorem dX11_closes_27 : decode cX11_closes 27 = .ok (.getfield 140, 3) := by decide +kernel
theorem dX11_closes_30 : decode cX11_closes 30 = .ok (.iconst 3, 1) := by decide +kernel
theorem dX11_closes_31 : decode cX11_closes 31 = .ok (.iload_n 2, 1) := by decide +kernel
theorem dX11_closes_32 : decode cX11_closes 32 = .ok (.iadd, 1) := by decide +kernel
theorem dX11_closes_33 : decode cX11_closes 33 = .ok (.iaload, 1) := by decide +kernel
theorem dX11_closes_34 : decode cX11_closes 34 = .ok (.istore_n 3, 1) := by decide +kernel
theorem dX11_closes_35 : decode cX11_closes 35 = .ok (.aload_n 0, 1) := by decide +kernel
theorem dX11_closes_36 : decode cX11_closes 36 = .ok (.getfield 278, 3) := by decide +kernel
theorem dX11_closes_39 : decode cX11_closes 39 = .ok (.iload_n 2, 1) := by decide +kernel
theorem dX11_closes_40 : decode cX11_closes 40 = .ok (.invokestatic 137, 3) := by decide +kernel
theorem dX11_closes_43 : decode cX11_closes 43 = .ok (.ifCond .eq 120, 3) := by decide +kernel
theorem dX11_closes_46 : decode cX11_closes 46 = .ok (.aload_n 0, 1) := by decide +kernel
theorem dX11_closes_47 : decode cX11_closes 47 = .ok (.iload_n 2, 1) := by decide +kernel
theorem dX11_closes_48 : decode cX11_closes 48 = .ok (.invokevirtual 265, 3) := by decide +kernel
theorem dX11_closes_51 : decode cX11_closes 51 = .ok (.ifCond .ne 112, 3) := by decide +kernel
theorem dX11_closes_54 : decode cX11_closes 54 = .ok (.aload_n 0, 1) := by decide +kernel
theorem dX11_closes_55 : decode cX11_closes 55 = .ok (.iload_n 3, 1) := by decide +kernel
theorem dX11_closes_56 : decode cX11_closes 56 = .ok (.iload_n 1, 1) := by decide +kernel
theorem dX11_closes_57 : decode cX11_closes 57 = .ok (.invokevirtual 120, 3) := by decide +kernel
theorem dX11_closes_60 : decode cX11_closes 60 = .ok (.ifCond .eq 103, 3) := by decide +kernel
theorem dX11_closes_63 : decode cX11_closes 63 = .ok (.aload_n 0, 1) := by decide +kernel
theorem dX11_closes_64 : decode cX11_closes 64 = .ok (.iload_n 3, 1) := by decide +kernel
theorem dX11_closes_65 : decode cX11_closes 65 = .ok (.iload_n 1, 1) := by decide +kernel
theorem dX11_closes_66 : decode cX11_closes 66 = .ok (.iconst 1, 1) := by decide +kernel
theorem dX11_closes_67 : decode cX11_closes 67 = .ok (.iadd, 1) := by decide +kernel
theorem dX11_closes_68 : decode cX11_closes 68 = .ok (.invokevirtual 120, 3) := by decide +kernel
theorem dX11_closes_71 : decode cX11_closes 71 = .ok (.ifCond .eq 6, 3) := by decide +kernel
theorem dX11_closes_74 : decode cX11_closes 74 = .ok (.goto 89, 3) := by decide +kernel
theorem dX11_closes_77 : decode cX11_closes 77 = .ok (.iconst 0, 1) := by decide +kernel
theorem dX11_closes_78 : decode cX11_closes 78 = .ok (.istore 4, 2) := by decide +kernel
theorem dX11_closes_80 : decode cX11_closes 80 = .ok (.aload_n 0, 1) := by decide +kernel
theorem dX11_closes_81 : decode cX11_closes 81 = .ok (.iload_n 2, 1) := by decide +kernel
theorem dX11_closes_82 : decode cX11_closes 82 = .ok (.iconst 0, 1) := by decide +kernel
theorem dX11_closes_83 : decode cX11_closes 83 = .ok (.iload_n 1, 1) := by decide +kernel
theorem dX11_closes_84 : decode cX11_closes 84 = .ok (.iconst 1, 1) := by decide +kernel
theorem dX11_closes_85 : decode cX11_closes 85 = .ok (.iadd, 1) := by decide +kernel
theorem dX11_closes_86 : decode cX11_closes 86 = .ok (.invokevirtual 262, 3) := by decide +kernel
theorem dX11_closes_89 : decode cX11_closes 89 = .ok (.istore 5, 2) := by decide +kernel
theorem dX11_closes_91 : decode cX11_closes 91 = .ok (.iconst 1, 1) := by decide +kernel
theorem dX11_closes_92 : decode cX11_closes 92 = .ok (.istore 6, 2) := by decide +kernel
theorem dX11_closes_94 : decode cX11_closes 94 = .ok (.iload 6, 2) := by decide +kernel
theorem dX11_closes_96 : decode cX11_closes 96 = .ok (.aload_n 0, 1) := by decide +kernel
theorem dX11_closes_97 : decode cX11_closes 97 = .ok (.getfield 22, 3) := by decide +kernel
theorem dX11_closes_100 : decode cX11_closes 100 = .ok (.if_icmp .ge 46, 3) := by decide +kernel
theorem dX11_closes_103 : decode cX11_closes 103 = .ok (.aload_n 0, 1) := by decide +kernel
theorem dX11_closes_104 : decode cX11_closes 104 = .ok (.iload_n 2, 1) := by decide +kernel
theorem dX11_closes_105 : decode cX11_closes 105 = .ok (.iload 6, 2) := by decide +kernel
theorem dX11_closes_107 : decode cX11_closes 107 = .ok (.iload_n 1, 1) := by decide +kernel
theorem dX11_closes_108 : decode cX11_closes 108 = .ok (.iconst 1, 1) := by decide +kernel
theorem dX11_closes_109 : decode cX11_closes 109 = .ok (.iadd, 1) := by decide +kernel
theorem dX11_closes_110 : decode cX11_closes 110 = .ok (.invokevirtual 262, 3) := by decide +kernel
theorem dX11_closes_113 : decode cX11_closes 113 = .ok (.istore 7, 2) := by decide +kernel
theorem dX11_closes_115 : decode cX11_closes 115 = .ok (.iload 7, 2) := by decide +kernel
theorem dX11_closes_117 : decode cX11_closes 117 = .ok (.iload 5, 2) := by decide +kernel
theorem dX11_closes_119 : decode cX11_closes 119 = .ok (.if_icmp .le 8, 3) := by decide +kernel
theorem dX11_closes_122 : decode cX11_closes 122 = .ok (.iload 6, 2) := by decide +kernel
theorem dX11_closes_124 : decode cX11_closes 124 = .ok (.goto 5, 3) := by decide +kernel
theorem dX11_closes_127 : decode cX11_closes 127 = .ok (.iload 4, 2) := by decide +kernel
theorem dX11_closes_129 : decode cX11_closes 129 = .ok (.istore 4, 2) := by decide +kernel
theorem dX11_closes_131 : decode cX11_closes 131 = .ok (.iload 5, 2) := by decide +kernel
theorem dX11_closes_133 : decode cX11_closes 133 = .ok (.iload 7, 2) := by decide +kernel
theorem dX11_closes_135 : decode cX11_closes 135 = .ok (.invokestatic 101, 3) := by decide +kernel
theorem dX11_closes_138 : decode cX11_closes 138 = .ok (.istore 5, 2) := by decide +kernel
theorem dX11_closes_140 : decode cX11_closes 140 = .ok (.iinc 6 1, 3) := by decide +kernel
theorem dX11_closes_143 : decode cX11_closes 143 = .ok (.goto (-49), 3) := by decide +kernel
theorem dX11_closes_146 : decode cX11_closes 146 = .ok (.iload 4, 2) := by decide +kernel
theorem dX11_closes_148 : decode cX11_closes 148 = .ok (.iload_n 3, 1) := by decide +kernel
theorem dX11_closes_149 : decode cX11_closes 149 = .ok (.if_icmp .eq 14, 3) := by decide +kernel
theorem dX11_closes_152 : decode cX11_closes 152 = .ok (.aload_n 0, 1) := by decide +kernel
theorem dX11_closes_153 : decode cX11_closes 153 = .ok (.iload_n 2, 1) := by decide +kernel
theorem dX11_closes_154 : decode cX11_closes 154 = .ok (.iload 4, 2) := by decide +kernel
theorem dX11_closes_156 : decode cX11_closes 156 = .ok (.iload_n 1, 1) := by decide +kernel
theorem dX11_closes_157 : decode cX11_closes 157 = .ok (.iconst 1, 1) := by decide +kernel
theorem dX11_closes_158 : decode cX11_closes 158 = .ok (.iadd, 1) := by decide +kernel
theorem dX11_closes_159 : decode cX11_closes 159 = .ok (.invokevirtual 294, 3) := by decide +kernel
theorem dX11_closes_162 : decode cX11_closes 162 = .ok (.pop, 1) := by decide +kernel
theorem dX11_closes_163 : decode cX11_closes 163 = .ok (.iinc 2 1, 3) := by decide +kernel
theorem dX11_closes_166 : decode cX11_closes 166 = .ok (.goto (-157), 3) := by decide +kernel
theorem dX11_closes_169 : decode cX11_closes 169 = .ok (.return_, 1) := by decide +kernel
noncomputable def f_X11_worked_186 (fu : Nat) (m : hM) : Option (Int32 × hM) :=
  some (gI m 118 0, m)
set_option maxRecDepth 100000 in
set_option maxHeartbeats 4000000 in
theorem r_X11_worked_186 {G : hG} {X : hX} (C : Cx G X 7 cX11_worked 7 RX11 (some .int)) (K : Cr G X) (fu : Nat) (m : hM) : Rf vI G X 186 [(0, hA G 96)] [] m (f_X11_worked_186 fu m) := by
  unfold f_X11_worked_186
  refine rf_aload_n C (n := 187) (q := 0) dX11_worked_186 rfl rfl rfl ?_
  refine rf_getS C (n := 190) fl_RX11_246 ly_96 rfl dX11_worked_187 rfl ?_
  refine rf_iconst C (n := 191) (v := 0) dX11_worked_190 rfl (by decide) ?_
  refine rf_iald C (n := 192) (j := 0) ly_118 (by decide) (by decide) dX11_worked_191 rfl ?_
  exact rf_iret C K dX11_worked_192
noncomputable def f_X11_worked_180 (fu : Nat) (k6 : Int32 → Int32 → Int32 → Int32 → Int32 → hM → Option (Int32 × hM)) (x1 : Int32) (x2 : Int32) (x3 : Int32) (x4 : Int32) (x5 : Int32) (m : hM) : Option (Int32 × hM) :=
  hLet (x5 + 1) fun y14 =>
k6 x1 x2 x3 x4 y14 m
set_option maxRecDepth 100000 in
set_option maxHeartbeats 4000000 in
theorem r_X11_worked_180 {G : hG} {X : hX} (C : Cx G X 7 cX11_worked 7 RX11 (some .int)) (K : Cr G X) (fu : Nat) (k6 : Int32 → Int32 → Int32 → Int32 → Int32 → hM → Option (Int32 × hM)) (hk6 : ∀ (x1 : Int32) (x2 : Int32) (x3 : Int32) (x4 : Int32) (x5 : Int32) (m : hM), Rf vI G X 6 [(0, hA G 96), (1, .int x1), (2, .int x2), (3, .int x3), (4, .int x4), (5, .int x5)] [] m (k6 x1 x2 x3 x4 x5 m)) (x1 : Int32) (x2 : Int32) (x3 : Int32) (x4 : Int32) (x5 : Int32) (m : hM) : Rf vI G X 180 [(0, hA G 96), (1, .int x1), (2, .int x2), (3, .int x3), (4, .int x4), (5, .int x5)] [] m (f_X11_worked_180 fu k6 x1 x2 x3 x4 x5 m) := by
  unfold f_X11_worked_180
  refine rf_iinc2 C (n := 183) (q := 5) (fun y14 => [(5, .int y14), (0, hA G 96), (1, .int x1), (2, .int x2), (3, .int x3), (4, .int x4)]) dX11_worked_180 rfl rfl (by decide) (by decide) (fun _ => rfl) (fun y14 => ?_)
  refine rf_goto C (n := 6) dX11_worked_183 (by decide) ?_
  exact rf_lv _ [1, 2, 3, 4, 5, 0] rfl (hk6 _ _ _ _ _ _)
noncomputable def f_X11_worked_106 (fu : Nat) (k6 : Int32 → Int32 → Int32 → Int32 → Int32 → hM → Option (Int32 × hM)) (x1 : Int32) (x2 : Int32) (x3 : Int32) (x4 : Int32) (x5 : Int32) (s1 : Int32) (s2 : Int32) (m : hM) : Option (Int32 × hM) :=
  hBd (f_X11_flag fu s2 m) fun y20 m21 =>
if hIn s1 48 then (
hLet (sI m21 118 (Int32.toNatClampNeg s1) y20) fun m23 =>
f_X11_worked_180 fu k6 x1 x2 x3 x4 x5 m23) else none
set_option maxRecDepth 100000 in
set_option maxHeartbeats 4000000 in
theorem r_X11_worked_106 {G : hG} {X : hX} (C : Cx G X 7 cX11_worked 7 RX11 (some .int)) (K : Cr G X) (fu : Nat) (k6 : Int32 → Int32 → Int32 → Int32 → Int32 → hM → Option (Int32 × hM)) (hk6 : ∀ (x1 : Int32) (x2 : Int32) (x3 : Int32) (x4 : Int32) (x5 : Int32) (m : hM), Rf vI G X 6 [(0, hA G 96), (1, .int x1), (2, .int x2), (3, .int x3), (4, .int x4), (5, .int x5)] [] m (k6 x1 x2 x3 x4 x5 m)) (x1 : Int32) (x2 : Int32) (x3 : Int32) (x4 : Int32) (x5 : Int32) (s1 : Int32) (s2 : Int32) (m : hM) : Rf vI G X 106 [(0, hA G 96), (1, .int x1), (2, .int x2), (3, .int x3), (4, .int x4), (5, .int x5)] [.int s2, .int s1, hA G 118] m (f_X11_worked_106 fu k6 x1 x2 x3 x4 x5 s1 s2 m) := by
  unfold f_X11_worked_106
  refine rf_callSi C (n := 109) (c_X11_flag G fu _ _) sw_RX11_124 ⟨by decide, by decide⟩ rfl (Nat.le_of_ble_eq_true rfl) rfl dX11_worked_106 rfl (fun y20 m21 => ?_)
  refine rf_guard (fun h22 => ?_)
  refine rf_iast C (n := 110) ly_118 h22 rfl dX11_worked_109 rfl ?_
  refine rf_letM (fun m23 => ?_)
  refine rf_goto C (n := 180) dX11_worked_110 (by decide) ?_
  exact rf_lv _ [0, 1, 2, 3, 4, 5] rfl (r_X11_worked_180 C K fu _ hk6 _ _ _ _ _ _)
noncomputable def f_X11_worked_66 (fu : Nat) (k6 : Int32 → Int32 → Int32 → Int32 → Int32 → hM → Option (Int32 × hM)) (x1 : Int32) (x2 : Int32) (x3 : Int32) (x4 : Int32) (x5 : Int32) (s1 : Int32) (s2 : Int32) (m : hM) : Option (Int32 × hM) :=
  if hIn s1 48 then (
hLet (sI m 118 (Int32.toNatClampNeg s1) s2) fun m28 =>
hLet (x4 + 1) fun y29 =>
f_X11_worked_180 fu k6 x1 x2 x3 y29 x5 m28) else none
set_option maxRecDepth 100000 in
set_option maxHeartbeats 4000000 in
theorem r_X11_worked_66 {G : hG} {X : hX} (C : Cx G X 7 cX11_worked 7 RX11 (some .int)) (K : Cr G X) (fu : Nat) (k6 : Int32 → Int32 → Int32 → Int32 → Int32 → hM → Option (Int32 × hM)) (hk6 : ∀ (x1 : Int32) (x2 : Int32) (x3 : Int32) (x4 : Int32) (x5 : Int32) (m : hM), Rf vI G X 6 [(0, hA G 96), (1, .int x1), (2, .int x2), (3, .int x3), (4, .int x4), (5, .int x5)] [] m (k6 x1 x2 x3 x4 x5 m)) (x1 : Int32) (x2 : Int32) (x3 : Int32) (x4 : Int32) (x5 : Int32) (s1 : Int32) (s2 : Int32) (m : hM) : Rf vI G X 66 [(0, hA G 96), (1, .int x1), (2, .int x2), (3, .int x3), (4, .int x4), (5, .int x5)] [.int s2, .int s1, hA G 118] m (f_X11_worked_66 fu k6 x1 x2 x3 x4 x5 s1 s2 m) := by
  unfold f_X11_worked_66
  refine rf_guard (fun h27 => ?_)
  refine rf_iast C (n := 67) ly_118 h27 rfl dX11_worked_66 rfl ?_
  refine rf_letM (fun m28 => ?_)
  refine rf_iinc2 C (n := 70) (q := 4) (fun y29 => [(4, .int y29), (0, hA G 96), (1, .int x1), (2, .int x2), (3, .int x3), (5, .int x5)]) dX11_worked_67 rfl rfl (by decide) (by decide) (fun _ => rfl) (fun y29 => ?_)
  refine rf_goto C (n := 180) dX11_worked_70 (by decide) ?_
  exact rf_lv _ [1, 2, 3, 4, 0, 5] rfl (r_X11_worked_180 C K fu _ hk6 _ _ _ _ _ _)
noncomputable def s_X11_worked_6 (fu : Nat) (ih : Int32 → Int32 → Int32 → Int32 → Int32 → hM → Option (Int32 × hM)) (x1 : Int32) (x2 : Int32) (x3 : Int32) (x4 : Int32) (x5 : Int32) (m : hM) : Option (Int32 × hM) :=
  if (gI m 117 0) ≤ x5 then (
f_X11_worked_186 fu m) else (
if hIn x5 96 then (
hLet (gI m 116 (Int32.toNatClampNeg x5)) fun y3 =>
if 2000 ≤ y3 then (
if ¬ y3 = 2033 then (
if ¬ y3 = 2126 then (
hLet (x4 + (-1)) fun y7 =>
if hIn (y7 - 1) 48 then (
if hIn y7 48 then (
hBd (f_X11_acted fu (y3 - 2000) (gI m 118 (Int32.toNatClampNeg (y7 - 1))) (gI m 118 (Int32.toNatClampNeg y7)) m) fun y10 m11 =>
if hIn (y7 - 1) 48 then (
hLet (sI m11 118 (Int32.toNatClampNeg (y7 - 1)) y10) fun m13 =>
f_X11_worked_180 fu ih x1 x2 x3 y7 x5 m13) else none) else none) else none) else (
if hIn (x4 - 1) 48 then (
if hIn (x4 - 1) 48 then (
hLet (sI m 118 (Int32.toNatClampNeg (x4 - 1)) (-(gI m 118 (Int32.toNatClampNeg (x4 - 1))))) fun m17 =>
f_X11_worked_180 fu ih x1 x2 x3 x4 x5 m17) else none) else none)) else (
if hIn (x4 - 1) 48 then (
if ¬ (gI m 118 (Int32.toNatClampNeg (x4 - 1))) = 0 then (
f_X11_worked_106 fu ih x1 x2 x3 x4 x5 (x4 - 1) 0 m) else (
f_X11_worked_106 fu ih x1 x2 x3 x4 x5 (x4 - 1) 1 m)) else none)) else (
if 1000 ≤ y3 then (
hBd (f_X11_valueOf fu (y3 - 1000) x1 x2 x3 m) fun y25 m26 =>
f_X11_worked_66 fu ih x1 x2 x3 x4 x5 x4 y25 m26) else (
f_X11_worked_66 fu ih x1 x2 x3 x4 x5 x4 y3 m))) else none)
noncomputable def f_X11_worked_6 (fu : Nat) (n : Nat) : Int32 → Int32 → Int32 → Int32 → Int32 → hM → Option (Int32 × hM) :=
  Nat.rec (motive := fun _ => Int32 → Int32 → Int32 → Int32 → Int32 → hM → Option (Int32 × hM)) (fun _ _ _ _ _ _ => none) (fun _ ih => s_X11_worked_6 fu ih) n
theorem f_X11_worked_6_s (fu : Nat) (n : Nat) (x1 : Int32) (x2 : Int32) (x3 : Int32) (x4 : Int32) (x5 : Int32) (m : hM) : f_X11_worked_6 fu (n + 1) x1 x2 x3 x4 x5 m = s_X11_worked_6 fu (f_X11_worked_6 fu n) x1 x2 x3 x4 x5 m := rfl
set_option maxRecDepth 100000 in
set_option maxHeartbeats 4000000 in
theorem r_X11_worked_6 {G : hG} {X : hX} (C : Cx G X 7 cX11_worked 7 RX11 (some .int)) (K : Cr G X) (fu : Nat) (n : Nat) : ∀ (x1 : Int32) (x2 : Int32) (x3 : Int32) (x4 : Int32) (x5 : Int32) (m : hM), Rf vI G X 6 [(0, hA G 96), (1, .int x1), (2, .int x2), (3, .int x3), (4, .int x4), (5, .int x5)] [] m (f_X11_worked_6 fu n x1 x2 x3 x4 x5 m) := by
  induction n with
  | zero => intros; exact rf_none
  | succ n ih =>
    intro x1 x2 x3 x4 x5 m
    show Rf vI G X 6 [(0, hA G 96), (1, .int x1), (2, .int x2), (3, .int x3), (4, .int x4), (5, .int x5)] [] m (s_X11_worked_6 fu (f_X11_worked_6 fu n) x1 x2 x3 x4 x5 m)
    unfold s_X11_worked_6
    refine rf_iload C (n := 8) (q := 5) dX11_worked_6 rfl rfl ?_
    refine rf_aload_n C (n := 9) (q := 0) dX11_worked_8 rfl rfl rfl ?_
    refine rf_getS C (n := 12) fl_RX11_199 ly_96 rfl dX11_worked_9 rfl ?_
    refine rf_iconst C (n := 13) (v := 0) dX11_worked_12 rfl (by decide) ?_
    refine rf_iald C (n := 14) (j := 0) ly_117 (by decide) (by decide) dX11_worked_13 rfl ?_
    refine rf_icmp_ge C (tgt := 186) (n := 17) dX11_worked_14 (by decide) rfl (fun h1 => ?_) (fun h1 => ?_)
    · exact rf_lv _ [0] rfl (r_X11_worked_186 C K fu _)
    · refine rf_aload_n C (n := 18) (q := 0) dX11_worked_17 rfl rfl rfl ?_
      refine rf_getS C (n := 21) fl_RX11_196 ly_96 rfl dX11_worked_18 rfl ?_
      refine rf_iload C (n := 23) (q := 5) dX11_worked_21 rfl rfl ?_
      refine rf_guard (fun h2 => ?_)
      refine rf_iald C (n := 24) ly_116 h2 rfl dX11_worked_23 rfl ?_
      refine rf_letI (fun y3 => ?_)
      refine rf_istore C (n := 26) [(6, .int y3), (0, hA G 96), (1, .int x1), (2, .int x2), (3, .int x3), (4, .int x4), (5, .int x5)] dX11_worked_24 rfl (by decide) rfl ?_
      refine rf_iload C (n := 28) (q := 0) dX11_worked_26 rfl rfl ?_
      refine rf_sipush C (n := 31) (v := 2000) dX11_worked_28 rfl (by decide) ?_
      refine rf_icmp_ge C (tgt := 73) (n := 34) dX11_worked_31 (by decide) rfl (fun h4 => ?_) (fun h4 => ?_)
      · refine rf_iload C (n := 75) (q := 0) dX11_worked_73 rfl rfl ?_
        refine rf_sipush C (n := 78) (v := 2033) dX11_worked_75 rfl (by decide) ?_
        refine rf_icmp_ne C (tgt := 113) (n := 81) dX11_worked_78 (by decide) rfl (fun h5 => ?_) (fun h5 => ?_)
        · refine rf_iload C (n := 115) (q := 0) dX11_worked_113 rfl rfl ?_
          refine rf_sipush C (n := 118) (v := 2126) dX11_worked_115 rfl (by decide) ?_
          refine rf_icmp_ne C (tgt := 143) (n := 121) dX11_worked_118 (by decide) rfl (fun h6 => ?_) (fun h6 => ?_)
          · refine rf_iinc2 C (n := 146) (q := 5) (fun y7 => [(4, .int y7), (6, .int y3), (0, hA G 96), (1, .int x1), (2, .int x2), (3, .int x3), (5, .int x5)]) dX11_worked_143 rfl rfl (by decide) (by decide) (fun _ => rfl) (fun y7 => ?_)
            refine rf_aload_n C (n := 147) (q := 2) dX11_worked_146 rfl rfl rfl ?_
            refine rf_getS C (n := 150) fl_RX11_246 ly_96 rfl dX11_worked_147 rfl ?_
            refine rf_iload C (n := 152) (q := 0) dX11_worked_150 rfl rfl ?_
            refine rf_iconst C (n := 153) (v := 1) dX11_worked_152 rfl (by decide) ?_
            refine rf_isub C (n := 154) dX11_worked_153 rfl ?_
            refine rf_iload C (n := 156) (q := 1) dX11_worked_154 rfl rfl ?_
            refine rf_sipush C (n := 159) (v := 2000) dX11_worked_156 rfl (by decide) ?_
            refine rf_isub C (n := 160) dX11_worked_159 rfl ?_
            refine rf_aload_n C (n := 161) (q := 2) dX11_worked_160 rfl rfl rfl ?_
            refine rf_getS C (n := 164) fl_RX11_246 ly_96 rfl dX11_worked_161 rfl ?_
            refine rf_iload C (n := 166) (q := 0) dX11_worked_164 rfl rfl ?_
            refine rf_iconst C (n := 167) (v := 1) dX11_worked_166 rfl (by decide) ?_
            refine rf_isub C (n := 168) dX11_worked_167 rfl ?_
            refine rf_guard (fun h8 => ?_)
            refine rf_iald C (n := 169) ly_118 h8 rfl dX11_worked_168 rfl ?_
            refine rf_aload_n C (n := 170) (q := 2) dX11_worked_169 rfl rfl rfl ?_
            refine rf_getS C (n := 173) fl_RX11_246 ly_96 rfl dX11_worked_170 rfl ?_
            refine rf_iload C (n := 175) (q := 0) dX11_worked_173 rfl rfl ?_
            refine rf_guard (fun h9 => ?_)
            refine rf_iald C (n := 176) ly_118 h9 rfl dX11_worked_175 rfl ?_
            refine rf_callSi C (n := 179) (c_X11_acted G fu _ _ _ _) sw_RX11_253 ⟨by decide, by decide⟩ rfl (Nat.le_of_ble_eq_true rfl) rfl dX11_worked_176 rfl (fun y10 m11 => ?_)
            refine rf_guard (fun h12 => ?_)
            refine rf_iast C (n := 180) ly_118 h12 rfl dX11_worked_179 rfl ?_
            refine rf_letM (fun m13 => ?_)
            exact rf_lv _ [2, 3, 4, 5, 0, 6] rfl (r_X11_worked_180 C K fu _ ih _ _ _ _ _ _)
          · refine rf_aload_n C (n := 122) (q := 1) dX11_worked_121 rfl rfl rfl ?_
            refine rf_getS C (n := 125) fl_RX11_246 ly_96 rfl dX11_worked_122 rfl ?_
            refine rf_iload C (n := 127) (q := 5) dX11_worked_125 rfl rfl ?_
            refine rf_iconst C (n := 128) (v := 1) dX11_worked_127 rfl (by decide) ?_
            refine rf_isub C (n := 129) dX11_worked_128 rfl ?_
            refine rf_aload_n C (n := 130) (q := 1) dX11_worked_129 rfl rfl rfl ?_
            refine rf_getS C (n := 133) fl_RX11_246 ly_96 rfl dX11_worked_130 rfl ?_
            refine rf_iload C (n := 135) (q := 5) dX11_worked_133 rfl rfl ?_
            refine rf_iconst C (n := 136) (v := 1) dX11_worked_135 rfl (by decide) ?_
            refine rf_isub C (n := 137) dX11_worked_136 rfl ?_
            refine rf_guard (fun h15 => ?_)
            refine rf_iald C (n := 138) ly_118 h15 rfl dX11_worked_137 rfl ?_
            refine rf_ineg C (n := 139) dX11_worked_138 rfl ?_
            refine rf_guard (fun h16 => ?_)
            refine rf_iast C (n := 140) ly_118 h16 rfl dX11_worked_139 rfl ?_
            refine rf_letM (fun m17 => ?_)
            refine rf_goto C (n := 180) dX11_worked_140 (by decide) ?_
            exact rf_lv _ [1, 2, 3, 4, 5, 6] rfl (r_X11_worked_180 C K fu _ ih _ _ _ _ _ _)
        · refine rf_aload_n C (n := 82) (q := 1) dX11_worked_81 rfl rfl rfl ?_
          refine rf_getS C (n := 85) fl_RX11_246 ly_96 rfl dX11_worked_82 rfl ?_
          refine rf_iload C (n := 87) (q := 5) dX11_worked_85 rfl rfl ?_
          refine rf_iconst C (n := 88) (v := 1) dX11_worked_87 rfl (by decide) ?_
          refine rf_isub C (n := 89) dX11_worked_88 rfl ?_
          refine rf_aload_n C (n := 90) (q := 1) dX11_worked_89 rfl rfl rfl ?_
          refine rf_getS C (n := 93) fl_RX11_246 ly_96 rfl dX11_worked_90 rfl ?_
          refine rf_iload C (n := 95) (q := 5) dX11_worked_93 rfl rfl ?_
          refine rf_iconst C (n := 96) (v := 1) dX11_worked_95 rfl (by decide) ?_
          refine rf_isub C (n := 97) dX11_worked_96 rfl ?_
          refine rf_guard (fun h18 => ?_)
          refine rf_iald C (n := 98) ly_118 h18 rfl dX11_worked_97 rfl ?_
          refine rf_if_ne C (tgt := 105) (n := 101) dX11_worked_98 (by decide) rfl (fun h19 => ?_) (fun h19 => ?_)
          · refine rf_iconst C (n := 106) (v := 0) dX11_worked_105 rfl (by decide) ?_
            exact rf_lv _ [1, 2, 3, 4, 5, 6] rfl (r_X11_worked_106 C K fu _ ih _ _ _ _ _ _ _ _)
          · refine rf_iconst C (n := 102) (v := 1) dX11_worked_101 rfl (by decide) ?_
            refine rf_goto C (n := 106) dX11_worked_102 (by decide) ?_
            exact rf_lv _ [1, 2, 3, 4, 5, 6] rfl (r_X11_worked_106 C K fu _ ih _ _ _ _ _ _ _ _)
      · refine rf_aload_n C (n := 35) (q := 1) dX11_worked_34 rfl rfl rfl ?_
        refine rf_getS C (n := 38) fl_RX11_246 ly_96 rfl dX11_worked_35 rfl ?_
        refine rf_iload C (n := 40) (q := 5) dX11_worked_38 rfl rfl ?_
        refine rf_iload C (n := 42) (q := 0) dX11_worked_40 rfl rfl ?_
        refine rf_sipush C (n := 45) (v := 1000) dX11_worked_42 rfl (by decide) ?_
        refine rf_icmp_ge C (tgt := 53) (n := 48) dX11_worked_45 (by decide) rfl (fun h24 => ?_) (fun h24 => ?_)
        · refine rf_aload_n C (n := 54) (q := 1) dX11_worked_53 rfl rfl rfl ?_
          refine rf_iload C (n := 56) (q := 0) dX11_worked_54 rfl rfl ?_
          refine rf_sipush C (n := 59) (v := 1000) dX11_worked_56 rfl (by decide) ?_
          refine rf_isub C (n := 60) dX11_worked_59 rfl ?_
          refine rf_iload_n C (n := 61) (q := 2) dX11_worked_60 rfl rfl rfl ?_
          refine rf_iload_n C (n := 62) (q := 3) dX11_worked_61 rfl rfl rfl ?_
          refine rf_iload_n C (n := 63) (q := 4) dX11_worked_62 rfl rfl rfl ?_
          refine rf_callVi C (n := 66) (c_X11_valueOf G fu _ _ _ _ _) mw_RX11_249 ly_96 rfl ⟨by decide, by decide⟩ rfl (Nat.le_of_ble_eq_true rfl) rfl dX11_worked_63 rfl (fun y25 m26 => ?_)
          exact rf_lv _ [1, 2, 3, 4, 5, 6] rfl (r_X11_worked_66 C K fu _ ih _ _ _ _ _ _ _ _)
        · refine rf_iload C (n := 50) (q := 0) dX11_worked_48 rfl rfl ?_
          refine rf_goto C (n := 66) dX11_worked_50 (by decide) ?_
          exact rf_lv _ [1, 2, 3, 4, 5, 6] rfl (r_X11_worked_66 C K fu _ ih _ _ _ _ _ _ _ _)
noncomputable def f_X11_worked (fu : Nat) (x1 : Int32) (x2 : Int32) (x3 : Int32) (m : hM) : Option (Int32 × hM) :=
  f_X11_worked_6 fu fu x1 x2 x3 0 0 m
set_option maxRecDepth 100000 in
set_option maxHeartbeats 4000000 in
theorem c_X11_worked (G : hG) (fu : Nat) (x1 : Int32) (x2 : Int32) (x3 : Int32) (m : hM) : Mt vI G 7 yX11_worked cX11_worked 7 (some .int) [hA G 96, .int x1, .int x2, .int x3] m (f_X11_worked fu x1 x2 x3 m) := by
  refine mt_of (by decide +kernel) (Nat.le_of_ble_eq_true rfl) (fun X C K => ?_)
  have C : Cx G X 7 cX11_worked 7 RX11 (some .int) := C
  show Rf vI G X 0 [(0, hA G 96), (1, .int x1), (2, .int x2), (3, .int x3)] [] m _
  unfold f_X11_worked
  refine rf_iconst C (n := 1) (v := 0) dX11_worked_0 rfl (by decide) ?_
  refine rf_istore C (n := 3) [(4, .int 0), (0, hA G 96), (1, .int x1), (2, .int x2), (3, .int x3)] dX11_worked_1 rfl (by decide) rfl ?_
  refine rf_iconst C (n := 4) (v := 0) dX11_worked_3 rfl (by decide) ?_
  refine rf_istore C (n := 6) [(5, .int 0), (4, .int 0), (0, hA G 96), (1, .int x1), (2, .int x2), (3, .int x3)] dX11_worked_4 rfl (by decide) rfl ?_
  exact rf_lv _ [2, 3, 4, 5, 1, 0] rfl (r_X11_worked_6 C K fu fu _ _ _ _ _ _)
noncomputable def f_X11_isPiece (fu : Nat) (x1 : Int32) (m : hM) : Option (Int32 × hM) :=
  hBd (f_X11_in fu (Int32.toInt64 x1) 0 (Int32.toInt64 ((gI m 96 16) - 1)) m) fun y1 m2 =>
if y1 = 0 ∨ y1 = 1 then (
some (y1, m2)) else none
set_option maxRecDepth 100000 in
set_option maxHeartbeats 4000000 in
theorem c_X11_isPiece (G : hG) (fu : Nat) (x1 : Int32) (m : hM) : Mt vI G 2 yX11_isPiece cX11_isPiece 2 (some .boolean) [hA G 96, .int x1] m (f_X11_isPiece fu x1 m) := by
  refine mt_of (by decide +kernel) (Nat.le_of_ble_eq_true rfl) (fun X C K => ?_)
  have C : Cx G X 2 cX11_isPiece 2 RX11 (some .boolean) := C
  show Rf vI G X 0 [(0, hA G 96), (1, .int x1)] [] m _
  unfold f_X11_isPiece
  refine rf_iload_n C (n := 1) (q := 1) dX11_isPiece_0 rfl rfl rfl ?_
  refine rf_i2l C (n := 2) dX11_isPiece_1 rfl ?_
  refine rf_lconst C (n := 3) (v := 0) dX11_isPiece_2 rfl (by decide) ?_
  refine rf_aload_n C (n := 4) (q := 0) dX11_isPiece_3 rfl rfl rfl ?_
  refine rf_getI C (n := 7) fl_RX11_151 ly_96 rfl dX11_isPiece_4 rfl ?_
  refine rf_iconst C (n := 8) (v := 1) dX11_isPiece_7 rfl (by decide) ?_
  refine rf_isub C (n := 9) dX11_isPiece_8 rfl ?_
  refine rf_i2l C (n := 10) dX11_isPiece_9 rfl ?_
  refine rf_callSi C (n := 13) (c_X11_in G fu _ _ _ _) sw_RX11_25 ⟨by decide, by decide⟩ rfl (Nat.le_of_ble_eq_true rfl) rfl dX11_isPiece_10 rfl (fun y1 m2 => ?_)
  refine rf_guard (fun h3 => ?_)
  exact rf_zret C K (hz_bool h3).1 dX11_isPiece_13
noncomputable def f_X11_value_30 (fu : Nat) (m : hM) : Option (Int32 × hM) :=
  hBd (f_X11_refuse fu m) fun y5 m6 =>
some (y5, m6)
set_option maxRecDepth 100000 in
set_option maxHeartbeats 4000000 in
theorem r_X11_value_30 {G : hG} {X : hX} (C : Cx G X 8 cX11_value 3 RX11 (some .int)) (K : Cr G X) (fu : Nat) (m : hM) : Rf vI G X 30 [(0, hA G 96)] [] m (f_X11_value_30 fu m) := by
  unfold f_X11_value_30
  refine rf_aload_n C (n := 31) (q := 0) dX11_value_30 rfl rfl rfl ?_
  refine rf_callVi C (n := 34) (c_X11_refuse G fu _) mw_RX11_259 ly_96 rfl ⟨by decide, by decide⟩ rfl (Nat.le_of_ble_eq_true rfl) rfl dX11_value_31 rfl (fun y5 m6 => ?_)
  exact rf_iret C K dX11_value_34
noncomputable def f_X11_value (fu : Nat) (x1 : Int32) (x2 : Int32) (m : hM) : Option (Int32 × hM) :=
  hLet (sI m 96 0 0) fun m1 =>
hBd (f_X11_isPiece fu x1 m1) fun y2 m3 =>
if y2 = 0 then (
f_X11_value_30 fu m3) else (
hBd (f_X11_isOffice fu x2 m3) fun y7 m8 =>
if y7 = 0 then (
f_X11_value_30 fu m8) else (
if ¬ (gI m8 117 0) = 0 then (
hBd (f_X11_worked fu x1 x2 ((gI m8 114 0) + 1) m8) fun y11 m12 =>
some (y11, m12)) else (
f_X11_value_30 fu m8)))
set_option maxRecDepth 100000 in
set_option maxHeartbeats 4000000 in
theorem c_X11_value (G : hG) (fu : Nat) (x1 : Int32) (x2 : Int32) (m : hM) : Mt vI G 8 yX11_value cX11_value 3 (some .int) [hA G 96, .int x1, .int x2] m (f_X11_value fu x1 x2 m) := by
  refine mt_of (by decide +kernel) (Nat.le_of_ble_eq_true rfl) (fun X C K => ?_)
  have C : Cx G X 8 cX11_value 3 RX11 (some .int) := C
  show Rf vI G X 0 [(0, hA G 96), (1, .int x1), (2, .int x2)] [] m _
  unfold f_X11_value
  refine rf_aload_n C (n := 1) (q := 0) dX11_value_0 rfl rfl rfl ?_
  refine rf_iconst C (n := 2) (v := 0) dX11_value_1 rfl (by decide) ?_
  refine rf_putI C (n := 5) pl_RX11_3 ly_96 rfl ⟨rfl, rfl⟩ dX11_value_2 rfl ?_
  refine rf_letM (fun m1 => ?_)
  refine rf_aload_n C (n := 6) (q := 0) dX11_value_5 rfl rfl rfl ?_
  refine rf_iload_n C (n := 7) (q := 1) dX11_value_6 rfl rfl rfl ?_
  refine rf_callVi C (n := 10) (c_X11_isPiece G fu _ _) mw_RX11_256 ly_96 rfl ⟨by decide, by decide⟩ rfl (Nat.le_of_ble_eq_true rfl) rfl dX11_value_7 rfl (fun y2 m3 => ?_)
  refine rf_if_eq C (tgt := 30) (n := 13) dX11_value_10 (by decide) rfl (fun h4 => ?_) (fun h4 => ?_)
  · exact rf_lv _ [0] rfl (r_X11_value_30 C K fu _)
  · refine rf_aload_n C (n := 14) (q := 0) dX11_value_13 rfl rfl rfl ?_
    refine rf_iload_n C (n := 15) (q := 2) dX11_value_14 rfl rfl rfl ?_
    refine rf_callVi C (n := 18) (c_X11_isOffice G fu _ _) mw_RX11_77 ly_96 rfl ⟨by decide, by decide⟩ rfl (Nat.le_of_ble_eq_true rfl) rfl dX11_value_15 rfl (fun y7 m8 => ?_)
    refine rf_if_eq C (tgt := 30) (n := 21) dX11_value_18 (by decide) rfl (fun h9 => ?_) (fun h9 => ?_)
    · exact rf_lv _ [0] rfl (r_X11_value_30 C K fu _)
    · refine rf_aload_n C (n := 22) (q := 0) dX11_value_21 rfl rfl rfl ?_
      refine rf_getS C (n := 25) fl_RX11_199 ly_96 rfl dX11_value_22 rfl ?_
      refine rf_iconst C (n := 26) (v := 0) dX11_value_25 rfl (by decide) ?_
      refine rf_iald C (n := 27) (j := 0) ly_117 (by decide) (by decide) dX11_value_26 rfl ?_
      refine rf_if_ne C (tgt := 35) (n := 30) dX11_value_27 (by decide) rfl (fun h10 => ?_) (fun h10 => ?_)
      · refine rf_aload_n C (n := 36) (q := 0) dX11_value_35 rfl rfl rfl ?_
        refine rf_iload_n C (n := 37) (q := 1) dX11_value_36 rfl rfl rfl ?_
        refine rf_iload_n C (n := 38) (q := 2) dX11_value_37 rfl rfl rfl ?_
        refine rf_aload_n C (n := 39) (q := 0) dX11_value_38 rfl rfl rfl ?_
        refine rf_getS C (n := 42) fl_RX11_140 ly_96 rfl dX11_value_39 rfl ?_
        refine rf_iconst C (n := 43) (v := 0) dX11_value_42 rfl (by decide) ?_
        refine rf_iald C (n := 44) (j := 0) ly_114 (by decide) (by decide) dX11_value_43 rfl ?_
        refine rf_iconst C (n := 45) (v := 1) dX11_value_44 rfl (by decide) ?_
        refine rf_iadd C (n := 46) dX11_value_45 rfl ?_
        refine rf_callVi C (n := 49) (c_X11_worked G fu _ _ _ _) mw_RX11_262 ly_96 rfl ⟨by decide, by decide⟩ rfl (Nat.le_of_ble_eq_true rfl) rfl dX11_value_46 rfl (fun y11 m12 => ?_)
        exact rf_iret C K dX11_value_49
      · exact rf_lv _ [0] rfl (r_X11_value_30 C K fu _)
noncomputable def f_X11_isDone (fu : Nat) (x1 : Int32) (m : hM) : Option (Int32 × hM) :=
  if hIn (35 + x1) 127 then (
if (gI m 114 (Int32.toNatClampNeg (35 + x1))) < 0 then (
some (0, m)) else (
some (1, m))) else none
set_option maxRecDepth 100000 in
set_option maxHeartbeats 4000000 in
theorem c_X11_isDone (G : hG) (fu : Nat) (x1 : Int32) (m : hM) : Mt vI G 1 yX11_isDone cX11_isDone 2 (some .boolean) [hA G 96, .int x1] m (f_X11_isDone fu x1 m) := by
  refine mt_of (by decide +kernel) (Nat.le_of_ble_eq_true rfl) (fun X C K => ?_)
  have C : Cx G X 1 cX11_isDone 2 RX11 (some .boolean) := C
  show Rf vI G X 0 [(0, hA G 96), (1, .int x1)] [] m _
  unfold f_X11_isDone
  refine rf_aload_n C (n := 1) (q := 0) dX11_isDone_0 rfl rfl rfl ?_
  refine rf_getS C (n := 4) fl_RX11_140 ly_96 rfl dX11_isDone_1 rfl ?_
  refine rf_bipush C (n := 6) (v := 35) dX11_isDone_4 rfl (by decide) ?_
  refine rf_iload_n C (n := 7) (q := 1) dX11_isDone_6 rfl rfl rfl ?_
  refine rf_iadd C (n := 8) dX11_isDone_7 rfl ?_
  refine rf_guard (fun h1 => ?_)
  refine rf_iald C (n := 9) ly_114 h1 rfl dX11_isDone_8 rfl ?_
  refine rf_if_lt C (tgt := 16) (n := 12) dX11_isDone_9 (by decide) rfl (fun h2 => ?_) (fun h2 => ?_)
  · refine rf_iconst C (n := 17) (v := 0) dX11_isDone_16 rfl (by decide) ?_
    exact rf_zret C K (by decide) dX11_isDone_17
  · refine rf_iconst C (n := 13) (v := 1) dX11_isDone_12 rfl (by decide) ?_
    refine rf_goto C (n := 17) dX11_isDone_13 (by decide) ?_
    exact rf_zret C K (by decide) dX11_isDone_17
noncomputable def f_X11_isReady_51 (fu : Nat) (k16 : Int32 → Int32 → Int32 → hM → Option (Int32 × hM)) (x1 : Int32) (x3 : Int32) (s0 : Int32) (m : hM) : Option (Int32 × hM) :=
  hLet (x3 + 1) fun y7 =>
k16 x1 s0 y7 m
set_option maxRecDepth 100000 in
set_option maxHeartbeats 4000000 in
theorem r_X11_isReady_51 {G : hG} {X : hX} (C : Cx G X 2 cX11_isReady 4 RX11 (some .boolean)) (K : Cr G X) (fu : Nat) (k16 : Int32 → Int32 → Int32 → hM → Option (Int32 × hM)) (hk16 : ∀ (x1 : Int32) (x2 : Int32) (x3 : Int32) (m : hM), Rf vI G X 16 [(0, hA G 96), (1, .int x1), (2, .int x2), (3, .int x3)] [] m (k16 x1 x2 x3 m)) (x1 : Int32) (x3 : Int32) (s0 : Int32) (m : hM) : Rf vI G X 51 [(0, hA G 96), (1, .int x1), (3, .int x3)] [.int s0] m (f_X11_isReady_51 fu k16 x1 x3 s0 m) := by
  unfold f_X11_isReady_51
  refine rf_istore_n C (n := 52) [(2, .int s0), (0, hA G 96), (1, .int x1), (3, .int x3)] dX11_isReady_51 rfl rfl (by decide) rfl ?_
  refine rf_iinc2 C (n := 55) (q := 3) (fun y7 => [(3, .int y7), (2, .int s0), (0, hA G 96), (1, .int x1)]) dX11_isReady_52 rfl rfl (by decide) (by decide) (fun _ => rfl) (fun y7 => ?_)
  refine rf_goto C (n := 16) dX11_isReady_55 (by decide) ?_
  exact rf_lv _ [2, 3, 1, 0] rfl (hk16 _ _ _ _)
noncomputable def f_X11_isReady_50 (fu : Nat) (k16 : Int32 → Int32 → Int32 → hM → Option (Int32 × hM)) (x1 : Int32) (x3 : Int32) (m : hM) : Option (Int32 × hM) :=
  f_X11_isReady_51 fu k16 x1 x3 0 m
set_option maxRecDepth 100000 in
set_option maxHeartbeats 4000000 in
theorem r_X11_isReady_50 {G : hG} {X : hX} (C : Cx G X 2 cX11_isReady 4 RX11 (some .boolean)) (K : Cr G X) (fu : Nat) (k16 : Int32 → Int32 → Int32 → hM → Option (Int32 × hM)) (hk16 : ∀ (x1 : Int32) (x2 : Int32) (x3 : Int32) (m : hM), Rf vI G X 16 [(0, hA G 96), (1, .int x1), (2, .int x2), (3, .int x3)] [] m (k16 x1 x2 x3 m)) (x1 : Int32) (x3 : Int32) (m : hM) : Rf vI G X 50 [(0, hA G 96), (1, .int x1), (3, .int x3)] [] m (f_X11_isReady_50 fu k16 x1 x3 m) := by
  unfold f_X11_isReady_50
  refine rf_iconst C (n := 51) (v := 0) dX11_isReady_50 rfl (by decide) ?_
  exact rf_lv _ [0, 1, 2] rfl (r_X11_isReady_51 C K fu _ hk16 _ _ _ _)
noncomputable def f_X11_isReady_46 (fu : Nat) (k16 : Int32 → Int32 → Int32 → hM → Option (Int32 × hM)) (x1 : Int32) (x3 : Int32) (m : hM) : Option (Int32 × hM) :=
  f_X11_isReady_51 fu k16 x1 x3 1 m
set_option maxRecDepth 100000 in
set_option maxHeartbeats 4000000 in
theorem r_X11_isReady_46 {G : hG} {X : hX} (C : Cx G X 2 cX11_isReady 4 RX11 (some .boolean)) (K : Cr G X) (fu : Nat) (k16 : Int32 → Int32 → Int32 → hM → Option (Int32 × hM)) (hk16 : ∀ (x1 : Int32) (x2 : Int32) (x3 : Int32) (m : hM), Rf vI G X 16 [(0, hA G 96), (1, .int x1), (2, .int x2), (3, .int x3)] [] m (k16 x1 x2 x3 m)) (x1 : Int32) (x3 : Int32) (m : hM) : Rf vI G X 46 [(0, hA G 96), (1, .int x1), (3, .int x3)] [] m (f_X11_isReady_46 fu k16 x1 x3 m) := by
  unfold f_X11_isReady_46
  refine rf_iconst C (n := 47) (v := 1) dX11_isReady_46 rfl (by decide) ?_
  refine rf_goto C (n := 51) dX11_isReady_47 (by decide) ?_
  exact rf_lv _ [0, 1, 2] rfl (r_X11_isReady_51 C K fu _ hk16 _ _ _ _)
noncomputable def s_X11_isReady_16 (fu : Nat) (ih : Int32 → Int32 → Int32 → hM → Option (Int32 × hM)) (x1 : Int32) (x2 : Int32) (x3 : Int32) (m : hM) : Option (Int32 × hM) :=
  if x1 ≤ x3 then (
if x2 = 0 ∨ x2 = 1 then (
some (x2, m)) else none) else (
if x2 = 0 then (
f_X11_isReady_50 fu ih x1 x3 m) else (
if hIn x1 8 then (
hBd (f_X11_has fu (gI m 110 (Int32.toNatClampNeg x1)) x3 m) fun y9 m10 =>
if y9 = 0 then (
f_X11_isReady_46 fu ih x1 x3 m10) else (
hBd (f_X11_isDone fu x3 m10) fun y12 m13 =>
if y12 = 0 then (
f_X11_isReady_50 fu ih x1 x3 m13) else (
f_X11_isReady_46 fu ih x1 x3 m13))) else none))
noncomputable def f_X11_isReady_16 (fu : Nat) (n : Nat) : Int32 → Int32 → Int32 → hM → Option (Int32 × hM) :=
  Nat.rec (motive := fun _ => Int32 → Int32 → Int32 → hM → Option (Int32 × hM)) (fun _ _ _ _ => none) (fun _ ih => s_X11_isReady_16 fu ih) n
theorem f_X11_isReady_16_s (fu : Nat) (n : Nat) (x1 : Int32) (x2 : Int32) (x3 : Int32) (m : hM) : f_X11_isReady_16 fu (n + 1) x1 x2 x3 m = s_X11_isReady_16 fu (f_X11_isReady_16 fu n) x1 x2 x3 m := rfl
set_option maxRecDepth 100000 in
set_option maxHeartbeats 4000000 in
theorem r_X11_isReady_16 {G : hG} {X : hX} (C : Cx G X 2 cX11_isReady 4 RX11 (some .boolean)) (K : Cr G X) (fu : Nat) (n : Nat) : ∀ (x1 : Int32) (x2 : Int32) (x3 : Int32) (m : hM), Rf vI G X 16 [(0, hA G 96), (1, .int x1), (2, .int x2), (3, .int x3)] [] m (f_X11_isReady_16 fu n x1 x2 x3 m) := by
  induction n with
  | zero => intros; exact rf_none
  | succ n ih =>
    intro x1 x2 x3 m
    show Rf vI G X 16 [(0, hA G 96), (1, .int x1), (2, .int x2), (3, .int x3)] [] m (s_X11_isReady_16 fu (f_X11_isReady_16 fu n) x1 x2 x3 m)
    unfold s_X11_isReady_16
    refine rf_iload_n C (n := 17) (q := 3) dX11_isReady_16 rfl rfl rfl ?_
    refine rf_iload_n C (n := 18) (q := 1) dX11_isReady_17 rfl rfl rfl ?_
    refine rf_icmp_ge C (tgt := 58) (n := 21) dX11_isReady_18 (by decide) rfl (fun h4 => ?_) (fun h4 => ?_)
    · refine rf_iload_n C (n := 59) (q := 2) dX11_isReady_58 rfl rfl rfl ?_
      refine rf_guard (fun h5 => ?_)
      exact rf_zret C K (hz_bool h5).1 dX11_isReady_59
    · refine rf_iload_n C (n := 22) (q := 2) dX11_isReady_21 rfl rfl rfl ?_
      refine rf_if_eq C (tgt := 50) (n := 25) dX11_isReady_22 (by decide) rfl (fun h6 => ?_) (fun h6 => ?_)
      · exact rf_lv _ [0, 1, 3] rfl (r_X11_isReady_50 C K fu _ ih _ _ _)
      · refine rf_aload_n C (n := 26) (q := 0) dX11_isReady_25 rfl rfl rfl ?_
        refine rf_getS C (n := 29) fl_RX11_160 ly_96 rfl dX11_isReady_26 rfl ?_
        refine rf_iload_n C (n := 30) (q := 1) dX11_isReady_29 rfl rfl rfl ?_
        refine rf_guard (fun h8 => ?_)
        refine rf_iald C (n := 31) ly_110 h8 rfl dX11_isReady_30 rfl ?_
        refine rf_iload_n C (n := 32) (q := 3) dX11_isReady_31 rfl rfl rfl ?_
        refine rf_callSi C (n := 35) (c_X11_has G fu _ _ _) sw_RX11_137 ⟨by decide, by decide⟩ rfl (Nat.le_of_ble_eq_true rfl) rfl dX11_isReady_32 rfl (fun y9 m10 => ?_)
        refine rf_if_eq C (tgt := 46) (n := 38) dX11_isReady_35 (by decide) rfl (fun h11 => ?_) (fun h11 => ?_)
        · exact rf_lv _ [0, 1, 3] rfl (r_X11_isReady_46 C K fu _ ih _ _ _)
        · refine rf_aload_n C (n := 39) (q := 0) dX11_isReady_38 rfl rfl rfl ?_
          refine rf_iload_n C (n := 40) (q := 3) dX11_isReady_39 rfl rfl rfl ?_
          refine rf_callVi C (n := 43) (c_X11_isDone G fu _ _) mw_RX11_265 ly_96 rfl ⟨by decide, by decide⟩ rfl (Nat.le_of_ble_eq_true rfl) rfl dX11_isReady_40 rfl (fun y12 m13 => ?_)
          refine rf_if_eq C (tgt := 50) (n := 46) dX11_isReady_43 (by decide) rfl (fun h14 => ?_) (fun h14 => ?_)
          · exact rf_lv _ [0, 1, 3] rfl (r_X11_isReady_50 C K fu _ ih _ _ _)
          · exact rf_lv _ [0, 1, 3] rfl (r_X11_isReady_46 C K fu _ ih _ _ _)
noncomputable def f_X11_isReady_13 (fu : Nat) (x1 : Int32) (s0 : Int32) (m : hM) : Option (Int32 × hM) :=
  f_X11_isReady_16 fu fu x1 s0 0 m
set_option maxRecDepth 100000 in
set_option maxHeartbeats 4000000 in
theorem r_X11_isReady_13 {G : hG} {X : hX} (C : Cx G X 2 cX11_isReady 4 RX11 (some .boolean)) (K : Cr G X) (fu : Nat) (x1 : Int32) (s0 : Int32) (m : hM) : Rf vI G X 13 [(0, hA G 96), (1, .int x1)] [.int s0] m (f_X11_isReady_13 fu x1 s0 m) := by
  unfold f_X11_isReady_13
  refine rf_istore_n C (n := 14) [(2, .int s0), (0, hA G 96), (1, .int x1)] dX11_isReady_13 rfl rfl (by decide) rfl ?_
  refine rf_iconst C (n := 15) (v := 0) dX11_isReady_14 rfl (by decide) ?_
  refine rf_istore_n C (n := 16) [(3, .int 0), (2, .int s0), (0, hA G 96), (1, .int x1)] dX11_isReady_15 rfl rfl (by decide) rfl ?_
  exact rf_lv _ [2, 3, 1, 0] rfl (r_X11_isReady_16 C K fu fu _ _ _ _)
noncomputable def f_X11_isReady (fu : Nat) (x1 : Int32) (m : hM) : Option (Int32 × hM) :=
  hBd (f_X11_isDone fu x1 m) fun y1 m2 =>
if ¬ y1 = 0 then (
f_X11_isReady_13 fu x1 0 m2) else (
f_X11_isReady_13 fu x1 1 m2)
set_option maxRecDepth 100000 in
set_option maxHeartbeats 4000000 in
theorem c_X11_isReady (G : hG) (fu : Nat) (x1 : Int32) (m : hM) : Mt vI G 2 yX11_isReady cX11_isReady 4 (some .boolean) [hA G 96, .int x1] m (f_X11_isReady fu x1 m) := by
  refine mt_of (by decide +kernel) (Nat.le_of_ble_eq_true rfl) (fun X C K => ?_)
  have C : Cx G X 2 cX11_isReady 4 RX11 (some .boolean) := C
  show Rf vI G X 0 [(0, hA G 96), (1, .int x1)] [] m _
  unfold f_X11_isReady
  refine rf_aload_n C (n := 1) (q := 0) dX11_isReady_0 rfl rfl rfl ?_
  refine rf_iload_n C (n := 2) (q := 1) dX11_isReady_1 rfl rfl rfl ?_
  refine rf_callVi C (n := 5) (c_X11_isDone G fu _ _) mw_RX11_265 ly_96 rfl ⟨by decide, by decide⟩ rfl (Nat.le_of_ble_eq_true rfl) rfl dX11_isReady_2 rfl (fun y1 m2 => ?_)
  refine rf_if_ne C (tgt := 12) (n := 8) dX11_isReady_5 (by decide) rfl (fun h3 => ?_) (fun h3 => ?_)
  · refine rf_iconst C (n := 13) (v := 0) dX11_isReady_12 rfl (by decide) ?_
    exact rf_lv _ [0, 1] rfl (r_X11_isReady_13 C K fu _ _ _)
  · refine rf_iconst C (n := 9) (v := 1) dX11_isReady_8 rfl (by decide) ?_
    refine rf_goto C (n := 13) dX11_isReady_9 (by decide) ?_
    exact rf_lv _ [0, 1] rfl (r_X11_isReady_13 C K fu _ _ _)
noncomputable def f_X11_readyBits_28 (fu : Nat) (k4 : Int32 → Int32 → hM → Option (Int32 × hM)) (x2 : Int32) (s0 : Int32) (s1 : Int32) (m : hM) : Option (Int32 × hM) :=
  hLet (s0 ||| s1) fun y5 =>
hLet (x2 + 1) fun y6 =>
k4 y5 y6 m
set_option maxRecDepth 100000 in
set_option maxHeartbeats 4000000 in
theorem r_X11_readyBits_28 {G : hG} {X : hX} (C : Cx G X 3 cX11_readyBits 3 RX11 (some .int)) (K : Cr G X) (fu : Nat) (k4 : Int32 → Int32 → hM → Option (Int32 × hM)) (hk4 : ∀ (x1 : Int32) (x2 : Int32) (m : hM), Rf vI G X 4 [(0, hA G 96), (1, .int x1), (2, .int x2)] [] m (k4 x1 x2 m)) (x2 : Int32) (s0 : Int32) (s1 : Int32) (m : hM) : Rf vI G X 28 [(0, hA G 96), (2, .int x2)] [.int s1, .int s0] m (f_X11_readyBits_28 fu k4 x2 s0 s1 m) := by
  unfold f_X11_readyBits_28
  refine rf_ior C (n := 29) dX11_readyBits_28 rfl ?_
  refine rf_letI (fun y5 => ?_)
  refine rf_istore_n C (n := 30) [(1, .int y5), (0, hA G 96), (2, .int x2)] dX11_readyBits_29 rfl rfl (by decide) rfl ?_
  refine rf_iinc2 C (n := 33) (q := 2) (fun y6 => [(2, .int y6), (1, .int y5), (0, hA G 96)]) dX11_readyBits_30 rfl rfl (by decide) (by decide) (fun _ => rfl) (fun y6 => ?_)
  refine rf_goto C (n := 4) dX11_readyBits_33 (by decide) ?_
  exact rf_lv _ [2, 1, 0] rfl (hk4 _ _ _)
noncomputable def s_X11_readyBits_4 (fu : Nat) (ih : Int32 → Int32 → hM → Option (Int32 × hM)) (x1 : Int32) (x2 : Int32) (m : hM) : Option (Int32 × hM) :=
  if (gI m 96 16) ≤ x2 then (
some (x1, m)) else (
hBd (f_X11_isReady fu x2 m) fun y2 m3 =>
if y2 = 0 then (
f_X11_readyBits_28 fu ih x2 x1 0 m3) else (
f_X11_readyBits_28 fu ih x2 x1 (1 <<< (x2 &&& 31)) m3))
noncomputable def f_X11_readyBits_4 (fu : Nat) (n : Nat) : Int32 → Int32 → hM → Option (Int32 × hM) :=
  Nat.rec (motive := fun _ => Int32 → Int32 → hM → Option (Int32 × hM)) (fun _ _ _ => none) (fun _ ih => s_X11_readyBits_4 fu ih) n
theorem f_X11_readyBits_4_s (fu : Nat) (n : Nat) (x1 : Int32) (x2 : Int32) (m : hM) : f_X11_readyBits_4 fu (n + 1) x1 x2 m = s_X11_readyBits_4 fu (f_X11_readyBits_4 fu n) x1 x2 m := rfl
set_option maxRecDepth 100000 in
set_option maxHeartbeats 4000000 in
theorem r_X11_readyBits_4 {G : hG} {X : hX} (C : Cx G X 3 cX11_readyBits 3 RX11 (some .int)) (K : Cr G X) (fu : Nat) (n : Nat) : ∀ (x1 : Int32) (x2 : Int32) (m : hM), Rf vI G X 4 [(0, hA G 96), (1, .int x1), (2, .int x2)] [] m (f_X11_readyBits_4 fu n x1 x2 m) := by
  induction n with
  | zero => intros; exact rf_none
  | succ n ih =>
    intro x1 x2 m
    show Rf vI G X 4 [(0, hA G 96), (1, .int x1), (2, .int x2)] [] m (s_X11_readyBits_4 fu (f_X11_readyBits_4 fu n) x1 x2 m)
    unfold s_X11_readyBits_4
    refine rf_iload_n C (n := 5) (q := 2) dX11_readyBits_4 rfl rfl rfl ?_
    refine rf_aload_n C (n := 6) (q := 0) dX11_readyBits_5 rfl rfl rfl ?_
    refine rf_getI C (n := 9) fl_RX11_151 ly_96 rfl dX11_readyBits_6 rfl ?_
    refine rf_icmp_ge C (tgt := 36) (n := 12) dX11_readyBits_9 (by decide) rfl (fun h1 => ?_) (fun h1 => ?_)
    · refine rf_iload_n C (n := 37) (q := 1) dX11_readyBits_36 rfl rfl rfl ?_
      exact rf_iret C K dX11_readyBits_37
    · refine rf_iload_n C (n := 13) (q := 1) dX11_readyBits_12 rfl rfl rfl ?_
      refine rf_aload_n C (n := 14) (q := 0) dX11_readyBits_13 rfl rfl rfl ?_
      refine rf_iload_n C (n := 15) (q := 2) dX11_readyBits_14 rfl rfl rfl ?_
      refine rf_callVi C (n := 18) (c_X11_isReady G fu _ _) mw_RX11_268 ly_96 rfl ⟨by decide, by decide⟩ rfl (Nat.le_of_ble_eq_true rfl) rfl dX11_readyBits_15 rfl (fun y2 m3 => ?_)
      refine rf_if_eq C (tgt := 27) (n := 21) dX11_readyBits_18 (by decide) rfl (fun h4 => ?_) (fun h4 => ?_)
      · refine rf_iconst C (n := 28) (v := 0) dX11_readyBits_27 rfl (by decide) ?_
        exact rf_lv _ [0, 2] rfl (r_X11_readyBits_28 C K fu _ ih _ _ _ _)
      · refine rf_iconst C (n := 22) (v := 1) dX11_readyBits_21 rfl (by decide) ?_
        refine rf_iload_n C (n := 23) (q := 2) dX11_readyBits_22 rfl rfl rfl ?_
        refine rf_ishl C (n := 24) dX11_readyBits_23 rfl ?_
        refine rf_goto C (n := 28) dX11_readyBits_24 (by decide) ?_
        exact rf_lv _ [0, 2] rfl (r_X11_readyBits_28 C K fu _ ih _ _ _ _)
noncomputable def f_X11_readyBits (fu : Nat) (m : hM) : Option (Int32 × hM) :=
  f_X11_readyBits_4 fu fu 0 0 m
set_option maxRecDepth 100000 in
set_option maxHeartbeats 4000000 in
theorem c_X11_readyBits (G : hG) (fu : Nat) (m : hM) : Mt vI G 3 yX11_readyBits cX11_readyBits 3 (some .int) [hA G 96] m (f_X11_readyBits fu m) := by
  refine mt_of (by decide +kernel) (Nat.le_of_ble_eq_true rfl) (fun X C K => ?_)
  have C : Cx G X 3 cX11_readyBits 3 RX11 (some .int) := C
  show Rf vI G X 0 [(0, hA G 96)] [] m _
  unfold f_X11_readyBits
  refine rf_iconst C (n := 1) (v := 0) dX11_readyBits_0 rfl (by decide) ?_
  refine rf_istore_n C (n := 2) [(1, .int 0), (0, hA G 96)] dX11_readyBits_1 rfl rfl (by decide) rfl ?_
  refine rf_iconst C (n := 3) (v := 0) dX11_readyBits_2 rfl (by decide) ?_
  refine rf_istore_n C (n := 4) [(2, .int 0), (1, .int 0), (0, hA G 96)] dX11_readyBits_3 rfl rfl (by decide) rfl ?_
  exact rf_lv _ [2, 1, 0] rfl (r_X11_readyBits_4 C K fu fu _ _ _)
noncomputable def f_X11_asked (fu : Nat) (x1 : Int32) (m : hM) : Option (Int32 × hM) :=
  if (gI m 96 37) = 0 then (
if hIn x1 8 then (
some (gI m 112 (Int32.toNatClampNeg x1), m)) else none) else (
some ((-1), m))
set_option maxRecDepth 100000 in
set_option maxHeartbeats 4000000 in
theorem c_X11_asked (G : hG) (fu : Nat) (x1 : Int32) (m : hM) : Mt vI G 1 yX11_asked cX11_asked 2 (some .int) [hA G 96, .int x1] m (f_X11_asked fu x1 m) := by
  refine mt_of (by decide +kernel) (Nat.le_of_ble_eq_true rfl) (fun X C K => ?_)
  have C : Cx G X 1 cX11_asked 2 RX11 (some .int) := C
  show Rf vI G X 0 [(0, hA G 96), (1, .int x1)] [] m _
  unfold f_X11_asked
  refine rf_aload_n C (n := 1) (q := 0) dX11_asked_0 rfl rfl rfl ?_
  refine rf_getI C (n := 4) fl_RX11_271 ly_96 rfl dX11_asked_1 rfl ?_
  refine rf_if_eq C (tgt := 11) (n := 7) dX11_asked_4 (by decide) rfl (fun h1 => ?_) (fun h1 => ?_)
  · refine rf_aload_n C (n := 12) (q := 0) dX11_asked_11 rfl rfl rfl ?_
    refine rf_getS C (n := 15) fl_RX11_163 ly_96 rfl dX11_asked_12 rfl ?_
    refine rf_iload_n C (n := 16) (q := 1) dX11_asked_15 rfl rfl rfl ?_
    refine rf_guard (fun h2 => ?_)
    refine rf_iald C (n := 17) ly_112 h2 rfl dX11_asked_16 rfl ?_
    exact rf_iret C K dX11_asked_17
  · refine rf_iconst C (n := 8) (v := (-1)) dX11_asked_7 rfl (by decide) ?_
    refine rf_goto C (n := 17) dX11_asked_8 (by decide) ?_
    exact rf_iret C K dX11_asked_17
noncomputable def f_X11_works_343 (fu : Nat) (k50 : Int32 → Int32 → hM → Option (Unit × hM)) (x1 : Int32) (x2 : Int32) (m : hM) : Option (Unit × hM) :=
  hLet (x2 + 1) fun y19 =>
k50 x1 y19 m
set_option maxRecDepth 100000 in
set_option maxHeartbeats 4000000 in
theorem r_X11_works_343 {G : hG} {X : hX} (C : Cx G X 4 cX11_works 4 RX11 none) (K : Cr G X) (fu : Nat) (k50 : Int32 → Int32 → hM → Option (Unit × hM)) (hk50 : ∀ (x1 : Int32) (x2 : Int32) (m : hM), Rf vU G X 50 [(0, hA G 96), (1, .int x1), (2, .int x2)] [] m (k50 x1 x2 m)) (x1 : Int32) (x2 : Int32) (m : hM) : Rf vU G X 343 [(0, hA G 96), (1, .int x1), (2, .int x2)] [] m (f_X11_works_343 fu k50 x1 x2 m) := by
  unfold f_X11_works_343
  refine rf_iinc2 C (n := 346) (q := 2) (fun y19 => [(2, .int y19), (0, hA G 96), (1, .int x1)]) dX11_works_343 rfl rfl (by decide) (by decide) (fun _ => rfl) (fun y19 => ?_)
  refine rf_goto C (n := 50) dX11_works_346 (by decide) ?_
  exact rf_lv _ [1, 2, 0] rfl (hk50 _ _ _)
noncomputable def f_X11_works_142 (fu : Nat) (k50 : Int32 → Int32 → hM → Option (Unit × hM)) (x1 : Int32) (x2 : Int32) (s1 : Int32) (s2 : Int32) (m : hM) : Option (Unit × hM) :=
  hBd (f_X11_flag fu s2 m) fun y61 m62 =>
if hIn s1 127 then (
hLet (sI m62 114 (Int32.toNatClampNeg s1) y61) fun m64 =>
f_X11_works_343 fu k50 x1 x2 m64) else none
set_option maxRecDepth 100000 in
set_option maxHeartbeats 4000000 in
theorem r_X11_works_142 {G : hG} {X : hX} (C : Cx G X 4 cX11_works 4 RX11 none) (K : Cr G X) (fu : Nat) (k50 : Int32 → Int32 → hM → Option (Unit × hM)) (hk50 : ∀ (x1 : Int32) (x2 : Int32) (m : hM), Rf vU G X 50 [(0, hA G 96), (1, .int x1), (2, .int x2)] [] m (k50 x1 x2 m)) (x1 : Int32) (x2 : Int32) (s1 : Int32) (s2 : Int32) (m : hM) : Rf vU G X 142 [(0, hA G 96), (1, .int x1), (2, .int x2)] [.int s2, .int s1, hA G 114] m (f_X11_works_142 fu k50 x1 x2 s1 s2 m) := by
  unfold f_X11_works_142
  refine rf_callSi C (n := 145) (c_X11_flag G fu _ _) sw_RX11_124 ⟨by decide, by decide⟩ rfl (Nat.le_of_ble_eq_true rfl) rfl dX11_works_142 rfl (fun y61 m62 => ?_)
  refine rf_guard (fun h63 => ?_)
  refine rf_iast C (n := 146) ly_114 h63 rfl dX11_works_145 rfl ?_
  refine rf_letM (fun m64 => ?_)
  refine rf_goto C (n := 343) dX11_works_146 (by decide) ?_
  exact rf_lv _ [0, 1, 2] rfl (r_X11_works_343 C K fu _ hk50 _ _ _)
noncomputable def f_X11_works_137 (fu : Nat) (k50 : Int32 → Int32 → hM → Option (Unit × hM)) (x1 : Int32) (x2 : Int32) (s1 : Int32) (m : hM) : Option (Unit × hM) :=
  f_X11_works_142 fu k50 x1 x2 s1 1 m
set_option maxRecDepth 100000 in
set_option maxHeartbeats 4000000 in
theorem r_X11_works_137 {G : hG} {X : hX} (C : Cx G X 4 cX11_works 4 RX11 none) (K : Cr G X) (fu : Nat) (k50 : Int32 → Int32 → hM → Option (Unit × hM)) (hk50 : ∀ (x1 : Int32) (x2 : Int32) (m : hM), Rf vU G X 50 [(0, hA G 96), (1, .int x1), (2, .int x2)] [] m (k50 x1 x2 m)) (x1 : Int32) (x2 : Int32) (s1 : Int32) (m : hM) : Rf vU G X 137 [(0, hA G 96), (1, .int x1), (2, .int x2)] [.int s1, hA G 114] m (f_X11_works_137 fu k50 x1 x2 s1 m) := by
  unfold f_X11_works_137
  refine rf_iconst C (n := 138) (v := 1) dX11_works_137 rfl (by decide) ?_
  refine rf_goto C (n := 142) dX11_works_138 (by decide) ?_
  exact rf_lv _ [0, 1, 2] rfl (r_X11_works_142 C K fu _ hk50 _ _ _ _ _)
noncomputable def s_X11_works_50 (fu : Nat) (ih : Int32 → Int32 → hM → Option (Unit × hM)) (x1 : Int32) (x2 : Int32) (m : hM) : Option (Unit × hM) :=
  if (gI m 96 16) ≤ x2 then (
some ((), m)) else (
hBd (f_X11_has fu (gI m 96 34) x2 m) fun y9 m10 =>
if ¬ y9 = 0 then (
if hIn (3 + x2) 127 then (
hLet (gI m10 114 (Int32.toNatClampNeg (3 + x2))) fun y13 =>
if hIn (27 + x2) 127 then (
if ¬ (gI m10 114 (Int32.toNatClampNeg (27 + x2))) = 1 then (
hBd (f_X11_isOpen fu y13 x1 m10) fun y16 m17 =>
if y16 = 0 then (
f_X11_works_343 fu ih x1 x2 m17) else (
if hIn y13 6 then (
if hIn x2 8 then (
hBd (f_X11_has fu (gI m17 103 (Int32.toNatClampNeg y13)) (gI m17 108 (Int32.toNatClampNeg x2)) m17) fun y22 m23 =>
if y22 = 0 then (
f_X11_works_343 fu ih x1 x2 m23) else (
if hIn y13 6 then (
if hIn y13 6 then (
if (gI m23 120 (Int32.toNatClampNeg y13)) < (gI m23 102 (Int32.toNatClampNeg y13)) then (
if hIn y13 6 then (
if hIn y13 6 then (
hLet (sI m23 120 (Int32.toNatClampNeg y13) ((gI m23 120 (Int32.toNatClampNeg y13)) + 1)) fun m30 =>
hLet (sI m30 96 36 ((gI m30 96 36) ||| (1 <<< (x2 &&& 31)))) fun m31 =>
if hIn (11 + x2) 127 then (
if hIn (11 + x2) 127 then (
hLet (sI m31 114 (Int32.toNatClampNeg (11 + x2)) ((gI m31 114 (Int32.toNatClampNeg (11 + x2))) - 1)) fun m34 =>
if hIn (19 + x2) 127 then (
if hIn (19 + x2) 127 then (
hLet (sI m34 114 (Int32.toNatClampNeg (19 + x2)) ((gI m34 114 (Int32.toNatClampNeg (19 + x2))) + 1)) fun m37 =>
if hIn (43 + x2) 127 then (
if hIn (43 + x2) 127 then (
hLet (sI m37 114 (Int32.toNatClampNeg (43 + x2)) ((gI m37 114 (Int32.toNatClampNeg (43 + x2))) + 1)) fun m40 =>
if hIn y13 6 then (
hLet (sI m40 114 1 ((gI m40 114 1) + (gI m40 101 (Int32.toNatClampNeg y13)))) fun m42 =>
if hIn (11 + x2) 127 then (
if ¬ (gI m42 114 (Int32.toNatClampNeg (11 + x2))) = 0 then (
hBd (f_X11_asked fu x2 m42) fun y45 m46 =>
if y45 < 0 then (
f_X11_works_343 fu ih x1 x2 m46) else (
if hIn (19 + x2) 127 then (
if hIn x2 8 then (
if ¬ (gI m46 114 (Int32.toNatClampNeg (19 + x2))) = (gI m46 113 (Int32.toNatClampNeg x2)) then (
f_X11_works_343 fu ih x1 x2 m46) else (
if hIn (27 + x2) 127 then (
hLet (sI m46 114 (Int32.toNatClampNeg (27 + x2)) 1) fun m52 =>
if hIn (19 + x2) 127 then (
hLet (sI m52 114 (Int32.toNatClampNeg (19 + x2)) 0) fun m54 =>
f_X11_works_343 fu ih x1 x2 m54) else none) else none)) else none) else none)) else (
if hIn (35 + x2) 127 then (
hLet (sI m42 114 (Int32.toNatClampNeg (35 + x2)) (x1 + 1)) fun m56 =>
f_X11_works_343 fu ih x1 x2 m56) else none)) else none) else none) else none) else none) else none) else none) else none) else none) else none) else none) else (
f_X11_works_343 fu ih x1 x2 m23)) else none) else none)) else none) else none)) else (
hLet (sI m10 96 35 ((gI m10 96 35) ||| (1 <<< (x2 &&& 31)))) fun m57 =>
hBd (f_X11_isOpen fu y13 x1 m57) fun y58 m59 =>
if y58 = 0 then (
f_X11_works_137 fu ih x1 x2 (27 + x2) m59) else (
if hIn x2 8 then (
hBd (f_X11_isOpen fu (gI m59 112 (Int32.toNatClampNeg x2)) x1 m59) fun y66 m67 =>
if ¬ y66 = 0 then (
f_X11_works_142 fu ih x1 x2 (27 + x2) 0 m67) else (
f_X11_works_137 fu ih x1 x2 (27 + x2) m67)) else none))) else none) else none) else (
f_X11_works_343 fu ih x1 x2 m10))
noncomputable def f_X11_works_50 (fu : Nat) (n : Nat) : Int32 → Int32 → hM → Option (Unit × hM) :=
  Nat.rec (motive := fun _ => Int32 → Int32 → hM → Option (Unit × hM)) (fun _ _ _ => none) (fun _ ih => s_X11_works_50 fu ih) n
theorem f_X11_works_50_s (fu : Nat) (n : Nat) (x1 : Int32) (x2 : Int32) (m : hM) : f_X11_works_50 fu (n + 1) x1 x2 m = s_X11_works_50 fu (f_X11_works_50 fu n) x1 x2 m := rfl
set_option maxRecDepth 100000 in
set_option maxHeartbeats 4000000 in
theorem r_X11_works_50 {G : hG} {X : hX} (C : Cx G X 4 cX11_works 4 RX11 none) (K : Cr G X) (fu : Nat) (n : Nat) : ∀ (x1 : Int32) (x2 : Int32) (m : hM), Rf vU G X 50 [(0, hA G 96), (1, .int x1), (2, .int x2)] [] m (f_X11_works_50 fu n x1 x2 m) := by
  induction n with
  | zero => intros; exact rf_none
  | succ n ih =>
    intro x1 x2 m
    show Rf vU G X 50 [(0, hA G 96), (1, .int x1), (2, .int x2)] [] m (s_X11_works_50 fu (f_X11_works_50 fu n) x1 x2 m)
    unfold s_X11_works_50
    refine rf_iload_n C (n := 51) (q := 2) dX11_works_50 rfl rfl rfl ?_
    refine rf_aload_n C (n := 52) (q := 0) dX11_works_51 rfl rfl rfl ?_
    refine rf_getI C (n := 55) fl_RX11_151 ly_96 rfl dX11_works_52 rfl ?_
    refine rf_icmp_ge C (tgt := 349) (n := 58) dX11_works_55 (by decide) rfl (fun h8 => ?_) (fun h8 => ?_)
    · exact rf_vret C K dX11_works_349
    · refine rf_aload_n C (n := 59) (q := 0) dX11_works_58 rfl rfl rfl ?_
      refine rf_getI C (n := 62) fl_RX11_278 ly_96 rfl dX11_works_59 rfl ?_
      refine rf_iload_n C (n := 63) (q := 2) dX11_works_62 rfl rfl rfl ?_
      refine rf_callSi C (n := 66) (c_X11_has G fu _ _ _) sw_RX11_137 ⟨by decide, by decide⟩ rfl (Nat.le_of_ble_eq_true rfl) rfl dX11_works_63 rfl (fun y9 m10 => ?_)
      refine rf_if_ne C (tgt := 72) (n := 69) dX11_works_66 (by decide) rfl (fun h11 => ?_) (fun h11 => ?_)
      · refine rf_aload_n C (n := 73) (q := 0) dX11_works_72 rfl rfl rfl ?_
        refine rf_getS C (n := 76) fl_RX11_140 ly_96 rfl dX11_works_73 rfl ?_
        refine rf_iconst C (n := 77) (v := 3) dX11_works_76 rfl (by decide) ?_
        refine rf_iload_n C (n := 78) (q := 2) dX11_works_77 rfl rfl rfl ?_
        refine rf_iadd C (n := 79) dX11_works_78 rfl ?_
        refine rf_guard (fun h12 => ?_)
        refine rf_iald C (n := 80) ly_114 h12 rfl dX11_works_79 rfl ?_
        refine rf_letI (fun y13 => ?_)
        refine rf_istore_n C (n := 81) [(3, .int y13), (0, hA G 96), (1, .int x1), (2, .int x2)] dX11_works_80 rfl rfl (by decide) rfl ?_
        refine rf_aload_n C (n := 82) (q := 1) dX11_works_81 rfl rfl rfl ?_
        refine rf_getS C (n := 85) fl_RX11_140 ly_96 rfl dX11_works_82 rfl ?_
        refine rf_bipush C (n := 87) (v := 27) dX11_works_85 rfl (by decide) ?_
        refine rf_iload_n C (n := 88) (q := 3) dX11_works_87 rfl rfl rfl ?_
        refine rf_iadd C (n := 89) dX11_works_88 rfl ?_
        refine rf_guard (fun h14 => ?_)
        refine rf_iald C (n := 90) ly_114 h14 rfl dX11_works_89 rfl ?_
        refine rf_iconst C (n := 91) (v := 1) dX11_works_90 rfl (by decide) ?_
        refine rf_icmp_ne C (tgt := 149) (n := 94) dX11_works_91 (by decide) rfl (fun h15 => ?_) (fun h15 => ?_)
        · refine rf_aload_n C (n := 150) (q := 1) dX11_works_149 rfl rfl rfl ?_
          refine rf_iload_n C (n := 151) (q := 0) dX11_works_150 rfl rfl rfl ?_
          refine rf_iload_n C (n := 152) (q := 2) dX11_works_151 rfl rfl rfl ?_
          refine rf_callVi C (n := 155) (c_X11_isOpen G fu _ _ _) mw_RX11_120 ly_96 rfl ⟨by decide, by decide⟩ rfl (Nat.le_of_ble_eq_true rfl) rfl dX11_works_152 rfl (fun y16 m17 => ?_)
          refine rf_if_eq C (tgt := 343) (n := 158) dX11_works_155 (by decide) rfl (fun h18 => ?_) (fun h18 => ?_)
          · exact rf_lv _ [1, 2, 3] rfl (r_X11_works_343 C K fu _ ih _ _ _)
          · refine rf_aload_n C (n := 159) (q := 1) dX11_works_158 rfl rfl rfl ?_
            refine rf_getS C (n := 162) fl_RX11_47 ly_96 rfl dX11_works_159 rfl ?_
            refine rf_iload_n C (n := 163) (q := 0) dX11_works_162 rfl rfl rfl ?_
            refine rf_guard (fun h20 => ?_)
            refine rf_iald C (n := 164) ly_103 h20 rfl dX11_works_163 rfl ?_
            refine rf_aload_n C (n := 165) (q := 1) dX11_works_164 rfl rfl rfl ?_
            refine rf_getS C (n := 168) fl_RX11_154 ly_96 rfl dX11_works_165 rfl ?_
            refine rf_iload_n C (n := 169) (q := 3) dX11_works_168 rfl rfl rfl ?_
            refine rf_guard (fun h21 => ?_)
            refine rf_iald C (n := 170) ly_108 h21 rfl dX11_works_169 rfl ?_
            refine rf_callSi C (n := 173) (c_X11_has G fu _ _ _) sw_RX11_137 ⟨by decide, by decide⟩ rfl (Nat.le_of_ble_eq_true rfl) rfl dX11_works_170 rfl (fun y22 m23 => ?_)
            refine rf_if_eq C (tgt := 343) (n := 176) dX11_works_173 (by decide) rfl (fun h24 => ?_) (fun h24 => ?_)
            · exact rf_lv _ [1, 2, 3] rfl (r_X11_works_343 C K fu _ ih _ _ _)
            · refine rf_aload_n C (n := 177) (q := 1) dX11_works_176 rfl rfl rfl ?_
              refine rf_getS C (n := 180) fl_RX11_287 ly_96 rfl dX11_works_177 rfl ?_
              refine rf_iload_n C (n := 181) (q := 0) dX11_works_180 rfl rfl rfl ?_
              refine rf_guard (fun h25 => ?_)
              refine rf_iald C (n := 182) ly_120 h25 rfl dX11_works_181 rfl ?_
              refine rf_aload_n C (n := 183) (q := 1) dX11_works_182 rfl rfl rfl ?_
              refine rf_getS C (n := 186) fl_RX11_44 ly_96 rfl dX11_works_183 rfl ?_
              refine rf_iload_n C (n := 187) (q := 0) dX11_works_186 rfl rfl rfl ?_
              refine rf_guard (fun h26 => ?_)
              refine rf_iald C (n := 188) ly_102 h26 rfl dX11_works_187 rfl ?_
              refine rf_icmp_lt C (tgt := 194) (n := 191) dX11_works_188 (by decide) rfl (fun h27 => ?_) (fun h27 => ?_)
              · refine rf_aload_n C (n := 195) (q := 1) dX11_works_194 rfl rfl rfl ?_
                refine rf_getS C (n := 198) fl_RX11_287 ly_96 rfl dX11_works_195 rfl ?_
                refine rf_iload_n C (n := 199) (q := 0) dX11_works_198 rfl rfl rfl ?_
                refine rf_dup2 C (n := 200) dX11_works_199 rfl rfl rfl ?_
                refine rf_guard (fun h28 => ?_)
                refine rf_iald C (n := 201) ly_120 h28 rfl dX11_works_200 rfl ?_
                refine rf_iconst C (n := 202) (v := 1) dX11_works_201 rfl (by decide) ?_
                refine rf_iadd C (n := 203) dX11_works_202 rfl ?_
                refine rf_guard (fun h29 => ?_)
                refine rf_iast C (n := 204) ly_120 h29 rfl dX11_works_203 rfl ?_
                refine rf_letM (fun m30 => ?_)
                refine rf_aload_n C (n := 205) (q := 1) dX11_works_204 rfl rfl rfl ?_
                refine rf_dup C (n := 206) dX11_works_205 rfl rfl ?_
                refine rf_getI C (n := 209) fl_RX11_284 ly_96 rfl dX11_works_206 rfl ?_
                refine rf_iconst C (n := 210) (v := 1) dX11_works_209 rfl (by decide) ?_
                refine rf_iload_n C (n := 211) (q := 3) dX11_works_210 rfl rfl rfl ?_
                refine rf_ishl C (n := 212) dX11_works_211 rfl ?_
                refine rf_ior C (n := 213) dX11_works_212 rfl ?_
                refine rf_putI C (n := 216) pl_RX11_284 ly_96 rfl ⟨rfl, rfl⟩ dX11_works_213 rfl ?_
                refine rf_letM (fun m31 => ?_)
                refine rf_aload_n C (n := 217) (q := 1) dX11_works_216 rfl rfl rfl ?_
                refine rf_getS C (n := 220) fl_RX11_140 ly_96 rfl dX11_works_217 rfl ?_
                refine rf_bipush C (n := 222) (v := 11) dX11_works_220 rfl (by decide) ?_
                refine rf_iload_n C (n := 223) (q := 3) dX11_works_222 rfl rfl rfl ?_
                refine rf_iadd C (n := 224) dX11_works_223 rfl ?_
                refine rf_dup2 C (n := 225) dX11_works_224 rfl rfl rfl ?_
                refine rf_guard (fun h32 => ?_)
                refine rf_iald C (n := 226) ly_114 h32 rfl dX11_works_225 rfl ?_
                refine rf_iconst C (n := 227) (v := 1) dX11_works_226 rfl (by decide) ?_
                refine rf_isub C (n := 228) dX11_works_227 rfl ?_
                refine rf_guard (fun h33 => ?_)
                refine rf_iast C (n := 229) ly_114 h33 rfl dX11_works_228 rfl ?_
                refine rf_letM (fun m34 => ?_)
                refine rf_aload_n C (n := 230) (q := 1) dX11_works_229 rfl rfl rfl ?_
                refine rf_getS C (n := 233) fl_RX11_140 ly_96 rfl dX11_works_230 rfl ?_
                refine rf_bipush C (n := 235) (v := 19) dX11_works_233 rfl (by decide) ?_
                refine rf_iload_n C (n := 236) (q := 3) dX11_works_235 rfl rfl rfl ?_
                refine rf_iadd C (n := 237) dX11_works_236 rfl ?_
                refine rf_dup2 C (n := 238) dX11_works_237 rfl rfl rfl ?_
                refine rf_guard (fun h35 => ?_)
                refine rf_iald C (n := 239) ly_114 h35 rfl dX11_works_238 rfl ?_
                refine rf_iconst C (n := 240) (v := 1) dX11_works_239 rfl (by decide) ?_
                refine rf_iadd C (n := 241) dX11_works_240 rfl ?_
                refine rf_guard (fun h36 => ?_)
                refine rf_iast C (n := 242) ly_114 h36 rfl dX11_works_241 rfl ?_
                refine rf_letM (fun m37 => ?_)
                refine rf_aload_n C (n := 243) (q := 1) dX11_works_242 rfl rfl rfl ?_
                refine rf_getS C (n := 246) fl_RX11_140 ly_96 rfl dX11_works_243 rfl ?_
                refine rf_bipush C (n := 248) (v := 43) dX11_works_246 rfl (by decide) ?_
                refine rf_iload_n C (n := 249) (q := 3) dX11_works_248 rfl rfl rfl ?_
                refine rf_iadd C (n := 250) dX11_works_249 rfl ?_
                refine rf_dup2 C (n := 251) dX11_works_250 rfl rfl rfl ?_
                refine rf_guard (fun h38 => ?_)
                refine rf_iald C (n := 252) ly_114 h38 rfl dX11_works_251 rfl ?_
                refine rf_iconst C (n := 253) (v := 1) dX11_works_252 rfl (by decide) ?_
                refine rf_iadd C (n := 254) dX11_works_253 rfl ?_
                refine rf_guard (fun h39 => ?_)
                refine rf_iast C (n := 255) ly_114 h39 rfl dX11_works_254 rfl ?_
                refine rf_letM (fun m40 => ?_)
                refine rf_aload_n C (n := 256) (q := 1) dX11_works_255 rfl rfl rfl ?_
                refine rf_getS C (n := 259) fl_RX11_140 ly_96 rfl dX11_works_256 rfl ?_
                refine rf_iconst C (n := 260) (v := 1) dX11_works_259 rfl (by decide) ?_
                refine rf_dup2 C (n := 261) dX11_works_260 rfl rfl rfl ?_
                refine rf_iald C (n := 262) (j := 1) ly_114 (by decide) (by decide) dX11_works_261 rfl ?_
                refine rf_aload_n C (n := 263) (q := 1) dX11_works_262 rfl rfl rfl ?_
                refine rf_getS C (n := 266) fl_RX11_41 ly_96 rfl dX11_works_263 rfl ?_
                refine rf_iload_n C (n := 267) (q := 0) dX11_works_266 rfl rfl rfl ?_
                refine rf_guard (fun h41 => ?_)
                refine rf_iald C (n := 268) ly_101 h41 rfl dX11_works_267 rfl ?_
                refine rf_iadd C (n := 269) dX11_works_268 rfl ?_
                refine rf_iast C (n := 270) (j0 := 1) ly_114 (by decide) (by decide) dX11_works_269 rfl ?_
                refine rf_letM (fun m42 => ?_)
                refine rf_aload_n C (n := 271) (q := 1) dX11_works_270 rfl rfl rfl ?_
                refine rf_getS C (n := 274) fl_RX11_140 ly_96 rfl dX11_works_271 rfl ?_
                refine rf_bipush C (n := 276) (v := 11) dX11_works_274 rfl (by decide) ?_
                refine rf_iload_n C (n := 277) (q := 3) dX11_works_276 rfl rfl rfl ?_
                refine rf_iadd C (n := 278) dX11_works_277 rfl ?_
                refine rf_guard (fun h43 => ?_)
                refine rf_iald C (n := 279) ly_114 h43 rfl dX11_works_278 rfl ?_
                refine rf_if_ne C (tgt := 297) (n := 282) dX11_works_279 (by decide) rfl (fun h44 => ?_) (fun h44 => ?_)
                · refine rf_aload_n C (n := 298) (q := 1) dX11_works_297 rfl rfl rfl ?_
                  refine rf_iload_n C (n := 299) (q := 3) dX11_works_298 rfl rfl rfl ?_
                  refine rf_callVi C (n := 302) (c_X11_asked G fu _ _) mw_RX11_290 ly_96 rfl ⟨by decide, by decide⟩ rfl (Nat.le_of_ble_eq_true rfl) rfl dX11_works_299 rfl (fun y45 m46 => ?_)
                  refine rf_if_lt C (tgt := 343) (n := 305) dX11_works_302 (by decide) rfl (fun h47 => ?_) (fun h47 => ?_)
                  · exact rf_lv _ [1, 2, 3] rfl (r_X11_works_343 C K fu _ ih _ _ _)
                  · refine rf_aload_n C (n := 306) (q := 1) dX11_works_305 rfl rfl rfl ?_
                    refine rf_getS C (n := 309) fl_RX11_140 ly_96 rfl dX11_works_306 rfl ?_
                    refine rf_bipush C (n := 311) (v := 19) dX11_works_309 rfl (by decide) ?_
                    refine rf_iload_n C (n := 312) (q := 3) dX11_works_311 rfl rfl rfl ?_
                    refine rf_iadd C (n := 313) dX11_works_312 rfl ?_
                    refine rf_guard (fun h48 => ?_)
                    refine rf_iald C (n := 314) ly_114 h48 rfl dX11_works_313 rfl ?_
                    refine rf_aload_n C (n := 315) (q := 1) dX11_works_314 rfl rfl rfl ?_
                    refine rf_getS C (n := 318) fl_RX11_157 ly_96 rfl dX11_works_315 rfl ?_
                    refine rf_iload_n C (n := 319) (q := 3) dX11_works_318 rfl rfl rfl ?_
                    refine rf_guard (fun h49 => ?_)
                    refine rf_iald C (n := 320) ly_113 h49 rfl dX11_works_319 rfl ?_
                    refine rf_icmp_ne C (tgt := 343) (n := 323) dX11_works_320 (by decide) rfl (fun h50 => ?_) (fun h50 => ?_)
                    · exact rf_lv _ [1, 2, 3] rfl (r_X11_works_343 C K fu _ ih _ _ _)
                    · refine rf_aload_n C (n := 324) (q := 1) dX11_works_323 rfl rfl rfl ?_
                      refine rf_getS C (n := 327) fl_RX11_140 ly_96 rfl dX11_works_324 rfl ?_
                      refine rf_bipush C (n := 329) (v := 27) dX11_works_327 rfl (by decide) ?_
                      refine rf_iload_n C (n := 330) (q := 3) dX11_works_329 rfl rfl rfl ?_
                      refine rf_iadd C (n := 331) dX11_works_330 rfl ?_
                      refine rf_iconst C (n := 332) (v := 1) dX11_works_331 rfl (by decide) ?_
                      refine rf_guard (fun h51 => ?_)
                      refine rf_iast C (n := 333) ly_114 h51 rfl dX11_works_332 rfl ?_
                      refine rf_letM (fun m52 => ?_)
                      refine rf_aload_n C (n := 334) (q := 1) dX11_works_333 rfl rfl rfl ?_
                      refine rf_getS C (n := 337) fl_RX11_140 ly_96 rfl dX11_works_334 rfl ?_
                      refine rf_bipush C (n := 339) (v := 19) dX11_works_337 rfl (by decide) ?_
                      refine rf_iload_n C (n := 340) (q := 3) dX11_works_339 rfl rfl rfl ?_
                      refine rf_iadd C (n := 341) dX11_works_340 rfl ?_
                      refine rf_iconst C (n := 342) (v := 0) dX11_works_341 rfl (by decide) ?_
                      refine rf_guard (fun h53 => ?_)
                      refine rf_iast C (n := 343) ly_114 h53 rfl dX11_works_342 rfl ?_
                      refine rf_letM (fun m54 => ?_)
                      exact rf_lv _ [1, 2, 3] rfl (r_X11_works_343 C K fu _ ih _ _ _)
                · refine rf_aload_n C (n := 283) (q := 1) dX11_works_282 rfl rfl rfl ?_
                  refine rf_getS C (n := 286) fl_RX11_140 ly_96 rfl dX11_works_283 rfl ?_
                  refine rf_bipush C (n := 288) (v := 35) dX11_works_286 rfl (by decide) ?_
                  refine rf_iload_n C (n := 289) (q := 3) dX11_works_288 rfl rfl rfl ?_
                  refine rf_iadd C (n := 290) dX11_works_289 rfl ?_
                  refine rf_iload_n C (n := 291) (q := 2) dX11_works_290 rfl rfl rfl ?_
                  refine rf_iconst C (n := 292) (v := 1) dX11_works_291 rfl (by decide) ?_
                  refine rf_iadd C (n := 293) dX11_works_292 rfl ?_
                  refine rf_guard (fun h55 => ?_)
                  refine rf_iast C (n := 294) ly_114 h55 rfl dX11_works_293 rfl ?_
                  refine rf_letM (fun m56 => ?_)
                  refine rf_goto C (n := 343) dX11_works_294 (by decide) ?_
                  exact rf_lv _ [1, 2, 3] rfl (r_X11_works_343 C K fu _ ih _ _ _)
              · refine rf_goto C (n := 343) dX11_works_191 (by decide) ?_
                exact rf_lv _ [1, 2, 3] rfl (r_X11_works_343 C K fu _ ih _ _ _)
        · refine rf_aload_n C (n := 95) (q := 1) dX11_works_94 rfl rfl rfl ?_
          refine rf_dup C (n := 96) dX11_works_95 rfl rfl ?_
          refine rf_getI C (n := 99) fl_RX11_281 ly_96 rfl dX11_works_96 rfl ?_
          refine rf_iconst C (n := 100) (v := 1) dX11_works_99 rfl (by decide) ?_
          refine rf_iload_n C (n := 101) (q := 3) dX11_works_100 rfl rfl rfl ?_
          refine rf_ishl C (n := 102) dX11_works_101 rfl ?_
          refine rf_ior C (n := 103) dX11_works_102 rfl ?_
          refine rf_putI C (n := 106) pl_RX11_281 ly_96 rfl ⟨rfl, rfl⟩ dX11_works_103 rfl ?_
          refine rf_letM (fun m57 => ?_)
          refine rf_aload_n C (n := 107) (q := 1) dX11_works_106 rfl rfl rfl ?_
          refine rf_getS C (n := 110) fl_RX11_140 ly_96 rfl dX11_works_107 rfl ?_
          refine rf_bipush C (n := 112) (v := 27) dX11_works_110 rfl (by decide) ?_
          refine rf_iload_n C (n := 113) (q := 3) dX11_works_112 rfl rfl rfl ?_
          refine rf_iadd C (n := 114) dX11_works_113 rfl ?_
          refine rf_aload_n C (n := 115) (q := 1) dX11_works_114 rfl rfl rfl ?_
          refine rf_iload_n C (n := 116) (q := 0) dX11_works_115 rfl rfl rfl ?_
          refine rf_iload_n C (n := 117) (q := 2) dX11_works_116 rfl rfl rfl ?_
          refine rf_callVi C (n := 120) (c_X11_isOpen G fu _ _ _) mw_RX11_120 ly_96 rfl ⟨by decide, by decide⟩ rfl (Nat.le_of_ble_eq_true rfl) rfl dX11_works_117 rfl (fun y58 m59 => ?_)
          refine rf_if_eq C (tgt := 137) (n := 123) dX11_works_120 (by decide) rfl (fun h60 => ?_) (fun h60 => ?_)
          · exact rf_lv _ [1, 2, 3] rfl (r_X11_works_137 C K fu _ ih _ _ _ _)
          · refine rf_aload_n C (n := 124) (q := 1) dX11_works_123 rfl rfl rfl ?_
            refine rf_aload_n C (n := 125) (q := 1) dX11_works_124 rfl rfl rfl ?_
            refine rf_getS C (n := 128) fl_RX11_163 ly_96 rfl dX11_works_125 rfl ?_
            refine rf_iload_n C (n := 129) (q := 3) dX11_works_128 rfl rfl rfl ?_
            refine rf_guard (fun h65 => ?_)
            refine rf_iald C (n := 130) ly_112 h65 rfl dX11_works_129 rfl ?_
            refine rf_iload_n C (n := 131) (q := 2) dX11_works_130 rfl rfl rfl ?_
            refine rf_callVi C (n := 134) (c_X11_isOpen G fu _ _ _) mw_RX11_120 ly_96 rfl ⟨by decide, by decide⟩ rfl (Nat.le_of_ble_eq_true rfl) rfl dX11_works_131 rfl (fun y66 m67 => ?_)
            refine rf_if_ne C (tgt := 141) (n := 137) dX11_works_134 (by decide) rfl (fun h68 => ?_) (fun h68 => ?_)
            · refine rf_iconst C (n := 142) (v := 0) dX11_works_141 rfl (by decide) ?_
              exact rf_lv _ [1, 2, 3] rfl (r_X11_works_142 C K fu _ ih _ _ _ _ _)
            · exact rf_lv _ [1, 2, 3] rfl (r_X11_works_137 C K fu _ ih _ _ _ _)
      · refine rf_goto C (n := 343) dX11_works_69 (by decide) ?_
        exact rf_lv _ [0, 1, 2] rfl (r_X11_works_343 C K fu _ ih _ _ _)
noncomputable def f_X11_works_48 (fu : Nat) (x1 : Int32) (m : hM) : Option (Unit × hM) :=
  f_X11_works_50 fu fu x1 0 m
set_option maxRecDepth 100000 in
set_option maxHeartbeats 4000000 in
theorem r_X11_works_48 {G : hG} {X : hX} (C : Cx G X 4 cX11_works 4 RX11 none) (K : Cr G X) (fu : Nat) (x1 : Int32) (m : hM) : Rf vU G X 48 [(0, hA G 96), (1, .int x1)] [] m (f_X11_works_48 fu x1 m) := by
  unfold f_X11_works_48
  refine rf_iconst C (n := 49) (v := 0) dX11_works_48 rfl (by decide) ?_
  refine rf_istore_n C (n := 50) [(2, .int 0), (0, hA G 96), (1, .int x1)] dX11_works_49 rfl rfl (by decide) rfl ?_
  exact rf_lv _ [1, 2, 0] rfl (r_X11_works_50 C K fu fu _ _ _)
noncomputable def s_X11_works_27 (fu : Nat) (ih : Int32 → Int32 → hM → Option (Unit × hM)) (x1 : Int32) (x2 : Int32) (m : hM) : Option (Unit × hM) :=
  if (gI m 96 3) ≤ x2 then (
f_X11_works_48 fu x1 m) else (
if hIn x2 6 then (
hLet (sI m 120 (Int32.toNatClampNeg x2) 0) fun m70 =>
hLet (x2 + 1) fun y71 =>
ih x1 y71 m70) else none)
noncomputable def f_X11_works_27 (fu : Nat) (n : Nat) : Int32 → Int32 → hM → Option (Unit × hM) :=
  Nat.rec (motive := fun _ => Int32 → Int32 → hM → Option (Unit × hM)) (fun _ _ _ => none) (fun _ ih => s_X11_works_27 fu ih) n
theorem f_X11_works_27_s (fu : Nat) (n : Nat) (x1 : Int32) (x2 : Int32) (m : hM) : f_X11_works_27 fu (n + 1) x1 x2 m = s_X11_works_27 fu (f_X11_works_27 fu n) x1 x2 m := rfl
set_option maxRecDepth 100000 in
set_option maxHeartbeats 4000000 in
theorem r_X11_works_27 {G : hG} {X : hX} (C : Cx G X 4 cX11_works 4 RX11 none) (K : Cr G X) (fu : Nat) (n : Nat) : ∀ (x1 : Int32) (x2 : Int32) (m : hM), Rf vU G X 27 [(0, hA G 96), (1, .int x1), (2, .int x2)] [] m (f_X11_works_27 fu n x1 x2 m) := by
  induction n with
  | zero => intros; exact rf_none
  | succ n ih =>
    intro x1 x2 m
    show Rf vU G X 27 [(0, hA G 96), (1, .int x1), (2, .int x2)] [] m (s_X11_works_27 fu (f_X11_works_27 fu n) x1 x2 m)
    unfold s_X11_works_27
    refine rf_iload_n C (n := 28) (q := 2) dX11_works_27 rfl rfl rfl ?_
    refine rf_aload_n C (n := 29) (q := 0) dX11_works_28 rfl rfl rfl ?_
    refine rf_getI C (n := 32) fl_RX11_22 ly_96 rfl dX11_works_29 rfl ?_
    refine rf_icmp_ge C (tgt := 48) (n := 35) dX11_works_32 (by decide) rfl (fun h7 => ?_) (fun h7 => ?_)
    · exact rf_lv _ [0, 1] rfl (r_X11_works_48 C K fu _ _)
    · refine rf_aload_n C (n := 36) (q := 0) dX11_works_35 rfl rfl rfl ?_
      refine rf_getS C (n := 39) fl_RX11_287 ly_96 rfl dX11_works_36 rfl ?_
      refine rf_iload_n C (n := 40) (q := 2) dX11_works_39 rfl rfl rfl ?_
      refine rf_iconst C (n := 41) (v := 0) dX11_works_40 rfl (by decide) ?_
      refine rf_guard (fun h69 => ?_)
      refine rf_iast C (n := 42) ly_120 h69 rfl dX11_works_41 rfl ?_
      refine rf_letM (fun m70 => ?_)
      refine rf_iinc2 C (n := 45) (q := 2) (fun y71 => [(2, .int y71), (0, hA G 96), (1, .int x1)]) dX11_works_42 rfl rfl (by decide) (by decide) (fun _ => rfl) (fun y71 => ?_)
      refine rf_goto C (n := 27) dX11_works_45 (by decide) ?_
      exact rf_lv _ [1, 2, 0] rfl (ih _ _ _)
noncomputable def f_X11_works (fu : Nat) (m : hM) : Option (Unit × hM) :=
  hLet (gI m 114 0) fun y1 =>
hBd (f_X11_readyBits fu m) fun y2 m3 =>
hLet (sI m3 96 34 y2) fun m4 =>
hLet (sI m4 96 35 0) fun m5 =>
hLet (sI m5 96 36 0) fun m6 =>
f_X11_works_27 fu fu y1 0 m6
set_option maxRecDepth 100000 in
set_option maxHeartbeats 4000000 in
theorem c_X11_works (G : hG) (fu : Nat) (m : hM) : Mt vU G 4 yX11_works cX11_works 4 none [hA G 96] m (f_X11_works fu m) := by
  refine mt_of (by decide +kernel) (Nat.le_of_ble_eq_true rfl) (fun X C K => ?_)
  have C : Cx G X 4 cX11_works 4 RX11 none := C
  show Rf vU G X 0 [(0, hA G 96)] [] m _
  unfold f_X11_works
  refine rf_aload_n C (n := 1) (q := 0) dX11_works_0 rfl rfl rfl ?_
  refine rf_getS C (n := 4) fl_RX11_140 ly_96 rfl dX11_works_1 rfl ?_
  refine rf_iconst C (n := 5) (v := 0) dX11_works_4 rfl (by decide) ?_
  refine rf_iald C (n := 6) (j := 0) ly_114 (by decide) (by decide) dX11_works_5 rfl ?_
  refine rf_letI (fun y1 => ?_)
  refine rf_istore_n C (n := 7) [(1, .int y1), (0, hA G 96)] dX11_works_6 rfl rfl (by decide) rfl ?_
  refine rf_aload_n C (n := 8) (q := 1) dX11_works_7 rfl rfl rfl ?_
  refine rf_aload_n C (n := 9) (q := 1) dX11_works_8 rfl rfl rfl ?_
  refine rf_callVi C (n := 12) (c_X11_readyBits G fu _) mw_RX11_275 ly_96 rfl ⟨by decide, by decide⟩ rfl (Nat.le_of_ble_eq_true rfl) rfl dX11_works_9 rfl (fun y2 m3 => ?_)
  refine rf_putI C (n := 15) pl_RX11_278 ly_96 rfl ⟨rfl, rfl⟩ dX11_works_12 rfl ?_
  refine rf_letM (fun m4 => ?_)
  refine rf_aload_n C (n := 16) (q := 1) dX11_works_15 rfl rfl rfl ?_
  refine rf_iconst C (n := 17) (v := 0) dX11_works_16 rfl (by decide) ?_
  refine rf_putI C (n := 20) pl_RX11_281 ly_96 rfl ⟨rfl, rfl⟩ dX11_works_17 rfl ?_
  refine rf_letM (fun m5 => ?_)
  refine rf_aload_n C (n := 21) (q := 1) dX11_works_20 rfl rfl rfl ?_
  refine rf_iconst C (n := 22) (v := 0) dX11_works_21 rfl (by decide) ?_
  refine rf_putI C (n := 25) pl_RX11_284 ly_96 rfl ⟨rfl, rfl⟩ dX11_works_22 rfl ?_
  refine rf_letM (fun m6 => ?_)
  refine rf_iconst C (n := 26) (v := 0) dX11_works_25 rfl (by decide) ?_
  refine rf_istore_n C (n := 27) [(2, .int 0), (1, .int y1), (0, hA G 96)] dX11_works_26 rfl rfl (by decide) rfl ?_
  exact rf_lv _ [2, 1, 0] rfl (r_X11_works_27 C K fu fu _ _ _)
noncomputable def f_X11_hands_119 (fu : Nat) (x1 : Int32) (x2 : Int32) (x5 : Int32) (m : hM) : Option (Int32 × hM) :=
  if hIn (3 + x1) 127 then (
hLet (sI m 114 (Int32.toNatClampNeg (3 + x1)) x2) fun m16 =>
some (x5, m16)) else none
set_option maxRecDepth 100000 in
set_option maxHeartbeats 4000000 in
theorem r_X11_hands_119 {G : hG} {X : hX} (C : Cx G X 6 cX11_hands 6 RX11 (some .int)) (K : Cr G X) (fu : Nat) (x1 : Int32) (x2 : Int32) (x5 : Int32) (m : hM) : Rf vI G X 119 [(0, hA G 96), (1, .int x1), (2, .int x2), (5, .int x5)] [] m (f_X11_hands_119 fu x1 x2 x5 m) := by
  unfold f_X11_hands_119
  refine rf_aload_n C (n := 120) (q := 0) dX11_hands_119 rfl rfl rfl ?_
  refine rf_getS C (n := 123) fl_RX11_140 ly_96 rfl dX11_hands_120 rfl ?_
  refine rf_iconst C (n := 124) (v := 3) dX11_hands_123 rfl (by decide) ?_
  refine rf_iload_n C (n := 125) (q := 1) dX11_hands_124 rfl rfl rfl ?_
  refine rf_iadd C (n := 126) dX11_hands_125 rfl ?_
  refine rf_iload_n C (n := 127) (q := 2) dX11_hands_126 rfl rfl rfl ?_
  refine rf_guard (fun h15 => ?_)
  refine rf_iast C (n := 128) ly_114 h15 rfl dX11_hands_127 rfl ?_
  refine rf_letM (fun m16 => ?_)
  refine rf_iload C (n := 130) (q := 3) dX11_hands_128 rfl rfl ?_
  exact rf_iret C K dX11_hands_130
noncomputable def f_X11_hands (fu : Nat) (x1 : Int32) (x2 : Int32) (x3 : Int32) (m : hM) : Option (Int32 × hM) :=
  if hIn (3 + x1) 127 then (
hLet (gI m 114 (Int32.toNatClampNeg (3 + x1))) fun y2 =>
hBd (f_X11_lostOf fu y2 x2 x3 m) fun y3 m4 =>
if hIn (11 + x1) 127 then (
if hIn (11 + x1) 127 then (
hLet (sI m4 114 (Int32.toNatClampNeg (11 + x1)) ((gI m4 114 (Int32.toNatClampNeg (11 + x1))) + y3)) fun m7 =>
if hIn (59 + x1) 127 then (
if hIn (59 + x1) 127 then (
hLet (sI m7 114 (Int32.toNatClampNeg (59 + x1)) ((gI m7 114 (Int32.toNatClampNeg (59 + x1))) + y3)) fun m10 =>
if hIn (51 + x1) 127 then (
if hIn (51 + x1) 127 then (
hLet (sI m10 114 (Int32.toNatClampNeg (51 + x1)) ((gI m10 114 (Int32.toNatClampNeg (51 + x1))) + 1)) fun m13 =>
if 60 ≤ (gI m13 114 2) then (
f_X11_hands_119 fu x1 x2 y3 m13) else (
if hIn ((6 * y2) + x2) 36 then (
if hIn (67 + (gI m13 114 2)) 127 then (
hLet (sI m13 114 (Int32.toNatClampNeg (67 + (gI m13 114 2))) (((gI m13 96 15) * (10 - (gI m13 107 (Int32.toNatClampNeg ((6 * y2) + x2))))) / 10)) fun m19 =>
hLet (sI m19 114 2 ((gI m19 114 2) + 1)) fun m20 =>
f_X11_hands_119 fu x1 x2 y3 m20) else none) else none)) else none) else none) else none) else none) else none) else none) else none
set_option maxRecDepth 100000 in
set_option maxHeartbeats 4000000 in
theorem c_X11_hands (G : hG) (fu : Nat) (x1 : Int32) (x2 : Int32) (x3 : Int32) (m : hM) : Mt vI G 6 yX11_hands cX11_hands 6 (some .int) [hA G 96, .int x1, .int x2, .int x3] m (f_X11_hands fu x1 x2 x3 m) := by
  refine mt_of (by decide +kernel) (Nat.le_of_ble_eq_true rfl) (fun X C K => ?_)
  have C : Cx G X 6 cX11_hands 6 RX11 (some .int) := C
  show Rf vI G X 0 [(0, hA G 96), (1, .int x1), (2, .int x2), (3, .int x3)] [] m _
  unfold f_X11_hands
  refine rf_aload_n C (n := 1) (q := 0) dX11_hands_0 rfl rfl rfl ?_
  refine rf_getS C (n := 4) fl_RX11_140 ly_96 rfl dX11_hands_1 rfl ?_
  refine rf_iconst C (n := 5) (v := 3) dX11_hands_4 rfl (by decide) ?_
  refine rf_iload_n C (n := 6) (q := 1) dX11_hands_5 rfl rfl rfl ?_
  refine rf_iadd C (n := 7) dX11_hands_6 rfl ?_
  refine rf_guard (fun h1 => ?_)
  refine rf_iald C (n := 8) ly_114 h1 rfl dX11_hands_7 rfl ?_
  refine rf_letI (fun y2 => ?_)
  refine rf_istore C (n := 10) [(4, .int y2), (0, hA G 96), (1, .int x1), (2, .int x2), (3, .int x3)] dX11_hands_8 rfl (by decide) rfl ?_
  refine rf_aload_n C (n := 11) (q := 1) dX11_hands_10 rfl rfl rfl ?_
  refine rf_iload C (n := 13) (q := 0) dX11_hands_11 rfl rfl ?_
  refine rf_iload_n C (n := 14) (q := 3) dX11_hands_13 rfl rfl rfl ?_
  refine rf_iload_n C (n := 15) (q := 4) dX11_hands_14 rfl rfl rfl ?_
  refine rf_callVi C (n := 18) (c_X11_lostOf G fu _ _ _ _) mw_RX11_132 ly_96 rfl ⟨by decide, by decide⟩ rfl (Nat.le_of_ble_eq_true rfl) rfl dX11_hands_15 rfl (fun y3 m4 => ?_)
  refine rf_istore C (n := 20) [(5, .int y3), (4, .int y2), (0, hA G 96), (1, .int x1), (2, .int x2), (3, .int x3)] dX11_hands_18 rfl (by decide) rfl ?_
  refine rf_aload_n C (n := 21) (q := 2) dX11_hands_20 rfl rfl rfl ?_
  refine rf_getS C (n := 24) fl_RX11_140 ly_96 rfl dX11_hands_21 rfl ?_
  refine rf_bipush C (n := 26) (v := 11) dX11_hands_24 rfl (by decide) ?_
  refine rf_iload_n C (n := 27) (q := 3) dX11_hands_26 rfl rfl rfl ?_
  refine rf_iadd C (n := 28) dX11_hands_27 rfl ?_
  refine rf_dup2 C (n := 29) dX11_hands_28 rfl rfl rfl ?_
  refine rf_guard (fun h5 => ?_)
  refine rf_iald C (n := 30) ly_114 h5 rfl dX11_hands_29 rfl ?_
  refine rf_iload C (n := 32) (q := 0) dX11_hands_30 rfl rfl ?_
  refine rf_iadd C (n := 33) dX11_hands_32 rfl ?_
  refine rf_guard (fun h6 => ?_)
  refine rf_iast C (n := 34) ly_114 h6 rfl dX11_hands_33 rfl ?_
  refine rf_letM (fun m7 => ?_)
  refine rf_aload_n C (n := 35) (q := 2) dX11_hands_34 rfl rfl rfl ?_
  refine rf_getS C (n := 38) fl_RX11_140 ly_96 rfl dX11_hands_35 rfl ?_
  refine rf_bipush C (n := 40) (v := 59) dX11_hands_38 rfl (by decide) ?_
  refine rf_iload_n C (n := 41) (q := 3) dX11_hands_40 rfl rfl rfl ?_
  refine rf_iadd C (n := 42) dX11_hands_41 rfl ?_
  refine rf_dup2 C (n := 43) dX11_hands_42 rfl rfl rfl ?_
  refine rf_guard (fun h8 => ?_)
  refine rf_iald C (n := 44) ly_114 h8 rfl dX11_hands_43 rfl ?_
  refine rf_iload C (n := 46) (q := 0) dX11_hands_44 rfl rfl ?_
  refine rf_iadd C (n := 47) dX11_hands_46 rfl ?_
  refine rf_guard (fun h9 => ?_)
  refine rf_iast C (n := 48) ly_114 h9 rfl dX11_hands_47 rfl ?_
  refine rf_letM (fun m10 => ?_)
  refine rf_aload_n C (n := 49) (q := 2) dX11_hands_48 rfl rfl rfl ?_
  refine rf_getS C (n := 52) fl_RX11_140 ly_96 rfl dX11_hands_49 rfl ?_
  refine rf_bipush C (n := 54) (v := 51) dX11_hands_52 rfl (by decide) ?_
  refine rf_iload_n C (n := 55) (q := 3) dX11_hands_54 rfl rfl rfl ?_
  refine rf_iadd C (n := 56) dX11_hands_55 rfl ?_
  refine rf_dup2 C (n := 57) dX11_hands_56 rfl rfl rfl ?_
  refine rf_guard (fun h11 => ?_)
  refine rf_iald C (n := 58) ly_114 h11 rfl dX11_hands_57 rfl ?_
  refine rf_iconst C (n := 59) (v := 1) dX11_hands_58 rfl (by decide) ?_
  refine rf_iadd C (n := 60) dX11_hands_59 rfl ?_
  refine rf_guard (fun h12 => ?_)
  refine rf_iast C (n := 61) ly_114 h12 rfl dX11_hands_60 rfl ?_
  refine rf_letM (fun m13 => ?_)
  refine rf_aload_n C (n := 62) (q := 2) dX11_hands_61 rfl rfl rfl ?_
  refine rf_getS C (n := 65) fl_RX11_140 ly_96 rfl dX11_hands_62 rfl ?_
  refine rf_iconst C (n := 66) (v := 2) dX11_hands_65 rfl (by decide) ?_
  refine rf_iald C (n := 67) (j := 2) ly_114 (by decide) (by decide) dX11_hands_66 rfl ?_
  refine rf_bipush C (n := 69) (v := 60) dX11_hands_67 rfl (by decide) ?_
  refine rf_icmp_ge C (tgt := 119) (n := 72) dX11_hands_69 (by decide) rfl (fun h14 => ?_) (fun h14 => ?_)
  · exact rf_lv _ [2, 3, 4, 0] rfl (r_X11_hands_119 C K fu _ _ _ _)
  · refine rf_aload_n C (n := 73) (q := 2) dX11_hands_72 rfl rfl rfl ?_
    refine rf_getS C (n := 76) fl_RX11_140 ly_96 rfl dX11_hands_73 rfl ?_
    refine rf_bipush C (n := 78) (v := 67) dX11_hands_76 rfl (by decide) ?_
    refine rf_aload_n C (n := 79) (q := 2) dX11_hands_78 rfl rfl rfl ?_
    refine rf_getS C (n := 82) fl_RX11_140 ly_96 rfl dX11_hands_79 rfl ?_
    refine rf_iconst C (n := 83) (v := 2) dX11_hands_82 rfl (by decide) ?_
    refine rf_iald C (n := 84) (j := 2) ly_114 (by decide) (by decide) dX11_hands_83 rfl ?_
    refine rf_iadd C (n := 85) dX11_hands_84 rfl ?_
    refine rf_aload_n C (n := 86) (q := 2) dX11_hands_85 rfl rfl rfl ?_
    refine rf_getI C (n := 89) fl_RX11_111 ly_96 rfl dX11_hands_86 rfl ?_
    refine rf_bipush C (n := 91) (v := 10) dX11_hands_89 rfl (by decide) ?_
    refine rf_aload_n C (n := 92) (q := 2) dX11_hands_91 rfl rfl rfl ?_
    refine rf_getS C (n := 95) fl_RX11_60 ly_96 rfl dX11_hands_92 rfl ?_
    refine rf_bipush C (n := 97) (v := 6) dX11_hands_95 rfl (by decide) ?_
    refine rf_iload C (n := 99) (q := 1) dX11_hands_97 rfl rfl ?_
    refine rf_imul C (n := 100) dX11_hands_99 rfl ?_
    refine rf_iload_n C (n := 101) (q := 4) dX11_hands_100 rfl rfl rfl ?_
    refine rf_iadd C (n := 102) dX11_hands_101 rfl ?_
    refine rf_guard (fun h17 => ?_)
    refine rf_iald C (n := 103) ly_107 h17 rfl dX11_hands_102 rfl ?_
    refine rf_isub C (n := 104) dX11_hands_103 rfl ?_
    refine rf_imul C (n := 105) dX11_hands_104 rfl ?_
    refine rf_bipush C (n := 107) (v := 10) dX11_hands_105 rfl (by decide) ?_
    refine rf_idiv C (n := 108) dX11_hands_107 rfl (by decide) ?_
    refine rf_guard (fun h18 => ?_)
    refine rf_iast C (n := 109) ly_114 h18 rfl dX11_hands_108 rfl ?_
    refine rf_letM (fun m19 => ?_)
    refine rf_aload_n C (n := 110) (q := 2) dX11_hands_109 rfl rfl rfl ?_
    refine rf_getS C (n := 113) fl_RX11_140 ly_96 rfl dX11_hands_110 rfl ?_
    refine rf_iconst C (n := 114) (v := 2) dX11_hands_113 rfl (by decide) ?_
    refine rf_dup2 C (n := 115) dX11_hands_114 rfl rfl rfl ?_
    refine rf_iald C (n := 116) (j := 2) ly_114 (by decide) (by decide) dX11_hands_115 rfl ?_
    refine rf_iconst C (n := 117) (v := 1) dX11_hands_116 rfl (by decide) ?_
    refine rf_iadd C (n := 118) dX11_hands_117 rfl ?_
    refine rf_iast C (n := 119) (j0 := 2) ly_114 (by decide) (by decide) dX11_hands_118 rfl ?_
    refine rf_letM (fun m20 => ?_)
    exact rf_lv _ [2, 3, 4, 0] rfl (r_X11_hands_119 C K fu _ _ _ _)
noncomputable def f_X11_closes_163 (fu : Nat) (k9 : Int32 → Int32 → hM → Option (Unit × hM)) (x1 : Int32) (x2 : Int32) (m : hM) : Option (Unit × hM) :=
  hLet (x2 + 1) fun y9 =>
k9 x1 y9 m
set_option maxRecDepth 100000 in
set_option maxHeartbeats 4000000 in
theorem r_X11_closes_163 {G : hG} {X : hX} (C : Cx G X 8 cX11_closes 8 RX11 none) (K : Cr G X) (fu : Nat) (k9 : Int32 → Int32 → hM → Option (Unit × hM)) (hk9 : ∀ (x1 : Int32) (x2 : Int32) (m : hM), Rf vU G X 9 [(0, hA G 96), (1, .int x1), (2, .int x2)] [] m (k9 x1 x2 m)) (x1 : Int32) (x2 : Int32) (m : hM) : Rf vU G X 163 [(0, hA G 96), (1, .int x1), (2, .int x2)] [] m (f_X11_closes_163 fu k9 x1 x2 m) := by
  unfold f_X11_closes_163
  refine rf_iinc2 C (n := 166) (q := 2) (fun y9 => [(2, .int y9), (0, hA G 96), (1, .int x1)]) dX11_closes_163 rfl rfl (by decide) (by decide) (fun _ => rfl) (fun y9 => ?_)
  refine rf_goto C (n := 9) dX11_closes_166 (by decide) ?_
  exact rf_lv _ [1, 2, 0] rfl (hk9 _ _ _)
noncomputable def f_X11_closes_146 (fu : Nat) (k9 : Int32 → Int32 → hM → Option (Unit × hM)) (x1 : Int32) (x2 : Int32) (x3 : Int32) (x4 : Int32) (m : hM) : Option (Unit × hM) :=
  if x4 = x3 then (
f_X11_closes_163 fu k9 x1 x2 m) else (
hBd (f_X11_hands fu x2 x4 (x1 + 1) m) fun y23 m24 =>
f_X11_closes_163 fu k9 x1 x2 m24)
set_option maxRecDepth 100000 in
set_option maxHeartbeats 4000000 in
theorem r_X11_closes_146 {G : hG} {X : hX} (C : Cx G X 8 cX11_closes 8 RX11 none) (K : Cr G X) (fu : Nat) (k9 : Int32 → Int32 → hM → Option (Unit × hM)) (hk9 : ∀ (x1 : Int32) (x2 : Int32) (m : hM), Rf vU G X 9 [(0, hA G 96), (1, .int x1), (2, .int x2)] [] m (k9 x1 x2 m)) (x1 : Int32) (x2 : Int32) (x3 : Int32) (x4 : Int32) (m : hM) : Rf vU G X 146 [(0, hA G 96), (1, .int x1), (2, .int x2), (3, .int x3), (4, .int x4)] [] m (f_X11_closes_146 fu k9 x1 x2 x3 x4 m) := by
  unfold f_X11_closes_146
  refine rf_iload C (n := 148) (q := 4) dX11_closes_146 rfl rfl ?_
  refine rf_iload_n C (n := 149) (q := 3) dX11_closes_148 rfl rfl rfl ?_
  refine rf_icmp_eq C (tgt := 163) (n := 152) dX11_closes_149 (by decide) rfl (fun h22 => ?_) (fun h22 => ?_)
  · exact rf_lv _ [0, 1, 2] rfl (r_X11_closes_163 C K fu _ hk9 _ _ _)
  · refine rf_aload_n C (n := 153) (q := 0) dX11_closes_152 rfl rfl rfl ?_
    refine rf_iload_n C (n := 154) (q := 2) dX11_closes_153 rfl rfl rfl ?_
    refine rf_iload C (n := 156) (q := 4) dX11_closes_154 rfl rfl ?_
    refine rf_iload_n C (n := 157) (q := 1) dX11_closes_156 rfl rfl rfl ?_
    refine rf_iconst C (n := 158) (v := 1) dX11_closes_157 rfl (by decide) ?_
    refine rf_iadd C (n := 159) dX11_closes_158 rfl ?_
    refine rf_callVi C (n := 162) (c_X11_hands G fu _ _ _ _) mw_RX11_294 ly_96 rfl ⟨by decide, by decide⟩ rfl (Nat.le_of_ble_eq_true rfl) rfl dX11_closes_159 rfl (fun y23 m24 => ?_)
    refine rf_pop C (n := 163) dX11_closes_162 rfl rfl ?_
    exact rf_lv _ [0, 1, 2] rfl (r_X11_closes_163 C K fu _ hk9 _ _ _)
noncomputable def f_X11_closes_129 (fu : Nat) (k9 : Int32 → Int32 → hM → Option (Unit × hM)) (k94 : Int32 → Int32 → Int32 → Int32 → Int32 → Int32 → hM → Option (Unit × hM)) (x1 : Int32) (x2 : Int32) (x3 : Int32) (x5 : Int32) (x6 : Int32) (x7 : Int32) (s0 : Int32) (m : hM) : Option (Unit × hM) :=
  hBd (f_J9_max_7cf53 fu x5 x7 m) fun y28 m29 =>
hLet (x6 + 1) fun y30 =>
k94 x1 x2 x3 s0 y28 y30 m29
set_option maxRecDepth 100000 in
set_option maxHeartbeats 4000000 in
theorem r_X11_closes_129 {G : hG} {X : hX} (C : Cx G X 8 cX11_closes 8 RX11 none) (K : Cr G X) (fu : Nat) (k9 : Int32 → Int32 → hM → Option (Unit × hM)) (hk9 : ∀ (x1 : Int32) (x2 : Int32) (m : hM), Rf vU G X 9 [(0, hA G 96), (1, .int x1), (2, .int x2)] [] m (k9 x1 x2 m)) (k94 : Int32 → Int32 → Int32 → Int32 → Int32 → Int32 → hM → Option (Unit × hM)) (hk94 : ∀ (x1 : Int32) (x2 : Int32) (x3 : Int32) (x4 : Int32) (x5 : Int32) (x6 : Int32) (m : hM), Rf vU G X 94 [(0, hA G 96), (1, .int x1), (2, .int x2), (3, .int x3), (4, .int x4), (5, .int x5), (6, .int x6)] [] m (k94 x1 x2 x3 x4 x5 x6 m)) (x1 : Int32) (x2 : Int32) (x3 : Int32) (x5 : Int32) (x6 : Int32) (x7 : Int32) (s0 : Int32) (m : hM) : Rf vU G X 129 [(0, hA G 96), (1, .int x1), (2, .int x2), (3, .int x3), (5, .int x5), (6, .int x6), (7, .int x7)] [.int s0] m (f_X11_closes_129 fu k9 k94 x1 x2 x3 x5 x6 x7 s0 m) := by
  unfold f_X11_closes_129
  refine rf_istore C (n := 131) [(4, .int s0), (0, hA G 96), (1, .int x1), (2, .int x2), (3, .int x3), (5, .int x5), (6, .int x6), (7, .int x7)] dX11_closes_129 rfl (by decide) rfl ?_
  refine rf_iload C (n := 133) (q := 5) dX11_closes_131 rfl rfl ?_
  refine rf_iload C (n := 135) (q := 7) dX11_closes_133 rfl rfl ?_
  refine rf_callSi C (n := 138) (c_J9_max_7cf53 G fu _ _ _) sw_RX11_101 ⟨by decide, by decide⟩ rfl (Nat.le_of_ble_eq_true rfl) rfl dX11_closes_135 rfl (fun y28 m29 => ?_)
  refine rf_istore C (n := 140) [(5, .int y28), (4, .int s0), (0, hA G 96), (1, .int x1), (2, .int x2), (3, .int x3), (6, .int x6), (7, .int x7)] dX11_closes_138 rfl (by decide) rfl ?_
  refine rf_iinc2 C (n := 143) (q := 6) (fun y30 => [(6, .int y30), (5, .int y28), (4, .int s0), (0, hA G 96), (1, .int x1), (2, .int x2), (3, .int x3), (7, .int x7)]) dX11_closes_140 rfl rfl (by decide) (by decide) (fun _ => rfl) (fun y30 => ?_)
  refine rf_goto C (n := 94) dX11_closes_143 (by decide) ?_
  exact rf_lv _ [3, 4, 5, 6, 2, 1, 0] rfl (hk94 _ _ _ _ _ _ _)
noncomputable def s_X11_closes_94 (fu : Nat) (k9 : Int32 → Int32 → hM → Option (Unit × hM)) (ih : Int32 → Int32 → Int32 → Int32 → Int32 → Int32 → hM → Option (Unit × hM)) (x1 : Int32) (x2 : Int32) (x3 : Int32) (x4 : Int32) (x5 : Int32) (x6 : Int32) (m : hM) : Option (Unit × hM) :=
  if (gI m 96 3) ≤ x6 then (
f_X11_closes_146 fu k9 x1 x2 x3 x4 m) else (
hBd (f_X11_worked fu x2 x6 (x1 + 1) m) fun y25 m26 =>
if y25 ≤ x5 then (
f_X11_closes_129 fu k9 ih x1 x2 x3 x5 x6 y25 x4 m26) else (
f_X11_closes_129 fu k9 ih x1 x2 x3 x5 x6 y25 x6 m26))
noncomputable def f_X11_closes_94 (fu : Nat) (k9 : Int32 → Int32 → hM → Option (Unit × hM)) (n : Nat) : Int32 → Int32 → Int32 → Int32 → Int32 → Int32 → hM → Option (Unit × hM) :=
  Nat.rec (motive := fun _ => Int32 → Int32 → Int32 → Int32 → Int32 → Int32 → hM → Option (Unit × hM)) (fun _ _ _ _ _ _ _ => none) (fun _ ih => s_X11_closes_94 fu k9 ih) n
theorem f_X11_closes_94_s (fu : Nat) (k9 : Int32 → Int32 → hM → Option (Unit × hM)) (n : Nat) (x1 : Int32) (x2 : Int32) (x3 : Int32) (x4 : Int32) (x5 : Int32) (x6 : Int32) (m : hM) : f_X11_closes_94 fu k9 (n + 1) x1 x2 x3 x4 x5 x6 m = s_X11_closes_94 fu k9 (f_X11_closes_94 fu k9 n) x1 x2 x3 x4 x5 x6 m := rfl
set_option maxRecDepth 100000 in
set_option maxHeartbeats 4000000 in
theorem r_X11_closes_94 {G : hG} {X : hX} (C : Cx G X 8 cX11_closes 8 RX11 none) (K : Cr G X) (fu : Nat) (k9 : Int32 → Int32 → hM → Option (Unit × hM)) (hk9 : ∀ (x1 : Int32) (x2 : Int32) (m : hM), Rf vU G X 9 [(0, hA G 96), (1, .int x1), (2, .int x2)] [] m (k9 x1 x2 m)) (n : Nat) : ∀ (x1 : Int32) (x2 : Int32) (x3 : Int32) (x4 : Int32) (x5 : Int32) (x6 : Int32) (m : hM), Rf vU G X 94 [(0, hA G 96), (1, .int x1), (2, .int x2), (3, .int x3), (4, .int x4), (5, .int x5), (6, .int x6)] [] m (f_X11_closes_94 fu k9 n x1 x2 x3 x4 x5 x6 m) := by
  induction n with
  | zero => intros; exact rf_none
  | succ n ih =>
    intro x1 x2 x3 x4 x5 x6 m
    show Rf vU G X 94 [(0, hA G 96), (1, .int x1), (2, .int x2), (3, .int x3), (4, .int x4), (5, .int x5), (6, .int x6)] [] m (s_X11_closes_94 fu k9 (f_X11_closes_94 fu k9 n) x1 x2 x3 x4 x5 x6 m)
    unfold s_X11_closes_94
    refine rf_iload C (n := 96) (q := 6) dX11_closes_94 rfl rfl ?_
    refine rf_aload_n C (n := 97) (q := 0) dX11_closes_96 rfl rfl rfl ?_
    refine rf_getI C (n := 100) fl_RX11_22 ly_96 rfl dX11_closes_97 rfl ?_
    refine rf_icmp_ge C (tgt := 146) (n := 103) dX11_closes_100 (by decide) rfl (fun h21 => ?_) (fun h21 => ?_)
    · exact rf_lv _ [0, 1, 2, 3, 4] rfl (r_X11_closes_146 C K fu _ hk9 _ _ _ _ _)
    · refine rf_aload_n C (n := 104) (q := 0) dX11_closes_103 rfl rfl rfl ?_
      refine rf_iload_n C (n := 105) (q := 2) dX11_closes_104 rfl rfl rfl ?_
      refine rf_iload C (n := 107) (q := 6) dX11_closes_105 rfl rfl ?_
      refine rf_iload_n C (n := 108) (q := 1) dX11_closes_107 rfl rfl rfl ?_
      refine rf_iconst C (n := 109) (v := 1) dX11_closes_108 rfl (by decide) ?_
      refine rf_iadd C (n := 110) dX11_closes_109 rfl ?_
      refine rf_callVi C (n := 113) (c_X11_worked G fu _ _ _ _) mw_RX11_262 ly_96 rfl ⟨by decide, by decide⟩ rfl (Nat.le_of_ble_eq_true rfl) rfl dX11_closes_110 rfl (fun y25 m26 => ?_)
      refine rf_istore C (n := 115) [(7, .int y25), (0, hA G 96), (1, .int x1), (2, .int x2), (3, .int x3), (4, .int x4), (5, .int x5), (6, .int x6)] dX11_closes_113 rfl (by decide) rfl ?_
      refine rf_iload C (n := 117) (q := 0) dX11_closes_115 rfl rfl ?_
      refine rf_iload C (n := 119) (q := 6) dX11_closes_117 rfl rfl ?_
      refine rf_icmp_le C (tgt := 127) (n := 122) dX11_closes_119 (by decide) rfl (fun h27 => ?_) (fun h27 => ?_)
      · refine rf_iload C (n := 129) (q := 5) dX11_closes_127 rfl rfl ?_
        exact rf_lv _ [1, 2, 3, 4, 6, 7, 0] rfl (r_X11_closes_129 C K fu _ hk9 _ ih _ _ _ _ _ _ _ _)
      · refine rf_iload C (n := 124) (q := 7) dX11_closes_122 rfl rfl ?_
        refine rf_goto C (n := 129) dX11_closes_124 (by decide) ?_
        exact rf_lv _ [1, 2, 3, 4, 6, 7, 0] rfl (r_X11_closes_129 C K fu _ hk9 _ ih _ _ _ _ _ _ _ _)
noncomputable def s_X11_closes_9 (fu : Nat) (ih : Int32 → Int32 → hM → Option (Unit × hM)) (x1 : Int32) (x2 : Int32) (m : hM) : Option (Unit × hM) :=
  if (gI m 96 16) ≤ x2 then (
some ((), m)) else (
if (gI m 117 0) ≤ 0 then (
some ((), m)) else (
if hIn (3 + x2) 127 then (
hLet (gI m 114 (Int32.toNatClampNeg (3 + x2))) fun y5 =>
hBd (f_X11_has fu (gI m 96 34) x2 m) fun y6 m7 =>
if y6 = 0 then (
f_X11_closes_163 fu ih x1 x2 m7) else (
hBd (f_X11_isDone fu x2 m7) fun y10 m11 =>
if ¬ y10 = 0 then (
f_X11_closes_163 fu ih x1 x2 m11) else (
hBd (f_X11_isOpen fu y5 x1 m11) fun y13 m14 =>
if y13 = 0 then (
f_X11_closes_163 fu ih x1 x2 m14) else (
hBd (f_X11_isOpen fu y5 (x1 + 1) m14) fun y16 m17 =>
if y16 = 0 then (
hBd (f_X11_worked fu x2 0 (x1 + 1) m17) fun y19 m20 =>
f_X11_closes_94 fu ih fu x1 x2 y5 0 y19 1 m20) else (
f_X11_closes_163 fu ih x1 x2 m17))))) else none))
noncomputable def f_X11_closes_9 (fu : Nat) (n : Nat) : Int32 → Int32 → hM → Option (Unit × hM) :=
  Nat.rec (motive := fun _ => Int32 → Int32 → hM → Option (Unit × hM)) (fun _ _ _ => none) (fun _ ih => s_X11_closes_9 fu ih) n
theorem f_X11_closes_9_s (fu : Nat) (n : Nat) (x1 : Int32) (x2 : Int32) (m : hM) : f_X11_closes_9 fu (n + 1) x1 x2 m = s_X11_closes_9 fu (f_X11_closes_9 fu n) x1 x2 m := rfl
set_option maxRecDepth 100000 in
set_option maxHeartbeats 4000000 in
theorem r_X11_closes_9 {G : hG} {X : hX} (C : Cx G X 8 cX11_closes 8 RX11 none) (K : Cr G X) (fu : Nat) (n : Nat) : ∀ (x1 : Int32) (x2 : Int32) (m : hM), Rf vU G X 9 [(0, hA G 96), (1, .int x1), (2, .int x2)] [] m (f_X11_closes_9 fu n x1 x2 m) := by
  induction n with
  | zero => intros; exact rf_none
  | succ n ih =>
    intro x1 x2 m
    show Rf vU G X 9 [(0, hA G 96), (1, .int x1), (2, .int x2)] [] m (s_X11_closes_9 fu (f_X11_closes_9 fu n) x1 x2 m)
    unfold s_X11_closes_9
    refine rf_iload_n C (n := 10) (q := 2) dX11_closes_9 rfl rfl rfl ?_
    refine rf_aload_n C (n := 11) (q := 0) dX11_closes_10 rfl rfl rfl ?_
    refine rf_getI C (n := 14) fl_RX11_151 ly_96 rfl dX11_closes_11 rfl ?_
    refine rf_icmp_ge C (tgt := 169) (n := 17) dX11_closes_14 (by decide) rfl (fun h2 => ?_) (fun h2 => ?_)
    · exact rf_vret C K dX11_closes_169
    · refine rf_aload_n C (n := 18) (q := 0) dX11_closes_17 rfl rfl rfl ?_
      refine rf_getS C (n := 21) fl_RX11_199 ly_96 rfl dX11_closes_18 rfl ?_
      refine rf_iconst C (n := 22) (v := 0) dX11_closes_21 rfl (by decide) ?_
      refine rf_iald C (n := 23) (j := 0) ly_117 (by decide) (by decide) dX11_closes_22 rfl ?_
      refine rf_if_le C (tgt := 169) (n := 26) dX11_closes_23 (by decide) rfl (fun h3 => ?_) (fun h3 => ?_)
      · exact rf_vret C K dX11_closes_169
      · refine rf_aload_n C (n := 27) (q := 0) dX11_closes_26 rfl rfl rfl ?_
        refine rf_getS C (n := 30) fl_RX11_140 ly_96 rfl dX11_closes_27 rfl ?_
        refine rf_iconst C (n := 31) (v := 3) dX11_closes_30 rfl (by decide) ?_
        refine rf_iload_n C (n := 32) (q := 2) dX11_closes_31 rfl rfl rfl ?_
        refine rf_iadd C (n := 33) dX11_closes_32 rfl ?_
        refine rf_guard (fun h4 => ?_)
        refine rf_iald C (n := 34) ly_114 h4 rfl dX11_closes_33 rfl ?_
        refine rf_letI (fun y5 => ?_)
        refine rf_istore_n C (n := 35) [(3, .int y5), (0, hA G 96), (1, .int x1), (2, .int x2)] dX11_closes_34 rfl rfl (by decide) rfl ?_
        refine rf_aload_n C (n := 36) (q := 1) dX11_closes_35 rfl rfl rfl ?_
        refine rf_getI C (n := 39) fl_RX11_278 ly_96 rfl dX11_closes_36 rfl ?_
        refine rf_iload_n C (n := 40) (q := 3) dX11_closes_39 rfl rfl rfl ?_
        refine rf_callSi C (n := 43) (c_X11_has G fu _ _ _) sw_RX11_137 ⟨by decide, by decide⟩ rfl (Nat.le_of_ble_eq_true rfl) rfl dX11_closes_40 rfl (fun y6 m7 => ?_)
        refine rf_if_eq C (tgt := 163) (n := 46) dX11_closes_43 (by decide) rfl (fun h8 => ?_) (fun h8 => ?_)
        · exact rf_lv _ [1, 2, 3] rfl (r_X11_closes_163 C K fu _ ih _ _ _)
        · refine rf_aload_n C (n := 47) (q := 1) dX11_closes_46 rfl rfl rfl ?_
          refine rf_iload_n C (n := 48) (q := 3) dX11_closes_47 rfl rfl rfl ?_
          refine rf_callVi C (n := 51) (c_X11_isDone G fu _ _) mw_RX11_265 ly_96 rfl ⟨by decide, by decide⟩ rfl (Nat.le_of_ble_eq_true rfl) rfl dX11_closes_48 rfl (fun y10 m11 => ?_)
          refine rf_if_ne C (tgt := 163) (n := 54) dX11_closes_51 (by decide) rfl (fun h12 => ?_) (fun h12 => ?_)
          · exact rf_lv _ [1, 2, 3] rfl (r_X11_closes_163 C K fu _ ih _ _ _)
          · refine rf_aload_n C (n := 55) (q := 1) dX11_closes_54 rfl rfl rfl ?_
            refine rf_iload_n C (n := 56) (q := 0) dX11_closes_55 rfl rfl rfl ?_
            refine rf_iload_n C (n := 57) (q := 2) dX11_closes_56 rfl rfl rfl ?_
            refine rf_callVi C (n := 60) (c_X11_isOpen G fu _ _ _) mw_RX11_120 ly_96 rfl ⟨by decide, by decide⟩ rfl (Nat.le_of_ble_eq_true rfl) rfl dX11_closes_57 rfl (fun y13 m14 => ?_)
            refine rf_if_eq C (tgt := 163) (n := 63) dX11_closes_60 (by decide) rfl (fun h15 => ?_) (fun h15 => ?_)
            · exact rf_lv _ [1, 2, 3] rfl (r_X11_closes_163 C K fu _ ih _ _ _)
            · refine rf_aload_n C (n := 64) (q := 1) dX11_closes_63 rfl rfl rfl ?_
              refine rf_iload_n C (n := 65) (q := 0) dX11_closes_64 rfl rfl rfl ?_
              refine rf_iload_n C (n := 66) (q := 2) dX11_closes_65 rfl rfl rfl ?_
              refine rf_iconst C (n := 67) (v := 1) dX11_closes_66 rfl (by decide) ?_
              refine rf_iadd C (n := 68) dX11_closes_67 rfl ?_
              refine rf_callVi C (n := 71) (c_X11_isOpen G fu _ _ _) mw_RX11_120 ly_96 rfl ⟨by decide, by decide⟩ rfl (Nat.le_of_ble_eq_true rfl) rfl dX11_closes_68 rfl (fun y16 m17 => ?_)
              refine rf_if_eq C (tgt := 77) (n := 74) dX11_closes_71 (by decide) rfl (fun h18 => ?_) (fun h18 => ?_)
              · refine rf_iconst C (n := 78) (v := 0) dX11_closes_77 rfl (by decide) ?_
                refine rf_istore C (n := 80) [(4, .int 0), (3, .int y5), (0, hA G 96), (1, .int x1), (2, .int x2)] dX11_closes_78 rfl (by decide) rfl ?_
                refine rf_aload_n C (n := 81) (q := 2) dX11_closes_80 rfl rfl rfl ?_
                refine rf_iload_n C (n := 82) (q := 4) dX11_closes_81 rfl rfl rfl ?_
                refine rf_iconst C (n := 83) (v := 0) dX11_closes_82 rfl (by decide) ?_
                refine rf_iload_n C (n := 84) (q := 3) dX11_closes_83 rfl rfl rfl ?_
                refine rf_iconst C (n := 85) (v := 1) dX11_closes_84 rfl (by decide) ?_
                refine rf_iadd C (n := 86) dX11_closes_85 rfl ?_
                refine rf_callVi C (n := 89) (c_X11_worked G fu _ _ _ _) mw_RX11_262 ly_96 rfl ⟨by decide, by decide⟩ rfl (Nat.le_of_ble_eq_true rfl) rfl dX11_closes_86 rfl (fun y19 m20 => ?_)
                refine rf_istore C (n := 91) [(5, .int y19), (4, .int 0), (3, .int y5), (0, hA G 96), (1, .int x1), (2, .int x2)] dX11_closes_89 rfl (by decide) rfl ?_
                refine rf_iconst C (n := 92) (v := 1) dX11_closes_91 rfl (by decide) ?_
                refine rf_istore C (n := 94) [(6, .int 1), (5, .int y19), (4, .int 0), (3, .int y5), (0, hA G 96), (1, .int x1), (2, .int x2)] dX11_closes_92 rfl (by decide) rfl ?_
                exact rf_lv _ [4, 5, 6, 3, 2, 1, 0] rfl (r_X11_closes_94 C K fu _ ih fu _ _ _ _ _ _ _)
              · refine rf_goto C (n := 163) dX11_closes_74 (by decide) ?_
                exact rf_lv _ [1, 2, 3] rfl (r_X11_closes_163 C K fu _ ih _ _ _)
noncomputable def f_X11_closes (fu : Nat) (m : hM) : Option (Unit × hM) :=
  hLet (gI m 114 0) fun y1 =>
f_X11_closes_9 fu fu y1 0 m
set_option maxRecDepth 100000 in
set_option maxHeartbeats 4000000 in
theorem c_X11_closes (G : hG) (fu : Nat) (m : hM) : Mt vU G 8 yX11_closes cX11_closes 8 none [hA G 96] m (f_X11_closes fu m) := by
  refine mt_of (by decide +kernel) (Nat.le_of_ble_eq_true rfl) (fun X C K => ?_)
  have C : Cx G X 8 cX11_closes 8 RX11 none := C
  show Rf vU G X 0 [(0, hA G 96)] [] m _
  unfold f_X11_closes
  refine rf_aload_n C (n := 1) (q := 0) dX11_closes_0 rfl rfl rfl ?_
  refine rf_getS C (n := 4) fl_RX11_140 ly_96 rfl dX11_closes_1 rfl ?_
  refine rf_iconst C (n := 5) (v := 0) dX11_closes_4 rfl (by decide) ?_
  refine rf_iald C (n := 6) (j := 0) ly_114 (by decide) (by decide) dX11_closes_5 rfl ?_
  refine rf_letI (fun y1 => ?_)
  refine rf_istore_n C (n := 7) [(1, .int y1), (0, hA G 96)] dX11_closes_6 rfl rfl (by decide) rfl ?_
  refine rf_iconst C (n := 8) (v := 0) dX11_closes_7 rfl (by decide) ?_
  refine rf_istore_n C (n := 9) [(2, .int 0), (1, .int y1), (0, hA G 96)] dX11_closes_8 rfl rfl (by decide) rfl ?_
  exact rf_lv _ [2, 1, 0] rfl (r_X11_closes_9 C K fu fu _ _ _)
