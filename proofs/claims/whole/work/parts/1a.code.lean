theorem dX0_has_0 : decode cX0_has 0 = .ok (.iload_n 1, 1) := by decide +kernel
theorem dX0_has_1 : decode cX0_has 1 = .ok (.ifCond .lt 15, 3) := by decide +kernel
theorem dX0_has_4 : decode cX0_has 4 = .ok (.iload_n 1, 1) := by decide +kernel
theorem dX0_has_5 : decode cX0_has 5 = .ok (.aload_n 0, 1) := by decide +kernel
theorem dX0_has_6 : decode cX0_has 6 = .ok (.getfield 27, 3) := by decide +kernel
theorem dX0_has_9 : decode cX0_has 9 = .ok (.if_icmp .ge 7, 3) := by decide +kernel
theorem dX0_has_12 : decode cX0_has 12 = .ok (.iconst 1, 1) := by decide +kernel
theorem dX0_has_13 : decode cX0_has 13 = .ok (.goto 4, 3) := by decide +kernel
theorem dX0_has_16 : decode cX0_has 16 = .ok (.iconst 0, 1) := by decide +kernel
theorem dX0_has_17 : decode cX0_has 17 = .ok (.ireturn, 1) := by decide +kernel
theorem dJ9_max_7cf53_0 : decode cJ9_max_7cf53 0 = .ok (.iload_n 0, 1) := by decide +kernel
theorem dJ9_max_7cf53_1 : decode cJ9_max_7cf53 1 = .ok (.iload_n 1, 1) := by decide +kernel
theorem dJ9_max_7cf53_2 : decode cJ9_max_7cf53 2 = .ok (.if_icmp .lt 7, 3) := by decide +kernel
theorem dJ9_max_7cf53_5 : decode cJ9_max_7cf53 5 = .ok (.iload_n 0, 1) := by decide +kernel
theorem dJ9_max_7cf53_6 : decode cJ9_max_7cf53 6 = .ok (.goto 4, 3) := by decide +kernel
theorem dJ9_max_7cf53_9 : decode cJ9_max_7cf53 9 = .ok (.iload_n 1, 1) := by decide +kernel
theorem dJ9_max_7cf53_10 : decode cJ9_max_7cf53 10 = .ok (.ireturn, 1) := by decide +kernel
theorem dJ9_min_7cf53_0 : decode cJ9_min_7cf53 0 = .ok (.iload_n 0, 1) := by decide +kernel
theorem dJ9_min_7cf53_1 : decode cJ9_min_7cf53 1 = .ok (.iload_n 1, 1) := by decide +kernel
theorem dJ9_min_7cf53_2 : decode cJ9_min_7cf53 2 = .ok (.if_icmp .gt 7, 3) := by decide +kernel
theorem dJ9_min_7cf53_5 : decode cJ9_min_7cf53 5 = .ok (.iload_n 0, 1) := by decide +kernel
theorem dJ9_min_7cf53_6 : decode cJ9_min_7cf53 6 = .ok (.goto 4, 3) := by decide +kernel
theorem dJ9_min_7cf53_9 : decode cJ9_min_7cf53 9 = .ok (.iload_n 1, 1) := by decide +kernel
theorem dJ9_min_7cf53_10 : decode cJ9_min_7cf53 10 = .ok (.ireturn, 1) := by decide +kernel
theorem dJ9_floorDiv_7cf53_0 : decode cJ9_floorDiv_7cf53 0 = .ok (.iload_n 0, 1) := by decide +kernel
theorem dJ9_floorDiv_7cf53_1 : decode cJ9_floorDiv_7cf53 1 = .ok (.iload_n 1, 1) := by decide +kernel
theorem dJ9_floorDiv_7cf53_2 : decode cJ9_floorDiv_7cf53 2 = .ok (.idiv, 1) := by decide +kernel
theorem dJ9_floorDiv_7cf53_3 : decode cJ9_floorDiv_7cf53 3 = .ok (.istore_n 2, 1) := by decide +kernel
theorem dJ9_floorDiv_7cf53_4 : decode cJ9_floorDiv_7cf53 4 = .ok (.iload_n 0, 1) := by decide +kernel
theorem dJ9_floorDiv_7cf53_5 : decode cJ9_floorDiv_7cf53 5 = .ok (.iload_n 1, 1) := by decide +kernel
theorem dJ9_floorDiv_7cf53_6 : decode cJ9_floorDiv_7cf53 6 = .ok (.ixor, 1) := by decide +kernel
theorem dJ9_floorDiv_7cf53_7 : decode cJ9_floorDiv_7cf53 7 = .ok (.ifCond .ge 14, 3) := by decide +kernel
theorem dJ9_floorDiv_7cf53_10 : decode cJ9_floorDiv_7cf53 10 = .ok (.iload_n 2, 1) := by decide +kernel
theorem dJ9_floorDiv_7cf53_11 : decode cJ9_floorDiv_7cf53 11 = .ok (.iload_n 1, 1) := by decide +kernel
theorem dJ9_floorDiv_7cf53_12 : decode cJ9_floorDiv_7cf53 12 = .ok (.imul, 1) := by decide +kernel
theorem dJ9_floorDiv_7cf53_13 : decode cJ9_floorDiv_7cf53 13 = .ok (.iload_n 0, 1) := by decide +kernel
theorem dJ9_floorDiv_7cf53_14 : decode cJ9_floorDiv_7cf53 14 = .ok (.if_icmp .eq 7, 3) := by decide +kernel
theorem dJ9_floorDiv_7cf53_17 : decode cJ9_floorDiv_7cf53 17 = .ok (.iload_n 2, 1) := by decide +kernel
theorem dJ9_floorDiv_7cf53_18 : decode cJ9_floorDiv_7cf53 18 = .ok (.iconst 1, 1) := by decide +kernel
theorem dJ9_floorDiv_7cf53_19 : decode cJ9_floorDiv_7cf53 19 = .ok (.isub, 1) := by decide +kernel
theorem dJ9_floorDiv_7cf53_20 : decode cJ9_floorDiv_7cf53 20 = .ok (.ireturn, 1) := by decide +kernel
theorem dJ9_floorDiv_7cf53_21 : decode cJ9_floorDiv_7cf53 21 = .ok (.iload_n 2, 1) := by decide +kernel
theorem dJ9_floorDiv_7cf53_22 : decode cJ9_floorDiv_7cf53 22 = .ok (.ireturn, 1) := by decide +kernel
theorem dJ9_floorMod_7cf53_0 : decode cJ9_floorMod_7cf53 0 = .ok (.iload_n 0, 1) := by decide +kernel
theorem dJ9_floorMod_7cf53_1 : decode cJ9_floorMod_7cf53 1 = .ok (.iload_n 1, 1) := by decide +kernel
theorem dJ9_floorMod_7cf53_2 : decode cJ9_floorMod_7cf53 2 = .ok (.irem, 1) := by decide +kernel
theorem dJ9_floorMod_7cf53_3 : decode cJ9_floorMod_7cf53 3 = .ok (.istore_n 2, 1) := by decide +kernel
theorem dJ9_floorMod_7cf53_4 : decode cJ9_floorMod_7cf53 4 = .ok (.iload_n 0, 1) := by decide +kernel
theorem dJ9_floorMod_7cf53_5 : decode cJ9_floorMod_7cf53 5 = .ok (.iload_n 1, 1) := by decide +kernel
theorem dJ9_floorMod_7cf53_6 : decode cJ9_floorMod_7cf53 6 = .ok (.ixor, 1) := by decide +kernel
theorem dJ9_floorMod_7cf53_7 : decode cJ9_floorMod_7cf53 7 = .ok (.ifCond .ge 11, 3) := by decide +kernel
theorem dJ9_floorMod_7cf53_10 : decode cJ9_floorMod_7cf53 10 = .ok (.iload_n 2, 1) := by decide +kernel
theorem dJ9_floorMod_7cf53_11 : decode cJ9_floorMod_7cf53 11 = .ok (.ifCond .eq 7, 3) := by decide +kernel
theorem dJ9_floorMod_7cf53_14 : decode cJ9_floorMod_7cf53 14 = .ok (.iload_n 2, 1) := by decide +kernel
theorem dJ9_floorMod_7cf53_15 : decode cJ9_floorMod_7cf53 15 = .ok (.iload_n 1, 1) := by decide +kernel
theorem dJ9_floorMod_7cf53_16 : decode cJ9_floorMod_7cf53 16 = .ok (.iadd, 1) := by decide +kernel
theorem dJ9_floorMod_7cf53_17 : decode cJ9_floorMod_7cf53 17 = .ok (.ireturn, 1) := by decide +kernel
theorem dJ9_floorMod_7cf53_18 : decode cJ9_floorMod_7cf53 18 = .ok (.iload_n 2, 1) := by decide +kernel
theorem dJ9_floorMod_7cf53_19 : decode cJ9_floorMod_7cf53 19 = .ok (.ireturn, 1) := by decide +kernel
theorem dX10_isDay_0 : decode cX10_isDay 0 = .ok (.iload_n 0, 1) := by decide +kernel
theorem dX10_isDay_1 : decode cX10_isDay 1 = .ok (.ifCond .lt 13, 3) := by decide +kernel
theorem dX10_isDay_4 : decode cX10_isDay 4 = .ok (.iload_n 0, 1) := by decide +kernel
theorem dX10_isDay_5 : decode cX10_isDay 5 = .ok (.bipush 100, 2) := by decide +kernel
theorem dX10_isDay_7 : decode cX10_isDay 7 = .ok (.if_icmp .ge 7, 3) := by decide +kernel
theorem dX10_isDay_10 : decode cX10_isDay 10 = .ok (.iconst 1, 1) := by decide +kernel
theorem dX10_isDay_11 : decode cX10_isDay 11 = .ok (.goto 4, 3) := by decide +kernel
theorem dX10_isDay_14 : decode cX10_isDay 14 = .ok (.iconst 0, 1) := by decide +kernel
theorem dX10_isDay_15 : decode cX10_isDay 15 = .ok (.ireturn, 1) := by decide +kernel
theorem dX2_atWork_0 : decode cX2_atWork 0 = .ok (.iload_n 1, 1) := by decide +kernel
theorem dX2_atWork_1 : decode cX2_atWork 1 = .ok (.aload_n 0, 1) := by decide +kernel
theorem dX2_atWork_2 : decode cX2_atWork 2 = .ok (.getfield 15, 3) := by decide +kernel
theorem dX2_atWork_5 : decode cX2_atWork 5 = .ok (.iadd, 1) := by decide +kernel
theorem dX2_atWork_6 : decode cX2_atWork 6 = .ok (.iload_n 1, 1) := by decide +kernel
theorem dX2_atWork_7 : decode cX2_atWork 7 = .ok (.aload_n 0, 1) := by decide +kernel
theorem dX2_atWork_8 : decode cX2_atWork 8 = .ok (.getfield 34, 3) := by decide +kernel
theorem dX2_atWork_11 : decode cX2_atWork 11 = .ok (.if_icmp .lt 10, 3) := by decide +kernel
theorem dX2_atWork_14 : decode cX2_atWork 14 = .ok (.aload_n 0, 1) := by decide +kernel
theorem dX2_atWork_15 : decode cX2_atWork 15 = .ok (.getfield 37, 3) := by decide +kernel
theorem dX2_atWork_18 : decode cX2_atWork 18 = .ok (.goto 4, 3) := by decide +kernel
theorem dX2_atWork_21 : decode cX2_atWork 21 = .ok (.iconst 0, 1) := by decide +kernel
theorem dX2_atWork_22 : decode cX2_atWork 22 = .ok (.iadd, 1) := by decide +kernel
theorem dX2_atWork_23 : decode cX2_atWork 23 = .ok (.istore_n 2, 1) := by decide +kernel
theorem dX2_atWork_24 : decode cX2_atWork 24 = .ok (.iload_n 2, 1) := by decide +kernel
theorem dX2_atWork_25 : decode cX2_atWork 25 = .ok (.aload_n 0, 1) := by decide +kernel
theorem dX2_atWork_26 : decode cX2_atWork 26 = .ok (.getfield 19, 3) := by decide +kernel
theorem dX2_atWork_29 : decode cX2_atWork 29 = .ok (.isub, 1) := by decide +kernel
theorem dX2_atWork_30 : decode cX2_atWork 30 = .ok (.bipush 24, 2) := by decide +kernel
theorem dX2_atWork_32 : decode cX2_atWork 32 = .ok (.invokestatic 40, 3) := by decide +kernel
theorem dX2_atWork_35 : decode cX2_atWork 35 = .ok (.istore_n 3, 1) := by decide +kernel
theorem dX2_atWork_36 : decode cX2_atWork 36 = .ok (.iload_n 3, 1) := by decide +kernel
theorem dX2_atWork_37 : decode cX2_atWork 37 = .ok (.aload_n 0, 1) := by decide +kernel
theorem dX2_atWork_38 : decode cX2_atWork 38 = .ok (.getfield 22, 3) := by decide +kernel
theorem dX2_atWork_41 : decode cX2_atWork 41 = .ok (.if_icmp .lt 5, 3) := by decide +kernel
theorem dX2_atWork_44 : decode cX2_atWork 44 = .ok (.iconst 0, 1) := by decide +kernel
theorem dX2_atWork_45 : decode cX2_atWork 45 = .ok (.ireturn, 1) := by decide +kernel
theorem dX2_atWork_46 : decode cX2_atWork 46 = .ok (.iload_n 2, 1) := by decide +kernel
theorem dX2_atWork_47 : decode cX2_atWork 47 = .ok (.iload_n 3, 1) := by decide +kernel
theorem dX2_atWork_48 : decode cX2_atWork 48 = .ok (.isub, 1) := by decide +kernel
theorem dX2_atWork_49 : decode cX2_atWork 49 = .ok (.bipush 24, 2) := by decide +kernel
theorem dX2_atWork_51 : decode cX2_atWork 51 = .ok (.invokestatic 46, 3) := by decide +kernel
theorem dX2_atWork_54 : decode cX2_atWork 54 = .ok (.istore 4, 2) := by decide +kernel
theorem dX2_atWork_56 : decode cX2_atWork 56 = .ok (.iload 4, 2) := by decide +kernel
theorem dX2_atWork_58 : decode cX2_atWork 58 = .ok (.invokestatic 49, 3) := by decide +kernel
theorem dX2_atWork_61 : decode cX2_atWork 61 = .ok (.ifCond .eq 13, 3) := by decide +kernel
theorem dX2_atWork_64 : decode cX2_atWork 64 = .ok (.aload_n 0, 1) := by decide +kernel
theorem dX2_atWork_65 : decode cX2_atWork 65 = .ok (.getfield 9, 3) := by decide +kernel
theorem dX2_atWork_68 : decode cX2_atWork 68 = .ok (.iload 4, 2) := by decide +kernel
theorem dX2_atWork_70 : decode cX2_atWork 70 = .ok (.baload, 1) := by decide +kernel
theorem dX2_atWork_71 : decode cX2_atWork 71 = .ok (.ifCond .ne 7, 3) := by decide +kernel
theorem dX2_atWork_74 : decode cX2_atWork 74 = .ok (.iconst 1, 1) := by decide +kernel
theorem dX2_atWork_75 : decode cX2_atWork 75 = .ok (.goto 4, 3) := by decide +kernel
theorem dX2_atWork_78 : decode cX2_atWork 78 = .ok (.iconst 0, 1) := by decide +kernel
theorem dX2_atWork_79 : decode cX2_atWork 79 = .ok (.ireturn, 1) := by decide +kernel
theorem dX0_refresh_0 : decode cX0_refresh 0 = .ok (.iconst 1, 1) := by decide +kernel
theorem dX0_refresh_1 : decode cX0_refresh 1 = .ok (.iload_n 1, 1) := by decide +kernel
theorem dX0_refresh_2 : decode cX0_refresh 2 = .ok (.ishl, 1) := by decide +kernel
theorem dX0_refresh_3 : decode cX0_refresh 3 = .ok (.istore 4, 2) := by decide +kernel
theorem dX0_refresh_5 : decode cX0_refresh 5 = .ok (.iload_n 2, 1) := by decide +kernel
theorem dX0_refresh_6 : decode cX0_refresh 6 = .ok (.iconst 0, 1) := by decide +kernel
theorem dX0_refresh_7 : decode cX0_refresh 7 = .ok (.invokestatic 38, 3) := by decide +kernel
theorem dX0_refresh_10 : decode cX0_refresh 10 = .ok (.istore 5, 2) := by decide +kernel
theorem dX0_refresh_12 : decode cX0_refresh 12 = .ok (.iload 5, 2) := by decide +kernel
theorem dX0_refresh_14 : decode cX0_refresh 14 = .ok (.iload_n 3, 1) := by decide +kernel
theorem dX0_refresh_15 : decode cX0_refresh 15 = .ok (.if_icmp .ge 63, 3) := by decide +kernel
theorem dX0_refresh_18 : decode cX0_refresh 18 = .ok (.iload 5, 2) := by decide +kernel
theorem dX0_refresh_20 : decode cX0_refresh 20 = .ok (.sipush 2500, 3) := by decide +kernel
theorem dX0_refresh_23 : decode cX0_refresh 23 = .ok (.if_icmp .ge 55, 3) := by decide +kernel
theorem dX0_refresh_26 : decode cX0_refresh 26 = .ok (.aload_n 0, 1) := by decide +kernel
theorem dX0_refresh_27 : decode cX0_refresh 27 = .ok (.getfield 21, 3) := by decide +kernel
theorem dX0_refresh_30 : decode cX0_refresh 30 = .ok (.iload 5, 2) := by decide +kernel
theorem dX0_refresh_32 : decode cX0_refresh 32 = .ok (.aload_n 0, 1) := by decide +kernel
theorem dX0_refresh_33 : decode cX0_refresh 33 = .ok (.getfield 11, 3) := by decide +kernel
theorem dX0_refresh_36 : decode cX0_refresh 36 = .ok (.iload_n 1, 1) := by decide +kernel
theorem dX0_refresh_37 : decode cX0_refresh 37 = .ok (.aaload, 1) := by decide +kernel
theorem dX0_refresh_38 : decode cX0_refresh 38 = .ok (.iload 5, 2) := by decide +kernel
theorem dX0_refresh_40 : decode cX0_refresh 40 = .ok (.invokevirtual 44, 3) := by decide +kernel
theorem dX0_refresh_43 : decode cX0_refresh 43 = .ok (.ifCond .eq 16, 3) := by decide +kernel
theorem dX0_refresh_46 : decode cX0_refresh 46 = .ok (.aload_n 0, 1) := by decide +kernel
theorem dX0_refresh_47 : decode cX0_refresh 47 = .ok (.getfield 21, 3) := by decide +kernel
theorem dX0_refresh_50 : decode cX0_refresh 50 = .ok (.iload 5, 2) := by decide +kernel
theorem dX0_refresh_52 : decode cX0_refresh 52 = .ok (.iaload, 1) := by decide +kernel
theorem dX0_refresh_53 : decode cX0_refresh 53 = .ok (.iload 4, 2) := by decide +kernel
theorem dX0_refresh_55 : decode cX0_refresh 55 = .ok (.ior, 1) := by decide +kernel
theorem dX0_refresh_56 : decode cX0_refresh 56 = .ok (.goto 15, 3) := by decide +kernel
theorem dX0_refresh_59 : decode cX0_refresh 59 = .ok (.aload_n 0, 1) := by decide +kernel
theorem dX0_refresh_60 : decode cX0_refresh 60 = .ok (.getfield 21, 3) := by decide +kernel
theorem dX0_refresh_63 : decode cX0_refresh 63 = .ok (.iload 5, 2) := by decide +kernel
theorem dX0_refresh_65 : decode cX0_refresh 65 = .ok (.iaload, 1) := by decide +kernel
theorem dX0_refresh_66 : decode cX0_refresh 66 = .ok (.iload 4, 2) := by decide +kernel
theorem dX0_refresh_68 : decode cX0_refresh 68 = .ok (.iconst (-1), 1) := by decide +kernel
theorem dX0_refresh_69 : decode cX0_refresh 69 = .ok (.ixor, 1) := by decide +kernel
theorem dX0_refresh_70 : decode cX0_refresh 70 = .ok (.iand, 1) := by decide +kernel
theorem dX0_refresh_71 : decode cX0_refresh 71 = .ok (.iastore, 1) := by decide +kernel
theorem dX0_refresh_72 : decode cX0_refresh 72 = .ok (.iinc 5 1, 3) := by decide +kernel
theorem dX0_refresh_75 : decode cX0_refresh 75 = .ok (.goto (-63), 3) := by decide +kernel
theorem dX0_refresh_78 : decode cX0_refresh 78 = .ok (.iload_n 1, 1) := by decide +kernel
theorem dX0_refresh_79 : decode cX0_refresh 79 = .ok (.sipush 2500, 3) := by decide +kernel
theorem dX0_refresh_82 : decode cX0_refresh 82 = .ok (.imul, 1) := by decide +kernel
theorem dX0_refresh_83 : decode cX0_refresh 83 = .ok (.istore 5, 2) := by decide +kernel
theorem dX0_refresh_85 : decode cX0_refresh 85 = .ok (.iload_n 3, 1) := by decide +kernel
theorem dX0_refresh_86 : decode cX0_refresh 86 = .ok (.sipush 2500, 3) := by decide +kernel
theorem dX0_refresh_89 : decode cX0_refresh 89 = .ok (.invokestatic 48, 3) := by decide +kernel
theorem dX0_refresh_92 : decode cX0_refresh 92 = .ok (.iconst 1, 1) := by decide +kernel
theorem dX0_refresh_93 : decode cX0_refresh 93 = .ok (.isub, 1) := by decide +kernel
theorem dX0_refresh_94 : decode cX0_refresh 94 = .ok (.istore 6, 2) := by decide +kernel
theorem dX0_refresh_96 : decode cX0_refresh 96 = .ok (.iload 6, 2) := by decide +kernel
theorem dX0_refresh_98 : decode cX0_refresh 98 = .ok (.istore 7, 2) := by decide +kernel
theorem dX0_refresh_100 : decode cX0_refresh 100 = .ok (.iload 7, 2) := by decide +kernel
theorem dX0_refresh_102 : decode cX0_refresh 102 = .ok (.ifCond .lt 75, 3) := by decide +kernel
theorem dX0_refresh_105 : decode cX0_refresh 105 = .ok (.iload 7, 2) := by decide +kernel
theorem dX0_refresh_107 : decode cX0_refresh 107 = .ok (.iload_n 2, 1) := by decide +kernel
theorem dX0_refresh_108 : decode cX0_refresh 108 = .ok (.bipush 24, 2) := by decide +kernel
theorem dX0_refresh_110 : decode cX0_refresh 110 = .ok (.isub, 1) := by decide +kernel
theorem dX0_refresh_111 : decode cX0_refresh 111 = .ok (.if_icmp .le 66, 3) := by decide +kernel
theorem dX0_refresh_114 : decode cX0_refresh 114 = .ok (.iload 7, 2) := by decide +kernel
theorem dX0_refresh_116 : decode cX0_refresh 116 = .ok (.iconst 1, 1) := by decide +kernel
theorem dX0_refresh_117 : decode cX0_refresh 117 = .ok (.iadd, 1) := by decide +kernel
theorem dX0_refresh_118 : decode cX0_refresh 118 = .ok (.sipush 2500, 3) := by decide +kernel
theorem dX0_refresh_121 : decode cX0_refresh 121 = .ok (.if_icmp .ge 20, 3) := by decide +kernel
theorem dX0_refresh_124 : decode cX0_refresh 124 = .ok (.aload_n 0, 1) := by decide +kernel
theorem dX0_refresh_125 : decode cX0_refresh 125 = .ok (.getfield 24, 3) := by decide +kernel
theorem dX0_refresh_128 : decode cX0_refresh 128 = .ok (.iload 5, 2) := by decide +kernel
theorem dX0_refresh_130 : decode cX0_refresh 130 = .ok (.iload 7, 2) := by decide +kernel
theorem dX0_refresh_132 : decode cX0_refresh 132 = .ok (.iadd, 1) := by decide +kernel
theorem dX0_refresh_133 : decode cX0_refresh 133 = .ok (.iconst 1, 1) := by decide +kernel
theorem dX0_refresh_134 : decode cX0_refresh 134 = .ok (.iadd, 1) := by decide +kernel
theorem dX0_refresh_135 : decode cX0_refresh 135 = .ok (.iaload, 1) := by decide +kernel
theorem dX0_refresh_136 : decode cX0_refresh 136 = .ok (.iconst 1, 1) := by decide +kernel
theorem dX0_refresh_137 : decode cX0_refresh 137 = .ok (.ishl, 1) := by decide +kernel
theorem dX0_refresh_138 : decode cX0_refresh 138 = .ok (.goto 4, 3) := by decide +kernel
theorem dX0_refresh_141 : decode cX0_refresh 141 = .ok (.iconst 0, 1) := by decide +kernel
theorem dX0_refresh_142 : decode cX0_refresh 142 = .ok (.istore 8, 2) := by decide +kernel
theorem dX0_refresh_144 : decode cX0_refresh 144 = .ok (.aload_n 0, 1) := by decide +kernel
theorem dX0_refresh_145 : decode cX0_refresh 145 = .ok (.getfield 24, 3) := by decide +kernel
theorem dX0_refresh_148 : decode cX0_refresh 148 = .ok (.iload 5, 2) := by decide +kernel
theorem dX0_refresh_150 : decode cX0_refresh 150 = .ok (.iload 7, 2) := by decide +kernel
theorem dX0_refresh_152 : decode cX0_refresh 152 = .ok (.iadd, 1) := by decide +kernel
theorem dX0_refresh_153 : decode cX0_refresh 153 = .ok (.iload 8, 2) := by decide +kernel
theorem dX0_refresh_155 : decode cX0_refresh 155 = .ok (.ldc 51, 2) := by decide +kernel
theorem dX0_refresh_157 : decode cX0_refresh 157 = .ok (.iand, 1) := by decide +kernel
theorem dX0_refresh_158 : decode cX0_refresh 158 = .ok (.aload_n 0, 1) := by decide +kernel
theorem dX0_refresh_159 : decode cX0_refresh 159 = .ok (.getfield 21, 3) := by decide +kernel
theorem dX0_refresh_162 : decode cX0_refresh 162 = .ok (.iload 7, 2) := by decide +kernel
theorem dX0_refresh_164 : decode cX0_refresh 164 = .ok (.iaload, 1) := by decide +kernel
theorem dX0_refresh_165 : decode cX0_refresh 165 = .ok (.iload_n 1, 1) := by decide +kernel
theorem dX0_refresh_166 : decode cX0_refresh 166 = .ok (.ishr, 1) := by decide +kernel
theorem dX0_refresh_167 : decode cX0_refresh 167 = .ok (.iconst 1, 1) := by decide +kernel
theorem dX0_refresh_168 : decode cX0_refresh 168 = .ok (.iand, 1) := by decide +kernel
theorem dX0_refresh_169 : decode cX0_refresh 169 = .ok (.ior, 1) := by decide +kernel
theorem dX0_refresh_170 : decode cX0_refresh 170 = .ok (.iastore, 1) := by decide +kernel
theorem dX0_refresh_171 : decode cX0_refresh 171 = .ok (.iinc 7 (-1), 3) := by decide +kernel
theorem dX0_refresh_174 : decode cX0_refresh 174 = .ok (.goto (-74), 3) := by decide +kernel
theorem dX0_refresh_177 : decode cX0_refresh 177 = .ok (.return_, 1) := by decide +kernel
theorem dX0_putFeast_0 : decode cX0_putFeast 0 = .ok (.aload_n 0, 1) := by decide +kernel
theorem dX0_putFeast_1 : decode cX0_putFeast 1 = .ok (.getfield 11, 3) := by decide +kernel
theorem dX0_putFeast_4 : decode cX0_putFeast 4 = .ok (.iload_n 1, 1) := by decide +kernel
theorem dX0_putFeast_5 : decode cX0_putFeast 5 = .ok (.aaload, 1) := by decide +kernel
theorem dX0_putFeast_6 : decode cX0_putFeast 6 = .ok (.astore 4, 2) := by decide +kernel
theorem dX0_putFeast_8 : decode cX0_putFeast 8 = .ok (.aload 4, 2) := by decide +kernel
theorem dX0_putFeast_10 : decode cX0_putFeast 10 = .ok (.getfield 52, 3) := by decide +kernel
theorem dX0_putFeast_13 : decode cX0_putFeast 13 = .ok (.iload_n 2, 1) := by decide +kernel
theorem dX0_putFeast_14 : decode cX0_putFeast 14 = .ok (.iload_n 3, 1) := by decide +kernel
theorem dX0_putFeast_15 : decode cX0_putFeast 15 = .ok (.bastore, 1) := by decide +kernel
theorem dX0_putFeast_16 : decode cX0_putFeast 16 = .ok (.iload_n 2, 1) := by decide +kernel
theorem dX0_putFeast_17 : decode cX0_putFeast 17 = .ok (.bipush 24, 2) := by decide +kernel
theorem dX0_putFeast_19 : decode cX0_putFeast 19 = .ok (.imul, 1) := by decide +kernel
theorem dX0_putFeast_20 : decode cX0_putFeast 20 = .ok (.aload 4, 2) := by decide +kernel
theorem dX0_putFeast_22 : decode cX0_putFeast 22 = .ok (.getfield 56, 3) := by decide +kernel
theorem dX0_putFeast_25 : decode cX0_putFeast 25 = .ok (.iadd, 1) := by decide +kernel
theorem dX0_putFeast_26 : decode cX0_putFeast 26 = .ok (.aload 4, 2) := by decide +kernel
theorem dX0_putFeast_28 : decode cX0_putFeast 28 = .ok (.getfield 59, 3) := by decide +kernel
theorem dX0_putFeast_31 : decode cX0_putFeast 31 = .ok (.isub, 1) := by decide +kernel
theorem dX0_putFeast_32 : decode cX0_putFeast 32 = .ok (.istore 5, 2) := by decide +kernel
theorem dX0_putFeast_34 : decode cX0_putFeast 34 = .ok (.aload_n 0, 1) := by decide +kernel
theorem dX0_putFeast_35 : decode cX0_putFeast 35 = .ok (.iload_n 1, 1) := by decide +kernel
theorem dX0_putFeast_36 : decode cX0_putFeast 36 = .ok (.iload 5, 2) := by decide +kernel
theorem dX0_putFeast_38 : decode cX0_putFeast 38 = .ok (.iconst 1, 1) := by decide +kernel
theorem dX0_putFeast_39 : decode cX0_putFeast 39 = .ok (.isub, 1) := by decide +kernel
theorem dX0_putFeast_40 : decode cX0_putFeast 40 = .ok (.iload 5, 2) := by decide +kernel
theorem dX0_putFeast_42 : decode cX0_putFeast 42 = .ok (.aload 4, 2) := by decide +kernel
theorem dX0_putFeast_44 : decode cX0_putFeast 44 = .ok (.getfield 62, 3) := by decide +kernel
theorem dX0_putFeast_47 : decode cX0_putFeast 47 = .ok (.iadd, 1) := by decide +kernel
theorem dX0_putFeast_48 : decode cX0_putFeast 48 = .ok (.iconst 1, 1) := by decide +kernel
theorem dX0_putFeast_49 : decode cX0_putFeast 49 = .ok (.iadd, 1) := by decide +kernel
theorem dX0_putFeast_50 : decode cX0_putFeast 50 = .ok (.invokevirtual 65, 3) := by decide +kernel
theorem dX0_putFeast_53 : decode cX0_putFeast 53 = .ok (.return_, 1) := by decide +kernel
theorem dX0_putKnown_0 : decode cX0_putKnown 0 = .ok (.aload_n 0, 1) := by decide +kernel
theorem dX0_putKnown_1 : decode cX0_putKnown 1 = .ok (.getfield 17, 3) := by decide +kernel
theorem dX0_putKnown_4 : decode cX0_putKnown 4 = .ok (.iload_n 1, 1) := by decide +kernel
theorem dX0_putKnown_5 : decode cX0_putKnown 5 = .ok (.bipush 6, 2) := by decide +kernel
theorem dX0_putKnown_7 : decode cX0_putKnown 7 = .ok (.imul, 1) := by decide +kernel
theorem dX0_putKnown_8 : decode cX0_putKnown 8 = .ok (.iload_n 2, 1) := by decide +kernel
theorem dX0_putKnown_9 : decode cX0_putKnown 9 = .ok (.iadd, 1) := by decide +kernel
theorem dX0_putKnown_10 : decode cX0_putKnown 10 = .ok (.iload_n 3, 1) := by decide +kernel
theorem dX0_putKnown_11 : decode cX0_putKnown 11 = .ok (.iastore, 1) := by decide +kernel
theorem dX0_putKnown_12 : decode cX0_putKnown 12 = .ok (.aload_n 0, 1) := by decide +kernel
theorem dX0_putKnown_13 : decode cX0_putKnown 13 = .ok (.getfield 17, 3) := by decide +kernel
theorem dX0_putKnown_16 : decode cX0_putKnown 16 = .ok (.iload_n 2, 1) := by decide +kernel
theorem dX0_putKnown_17 : decode cX0_putKnown 17 = .ok (.bipush 6, 2) := by decide +kernel
theorem dX0_putKnown_19 : decode cX0_putKnown 19 = .ok (.imul, 1) := by decide +kernel
theorem dX0_putKnown_20 : decode cX0_putKnown 20 = .ok (.iload_n 1, 1) := by decide +kernel
theorem dX0_putKnown_21 : decode cX0_putKnown 21 = .ok (.iadd, 1) := by decide +kernel
theorem dX0_putKnown_22 : decode cX0_putKnown 22 = .ok (.iload_n 3, 1) := by decide +kernel
theorem dX0_putKnown_23 : decode cX0_putKnown 23 = .ok (.iastore, 1) := by decide +kernel
theorem dX0_putKnown_24 : decode cX0_putKnown 24 = .ok (.return_, 1) := by decide +kernel
theorem dX0_putKnownToAll_0 : decode cX0_putKnownToAll 0 = .ok (.iconst 0, 1) := by decide +kernel
theorem dX0_putKnownToAll_1 : decode cX0_putKnownToAll 1 = .ok (.istore_n 3, 1) := by decide +kernel
theorem dX0_putKnownToAll_2 : decode cX0_putKnownToAll 2 = .ok (.iload_n 3, 1) := by decide +kernel
theorem dX0_putKnownToAll_3 : decode cX0_putKnownToAll 3 = .ok (.aload_n 0, 1) := by decide +kernel
theorem dX0_putKnownToAll_4 : decode cX0_putKnownToAll 4 = .ok (.getfield 27, 3) := by decide +kernel
theorem dX0_putKnownToAll_7 : decode cX0_putKnownToAll 7 = .ok (.if_icmp .ge 21, 3) := by decide +kernel
theorem dX0_putKnownToAll_10 : decode cX0_putKnownToAll 10 = .ok (.iload_n 3, 1) := by decide +kernel
theorem dX0_putKnownToAll_11 : decode cX0_putKnownToAll 11 = .ok (.iload_n 1, 1) := by decide +kernel
theorem dX0_putKnownToAll_12 : decode cX0_putKnownToAll 12 = .ok (.if_icmp .eq 10, 3) := by decide +kernel
theorem dX0_putKnownToAll_15 : decode cX0_putKnownToAll 15 = .ok (.aload_n 0, 1) := by decide +kernel
theorem dX0_putKnownToAll_16 : decode cX0_putKnownToAll 16 = .ok (.iload_n 1, 1) := by decide +kernel
theorem dX0_putKnownToAll_17 : decode cX0_putKnownToAll 17 = .ok (.iload_n 3, 1) := by decide +kernel
theorem dX0_putKnownToAll_18 : decode cX0_putKnownToAll 18 = .ok (.iload_n 2, 1) := by decide +kernel
theorem dX0_putKnownToAll_19 : decode cX0_putKnownToAll 19 = .ok (.invokevirtual 69, 3) := by decide +kernel
theorem dX0_putKnownToAll_22 : decode cX0_putKnownToAll 22 = .ok (.iinc 3 1, 3) := by decide +kernel
theorem dX0_putKnownToAll_25 : decode cX0_putKnownToAll 25 = .ok (.goto (-23), 3) := by decide +kernel
theorem dX0_putKnownToAll_28 : decode cX0_putKnownToAll 28 = .ok (.return_, 1) := by decide +kernel
theorem dX0_officesWith_0 : decode cX0_officesWith 0 = .ok (.iconst 0, 1) := by decide +kernel
theorem dX0_officesWith_1 : decode cX0_officesWith 1 = .ok (.istore_n 2, 1) := by decide +kernel
theorem dX0_officesWith_2 : decode cX0_officesWith 2 = .ok (.iconst 0, 1) := by decide +kernel
theorem dX0_officesWith_3 : decode cX0_officesWith 3 = .ok (.istore_n 3, 1) := by decide +kernel
theorem dX0_officesWith_4 : decode cX0_officesWith 4 = .ok (.iload_n 3, 1) := by decide +kernel
theorem dX0_officesWith_5 : decode cX0_officesWith 5 = .ok (.aload_n 0, 1) := by decide +kernel
theorem dX0_officesWith_6 : decode cX0_officesWith 6 = .ok (.getfield 27, 3) := by decide +kernel
theorem dX0_officesWith_9 : decode cX0_officesWith 9 = .ok (.if_icmp .ge 27, 3) := by decide +kernel
theorem dX0_officesWith_12 : decode cX0_officesWith 12 = .ok (.iload_n 2, 1) := by decide +kernel
theorem dX0_officesWith_13 : decode cX0_officesWith 13 = .ok (.aload_n 0, 1) := by decide +kernel
theorem dX0_officesWith_14 : decode cX0_officesWith 14 = .ok (.getfield 11, 3) := by decide +kernel
theorem dX0_officesWith_17 : decode cX0_officesWith 17 = .ok (.iload_n 3, 1) := by decide +kernel
theorem dX0_officesWith_18 : decode cX0_officesWith 18 = .ok (.aaload, 1) := by decide +kernel
theorem dX0_officesWith_19 : decode cX0_officesWith 19 = .ok (.getfield 72, 3) := by decide +kernel
theorem dX0_officesWith_22 : decode cX0_officesWith 22 = .ok (.iload_n 1, 1) := by decide +kernel
theorem dX0_officesWith_23 : decode cX0_officesWith 23 = .ok (.ishr, 1) := by decide +kernel
theorem dX0_officesWith_24 : decode cX0_officesWith 24 = .ok (.iconst 1, 1) := by decide +kernel
theorem dX0_officesWith_25 : decode cX0_officesWith 25 = .ok (.iand, 1) := by decide +kernel
theorem dX0_officesWith_26 : decode cX0_officesWith 26 = .ok (.iload_n 3, 1) := by decide +kernel
theorem dX0_officesWith_27 : decode cX0_officesWith 27 = .ok (.ishl, 1) := by decide +kernel
theorem dX0_officesWith_28 : decode cX0_officesWith 28 = .ok (.ior, 1) := by decide +kernel
theorem dX0_officesWith_29 : decode cX0_officesWith 29 = .ok (.istore_n 2, 1) := by decide +kernel
theorem dX0_officesWith_30 : decode cX0_officesWith 30 = .ok (.iinc 3 1, 3) := by decide +kernel
theorem dX0_officesWith_33 : decode cX0_officesWith 33 = .ok (.goto (-29), 3) := by decide +kernel
theorem dX0_officesWith_36 : decode cX0_officesWith 36 = .ok (.iload_n 2, 1) := by decide +kernel
theorem dX0_officesWith_37 : decode cX0_officesWith 37 = .ok (.ireturn, 1) := by decide +kernel
theorem dX0_allPeople_0 : decode cX0_allPeople 0 = .ok (.iconst 0, 1) := by decide +kernel
theorem dX0_allPeople_1 : decode cX0_allPeople 1 = .ok (.istore_n 1, 1) := by decide +kernel
theorem dX0_allPeople_2 : decode cX0_allPeople 2 = .ok (.iconst 0, 1) := by decide +kernel
theorem dX0_allPeople_3 : decode cX0_allPeople 3 = .ok (.istore_n 2, 1) := by decide +kernel
theorem dX0_allPeople_4 : decode cX0_allPeople 4 = .ok (.iload_n 2, 1) := by decide +kernel
theorem dX0_allPeople_5 : decode cX0_allPeople 5 = .ok (.aload_n 0, 1) := by decide +kernel
theorem dX0_allPeople_6 : decode cX0_allPeople 6 = .ok (.getfield 27, 3) := by decide +kernel
theorem dX0_allPeople_9 : decode cX0_allPeople 9 = .ok (.if_icmp .ge 21, 3) := by decide +kernel
theorem dX0_allPeople_12 : decode cX0_allPeople 12 = .ok (.iload_n 1, 1) := by decide +kernel
theorem dX0_allPeople_13 : decode cX0_allPeople 13 = .ok (.aload_n 0, 1) := by decide +kernel
theorem dX0_allPeople_14 : decode cX0_allPeople 14 = .ok (.getfield 11, 3) := by decide +kernel
theorem dX0_allPeople_17 : decode cX0_allPeople 17 = .ok (.iload_n 2, 1) := by decide +kernel
theorem dX0_allPeople_18 : decode cX0_allPeople 18 = .ok (.aaload, 1) := by decide +kernel
theorem dX0_allPeople_19 : decode cX0_allPeople 19 = .ok (.getfield 75, 3) := by decide +kernel
theorem dX0_allPeople_22 : decode cX0_allPeople 22 = .ok (.iadd, 1) := by decide +kernel
theorem dX0_allPeople_23 : decode cX0_allPeople 23 = .ok (.istore_n 1, 1) := by decide +kernel
theorem dX0_allPeople_24 : decode cX0_allPeople 24 = .ok (.iinc 2 1, 3) := by decide +kernel
theorem dX0_allPeople_27 : decode cX0_allPeople 27 = .ok (.goto (-23), 3) := by decide +kernel
theorem dX0_allPeople_30 : decode cX0_allPeople 30 = .ok (.iload_n 1, 1) := by decide +kernel
theorem dX0_allPeople_31 : decode cX0_allPeople 31 = .ok (.ireturn, 1) := by decide +kernel
theorem dJ6_bitCount_0f7a4_0 : decode cJ6_bitCount_0f7a4 0 = .ok (.iload_n 0, 1) := by decide +kernel
theorem dJ6_bitCount_0f7a4_1 : decode cJ6_bitCount_0f7a4 1 = .ok (.iload_n 0, 1) := by decide +kernel
theorem dJ6_bitCount_0f7a4_2 : decode cJ6_bitCount_0f7a4 2 = .ok (.iconst 1, 1) := by decide +kernel
theorem dJ6_bitCount_0f7a4_3 : decode cJ6_bitCount_0f7a4 3 = .ok (.iushr, 1) := by decide +kernel
theorem dJ6_bitCount_0f7a4_4 : decode cJ6_bitCount_0f7a4 4 = .ok (.ldc_w 265, 3) := by decide +kernel
theorem dJ6_bitCount_0f7a4_7 : decode cJ6_bitCount_0f7a4 7 = .ok (.iand, 1) := by decide +kernel
theorem dJ6_bitCount_0f7a4_8 : decode cJ6_bitCount_0f7a4 8 = .ok (.isub, 1) := by decide +kernel
theorem dJ6_bitCount_0f7a4_9 : decode cJ6_bitCount_0f7a4 9 = .ok (.istore_n 0, 1) := by decide +kernel
theorem dJ6_bitCount_0f7a4_10 : decode cJ6_bitCount_0f7a4 10 = .ok (.iload_n 0, 1) := by decide +kernel
theorem dJ6_bitCount_0f7a4_11 : decode cJ6_bitCount_0f7a4 11 = .ok (.ldc_w 266, 3) := by decide +kernel
theorem dJ6_bitCount_0f7a4_14 : decode cJ6_bitCount_0f7a4 14 = .ok (.iand, 1) := by decide +kernel
theorem dJ6_bitCount_0f7a4_15 : decode cJ6_bitCount_0f7a4 15 = .ok (.iload_n 0, 1) := by decide +kernel
theorem dJ6_bitCount_0f7a4_16 : decode cJ6_bitCount_0f7a4 16 = .ok (.iconst 2, 1) := by decide +kernel
theorem dJ6_bitCount_0f7a4_17 : decode cJ6_bitCount_0f7a4 17 = .ok (.iushr, 1) := by decide +kernel
theorem dJ6_bitCount_0f7a4_18 : decode cJ6_bitCount_0f7a4 18 = .ok (.ldc_w 266, 3) := by decide +kernel
theorem dJ6_bitCount_0f7a4_21 : decode cJ6_bitCount_0f7a4 21 = .ok (.iand, 1) := by decide +kernel
theorem dJ6_bitCount_0f7a4_22 : decode cJ6_bitCount_0f7a4 22 = .ok (.iadd, 1) := by decide +kernel
theorem dJ6_bitCount_0f7a4_23 : decode cJ6_bitCount_0f7a4 23 = .ok (.istore_n 0, 1) := by decide +kernel
theorem dJ6_bitCount_0f7a4_24 : decode cJ6_bitCount_0f7a4 24 = .ok (.iload_n 0, 1) := by decide +kernel
theorem dJ6_bitCount_0f7a4_25 : decode cJ6_bitCount_0f7a4 25 = .ok (.iload_n 0, 1) := by decide +kernel
theorem dJ6_bitCount_0f7a4_26 : decode cJ6_bitCount_0f7a4 26 = .ok (.iconst 4, 1) := by decide +kernel
theorem dJ6_bitCount_0f7a4_27 : decode cJ6_bitCount_0f7a4 27 = .ok (.iushr, 1) := by decide +kernel
theorem dJ6_bitCount_0f7a4_28 : decode cJ6_bitCount_0f7a4 28 = .ok (.iadd, 1) := by decide +kernel
theorem dJ6_bitCount_0f7a4_29 : decode cJ6_bitCount_0f7a4 29 = .ok (.ldc_w 267, 3) := by decide +kernel
theorem dJ6_bitCount_0f7a4_32 : decode cJ6_bitCount_0f7a4 32 = .ok (.iand, 1) := by decide +kernel
theorem dJ6_bitCount_0f7a4_33 : decode cJ6_bitCount_0f7a4 33 = .ok (.istore_n 0, 1) := by decide +kernel
theorem dJ6_bitCount_0f7a4_34 : decode cJ6_bitCount_0f7a4 34 = .ok (.iload_n 0, 1) := by decide +kernel
theorem dJ6_bitCount_0f7a4_35 : decode cJ6_bitCount_0f7a4 35 = .ok (.iload_n 0, 1) := by decide +kernel
theorem dJ6_bitCount_0f7a4_36 : decode cJ6_bitCount_0f7a4 36 = .ok (.bipush 8, 2) := by decide +kernel
theorem dJ6_bitCount_0f7a4_38 : decode cJ6_bitCount_0f7a4 38 = .ok (.iushr, 1) := by decide +kernel
theorem dJ6_bitCount_0f7a4_39 : decode cJ6_bitCount_0f7a4 39 = .ok (.iadd, 1) := by decide +kernel
theorem dJ6_bitCount_0f7a4_40 : decode cJ6_bitCount_0f7a4 40 = .ok (.istore_n 0, 1) := by decide +kernel
theorem dJ6_bitCount_0f7a4_41 : decode cJ6_bitCount_0f7a4 41 = .ok (.iload_n 0, 1) := by decide +kernel
theorem dJ6_bitCount_0f7a4_42 : decode cJ6_bitCount_0f7a4 42 = .ok (.iload_n 0, 1) := by decide +kernel
theorem dJ6_bitCount_0f7a4_43 : decode cJ6_bitCount_0f7a4 43 = .ok (.bipush 16, 2) := by decide +kernel
theorem dJ6_bitCount_0f7a4_45 : decode cJ6_bitCount_0f7a4 45 = .ok (.iushr, 1) := by decide +kernel
theorem dJ6_bitCount_0f7a4_46 : decode cJ6_bitCount_0f7a4 46 = .ok (.iadd, 1) := by decide +kernel
theorem dJ6_bitCount_0f7a4_47 : decode cJ6_bitCount_0f7a4 47 = .ok (.istore_n 0, 1) := by decide +kernel
theorem dJ6_bitCount_0f7a4_48 : decode cJ6_bitCount_0f7a4 48 = .ok (.iload_n 0, 1) := by decide +kernel
theorem dJ6_bitCount_0f7a4_49 : decode cJ6_bitCount_0f7a4 49 = .ok (.bipush 63, 2) := by decide +kernel
theorem dJ6_bitCount_0f7a4_51 : decode cJ6_bitCount_0f7a4 51 = .ok (.iand, 1) := by decide +kernel
theorem dJ6_bitCount_0f7a4_52 : decode cJ6_bitCount_0f7a4 52 = .ok (.ireturn, 1) := by decide +kernel
theorem dX0_overlapFrom_0 : decode cX0_overlapFrom 0 = .ok (.aload_n 0, 1) := by decide +kernel
theorem dX0_overlapFrom_1 : decode cX0_overlapFrom 1 = .ok (.getfield 24, 3) := by decide +kernel
theorem dX0_overlapFrom_4 : decode cX0_overlapFrom 4 = .ok (.iload_n 1, 1) := by decide +kernel
theorem dX0_overlapFrom_5 : decode cX0_overlapFrom 5 = .ok (.sipush 2500, 3) := by decide +kernel
theorem dX0_overlapFrom_8 : decode cX0_overlapFrom 8 = .ok (.imul, 1) := by decide +kernel
theorem dX0_overlapFrom_9 : decode cX0_overlapFrom 9 = .ok (.iload_n 3, 1) := by decide +kernel
theorem dX0_overlapFrom_10 : decode cX0_overlapFrom 10 = .ok (.iadd, 1) := by decide +kernel
theorem dX0_overlapFrom_11 : decode cX0_overlapFrom 11 = .ok (.iaload, 1) := by decide +kernel
theorem dX0_overlapFrom_12 : decode cX0_overlapFrom 12 = .ok (.aload_n 0, 1) := by decide +kernel
theorem dX0_overlapFrom_13 : decode cX0_overlapFrom 13 = .ok (.getfield 24, 3) := by decide +kernel
theorem dX0_overlapFrom_16 : decode cX0_overlapFrom 16 = .ok (.iload_n 2, 1) := by decide +kernel
theorem dX0_overlapFrom_17 : decode cX0_overlapFrom 17 = .ok (.sipush 2500, 3) := by decide +kernel
theorem dX0_overlapFrom_20 : decode cX0_overlapFrom 20 = .ok (.imul, 1) := by decide +kernel
theorem dX0_overlapFrom_21 : decode cX0_overlapFrom 21 = .ok (.iload_n 3, 1) := by decide +kernel
theorem dX0_overlapFrom_22 : decode cX0_overlapFrom 22 = .ok (.iadd, 1) := by decide +kernel
theorem dX0_overlapFrom_23 : decode cX0_overlapFrom 23 = .ok (.iaload, 1) := by decide +kernel
theorem dX0_overlapFrom_24 : decode cX0_overlapFrom 24 = .ok (.iand, 1) := by decide +kernel
theorem dX0_overlapFrom_25 : decode cX0_overlapFrom 25 = .ok (.invokestatic 78, 3) := by decide +kernel
theorem dX0_overlapFrom_28 : decode cX0_overlapFrom 28 = .ok (.ireturn, 1) := by decide +kernel
theorem dX0_lostFrom_0 : decode cX0_lostFrom 0 = .ok (.iload_n 1, 1) := by decide +kernel
theorem dX0_lostFrom_1 : decode cX0_lostFrom 1 = .ok (.iload_n 2, 1) := by decide +kernel
theorem dX0_lostFrom_2 : decode cX0_lostFrom 2 = .ok (.if_icmp .ne 5, 3) := by decide +kernel
theorem dX0_lostFrom_5 : decode cX0_lostFrom 5 = .ok (.iconst 0, 1) := by decide +kernel
theorem dX0_lostFrom_6 : decode cX0_lostFrom 6 = .ok (.ireturn, 1) := by decide +kernel
theorem dX0_lostFrom_7 : decode cX0_lostFrom 7 = .ok (.aload_n 0, 1) := by decide +kernel
theorem dX0_lostFrom_8 : decode cX0_lostFrom 8 = .ok (.getfield 31, 3) := by decide +kernel
theorem dX0_lostFrom_11 : decode cX0_lostFrom 11 = .ok (.aload_n 0, 1) := by decide +kernel
theorem dX0_lostFrom_12 : decode cX0_lostFrom 12 = .ok (.getfield 17, 3) := by decide +kernel
theorem dX0_lostFrom_15 : decode cX0_lostFrom 15 = .ok (.iload_n 1, 1) := by decide +kernel
theorem dX0_lostFrom_16 : decode cX0_lostFrom 16 = .ok (.bipush 6, 2) := by decide +kernel
theorem dX0_lostFrom_18 : decode cX0_lostFrom 18 = .ok (.imul, 1) := by decide +kernel
theorem dX0_lostFrom_19 : decode cX0_lostFrom 19 = .ok (.iload_n 2, 1) := by decide +kernel
theorem dX0_lostFrom_20 : decode cX0_lostFrom 20 = .ok (.iadd, 1) := by decide +kernel
theorem dX0_lostFrom_21 : decode cX0_lostFrom 21 = .ok (.iaload, 1) := by decide +kernel
theorem dX0_lostFrom_22 : decode cX0_lostFrom 22 = .ok (.isub, 1) := by decide +kernel
theorem dX0_lostFrom_23 : decode cX0_lostFrom 23 = .ok (.istore 4, 2) := by decide +kernel
theorem dX0_lostFrom_25 : decode cX0_lostFrom 25 = .ok (.iload 4, 2) := by decide +kernel
theorem dX0_lostFrom_27 : decode cX0_lostFrom 27 = .ok (.ifCond .le 8, 3) := by decide +kernel
theorem dX0_lostFrom_30 : decode cX0_lostFrom 30 = .ok (.iload 4, 2) := by decide +kernel
theorem dX0_lostFrom_32 : decode cX0_lostFrom 32 = .ok (.goto 4, 3) := by decide +kernel
theorem dX0_lostFrom_35 : decode cX0_lostFrom 35 = .ok (.iconst 0, 1) := by decide +kernel
theorem dX0_lostFrom_36 : decode cX0_lostFrom 36 = .ok (.istore 5, 2) := by decide +kernel
theorem dX0_lostFrom_38 : decode cX0_lostFrom 38 = .ok (.aload_n 0, 1) := by decide +kernel
theorem dX0_lostFrom_39 : decode cX0_lostFrom 39 = .ok (.getfield 24, 3) := by decide +kernel
theorem dX0_lostFrom_42 : decode cX0_lostFrom 42 = .ok (.iload_n 1, 1) := by decide +kernel
theorem dX0_lostFrom_43 : decode cX0_lostFrom 43 = .ok (.sipush 2500, 3) := by decide +kernel
theorem dX0_lostFrom_46 : decode cX0_lostFrom 46 = .ok (.imul, 1) := by decide +kernel
theorem dX0_lostFrom_47 : decode cX0_lostFrom 47 = .ok (.iload_n 3, 1) := by decide +kernel
theorem dX0_lostFrom_48 : decode cX0_lostFrom 48 = .ok (.iadd, 1) := by decide +kernel
theorem dX0_lostFrom_49 : decode cX0_lostFrom 49 = .ok (.iaload, 1) := by decide +kernel
theorem dX0_lostFrom_50 : decode cX0_lostFrom 50 = .ok (.aload_n 0, 1) := by decide +kernel
theorem dX0_lostFrom_51 : decode cX0_lostFrom 51 = .ok (.getfield 24, 3) := by decide +kernel
theorem dX0_lostFrom_54 : decode cX0_lostFrom 54 = .ok (.iload_n 2, 1) := by decide +kernel
theorem dX0_lostFrom_55 : decode cX0_lostFrom 55 = .ok (.sipush 2500, 3) := by decide +kernel
theorem dX0_lostFrom_58 : decode cX0_lostFrom 58 = .ok (.imul, 1) := by decide +kernel
theorem dX0_lostFrom_59 : decode cX0_lostFrom 59 = .ok (.iload_n 3, 1) := by decide +kernel
theorem dX0_lostFrom_60 : decode cX0_lostFrom 60 = .ok (.iadd, 1) := by decide +kernel
theorem dX0_lostFrom_61 : decode cX0_lostFrom 61 = .ok (.iaload, 1) := by decide +kernel
theorem dX0_lostFrom_62 : decode cX0_lostFrom 62 = .ok (.iand, 1) := by decide +kernel
theorem dX0_lostFrom_63 : decode cX0_lostFrom 63 = .ok (.istore 6, 2) := by decide +kernel
theorem dX0_lostFrom_65 : decode cX0_lostFrom 65 = .ok (.iload 6, 2) := by decide +kernel
theorem dX0_lostFrom_67 : decode cX0_lostFrom 67 = .ok (.ifCond .ne 10, 3) := by decide +kernel
theorem dX0_lostFrom_70 : decode cX0_lostFrom 70 = .ok (.iload 5, 2) := by decide +kernel
theorem dX0_lostFrom_72 : decode cX0_lostFrom 72 = .ok (.iconst 2, 1) := by decide +kernel
theorem dX0_lostFrom_73 : decode cX0_lostFrom 73 = .ok (.iadd, 1) := by decide +kernel
theorem dX0_lostFrom_74 : decode cX0_lostFrom 74 = .ok (.goto 5, 3) := by decide +kernel
theorem dX0_lostFrom_77 : decode cX0_lostFrom 77 = .ok (.iload 5, 2) := by decide +kernel
theorem dX0_lostFrom_79 : decode cX0_lostFrom 79 = .ok (.ireturn, 1) := by decide +kernel
theorem dX0_wrongBetween_0 : decode cX0_wrongBetween 0 = .ok (.aload_n 0, 1) := by decide +kernel
theorem dX0_wrongBetween_1 : decode cX0_wrongBetween 1 = .ok (.getfield 34, 3) := by decide +kernel
theorem dX0_wrongBetween_4 : decode cX0_wrongBetween 4 = .ok (.bipush 10, 2) := by decide +kernel
theorem dX0_wrongBetween_6 : decode cX0_wrongBetween 6 = .ok (.aload_n 0, 1) := by decide +kernel
theorem dX0_wrongBetween_7 : decode cX0_wrongBetween 7 = .ok (.getfield 17, 3) := by decide +kernel
theorem dX0_wrongBetween_10 : decode cX0_wrongBetween 10 = .ok (.iload_n 1, 1) := by decide +kernel
theorem dX0_wrongBetween_11 : decode cX0_wrongBetween 11 = .ok (.bipush 6, 2) := by decide +kernel
theorem dX0_wrongBetween_13 : decode cX0_wrongBetween 13 = .ok (.imul, 1) := by decide +kernel
theorem dX0_wrongBetween_14 : decode cX0_wrongBetween 14 = .ok (.iload_n 2, 1) := by decide +kernel
theorem dX0_wrongBetween_15 : decode cX0_wrongBetween 15 = .ok (.iadd, 1) := by decide +kernel
theorem dX0_wrongBetween_16 : decode cX0_wrongBetween 16 = .ok (.iaload, 1) := by decide +kernel
theorem dX0_wrongBetween_17 : decode cX0_wrongBetween 17 = .ok (.isub, 1) := by decide +kernel
theorem dX0_wrongBetween_18 : decode cX0_wrongBetween 18 = .ok (.imul, 1) := by decide +kernel
theorem dX0_wrongBetween_19 : decode cX0_wrongBetween 19 = .ok (.bipush 10, 2) := by decide +kernel
theorem dX0_wrongBetween_21 : decode cX0_wrongBetween 21 = .ok (.idiv, 1) := by decide +kernel
theorem dX0_wrongBetween_22 : decode cX0_wrongBetween 22 = .ok (.ireturn, 1) := by decide +kernel
theorem dJ6_numberOfTrailingZeros_0f7a4_0 : decode cJ6_numberOfTrailingZeros_0f7a4 0 = .ok (.iload_n 0, 1) := by decide +kernel
theorem dJ6_numberOfTrailingZeros_0f7a4_1 : decode cJ6_numberOfTrailingZeros_0f7a4 1 = .ok (.iconst (-1), 1) := by decide +kernel
theorem dJ6_numberOfTrailingZeros_0f7a4_2 : decode cJ6_numberOfTrailingZeros_0f7a4 2 = .ok (.ixor, 1) := by decide +kernel
theorem dJ6_numberOfTrailingZeros_0f7a4_3 : decode cJ6_numberOfTrailingZeros_0f7a4 3 = .ok (.iload_n 0, 1) := by decide +kernel
theorem dJ6_numberOfTrailingZeros_0f7a4_4 : decode cJ6_numberOfTrailingZeros_0f7a4 4 = .ok (.iconst 1, 1) := by decide +kernel
theorem dJ6_numberOfTrailingZeros_0f7a4_5 : decode cJ6_numberOfTrailingZeros_0f7a4 5 = .ok (.isub, 1) := by decide +kernel
theorem dJ6_numberOfTrailingZeros_0f7a4_6 : decode cJ6_numberOfTrailingZeros_0f7a4 6 = .ok (.iand, 1) := by decide +kernel
theorem dJ6_numberOfTrailingZeros_0f7a4_7 : decode cJ6_numberOfTrailingZeros_0f7a4 7 = .ok (.istore_n 0, 1) := by decide +kernel
theorem dJ6_numberOfTrailingZeros_0f7a4_8 : decode cJ6_numberOfTrailingZeros_0f7a4 8 = .ok (.iload_n 0, 1) := by decide +kernel
theorem dJ6_numberOfTrailingZeros_0f7a4_9 : decode cJ6_numberOfTrailingZeros_0f7a4 9 = .ok (.ifCond .gt 8, 3) := by decide +kernel
theorem dJ6_numberOfTrailingZeros_0f7a4_12 : decode cJ6_numberOfTrailingZeros_0f7a4 12 = .ok (.iload_n 0, 1) := by decide +kernel
theorem dJ6_numberOfTrailingZeros_0f7a4_13 : decode cJ6_numberOfTrailingZeros_0f7a4 13 = .ok (.bipush 32, 2) := by decide +kernel
theorem dJ6_numberOfTrailingZeros_0f7a4_15 : decode cJ6_numberOfTrailingZeros_0f7a4 15 = .ok (.iand, 1) := by decide +kernel
theorem dJ6_numberOfTrailingZeros_0f7a4_16 : decode cJ6_numberOfTrailingZeros_0f7a4 16 = .ok (.ireturn, 1) := by decide +kernel
theorem dJ6_numberOfTrailingZeros_0f7a4_17 : decode cJ6_numberOfTrailingZeros_0f7a4 17 = .ok (.iconst 1, 1) := by decide +kernel
theorem dJ6_numberOfTrailingZeros_0f7a4_18 : decode cJ6_numberOfTrailingZeros_0f7a4 18 = .ok (.istore_n 1, 1) := by decide +kernel
theorem dJ6_numberOfTrailingZeros_0f7a4_19 : decode cJ6_numberOfTrailingZeros_0f7a4 19 = .ok (.iload_n 0, 1) := by decide +kernel
theorem dJ6_numberOfTrailingZeros_0f7a4_20 : decode cJ6_numberOfTrailingZeros_0f7a4 20 = .ok (.ldc_w 264, 3) := by decide +kernel
theorem dJ6_numberOfTrailingZeros_0f7a4_23 : decode cJ6_numberOfTrailingZeros_0f7a4 23 = .ok (.if_icmp .le 11, 3) := by decide +kernel
theorem dJ6_numberOfTrailingZeros_0f7a4_26 : decode cJ6_numberOfTrailingZeros_0f7a4 26 = .ok (.iinc 1 16, 3) := by decide +kernel
theorem dJ6_numberOfTrailingZeros_0f7a4_29 : decode cJ6_numberOfTrailingZeros_0f7a4 29 = .ok (.iload_n 0, 1) := by decide +kernel
theorem dJ6_numberOfTrailingZeros_0f7a4_30 : decode cJ6_numberOfTrailingZeros_0f7a4 30 = .ok (.bipush 16, 2) := by decide +kernel
theorem dJ6_numberOfTrailingZeros_0f7a4_32 : decode cJ6_numberOfTrailingZeros_0f7a4 32 = .ok (.iushr, 1) := by decide +kernel
theorem dJ6_numberOfTrailingZeros_0f7a4_33 : decode cJ6_numberOfTrailingZeros_0f7a4 33 = .ok (.istore_n 0, 1) := by decide +kernel
theorem dJ6_numberOfTrailingZeros_0f7a4_34 : decode cJ6_numberOfTrailingZeros_0f7a4 34 = .ok (.iload_n 0, 1) := by decide +kernel
theorem dJ6_numberOfTrailingZeros_0f7a4_35 : decode cJ6_numberOfTrailingZeros_0f7a4 35 = .ok (.sipush 256, 3) := by decide +kernel
theorem dJ6_numberOfTrailingZeros_0f7a4_38 : decode cJ6_numberOfTrailingZeros_0f7a4 38 = .ok (.if_icmp .le 11, 3) := by decide +kernel
theorem dJ6_numberOfTrailingZeros_0f7a4_41 : decode cJ6_numberOfTrailingZeros_0f7a4 41 = .ok (.iinc 1 8, 3) := by decide +kernel
theorem dJ6_numberOfTrailingZeros_0f7a4_44 : decode cJ6_numberOfTrailingZeros_0f7a4 44 = .ok (.iload_n 0, 1) := by decide +kernel
theorem dJ6_numberOfTrailingZeros_0f7a4_45 : decode cJ6_numberOfTrailingZeros_0f7a4 45 = .ok (.bipush 8, 2) := by decide +kernel
theorem dJ6_numberOfTrailingZeros_0f7a4_47 : decode cJ6_numberOfTrailingZeros_0f7a4 47 = .ok (.iushr, 1) := by decide +kernel
theorem dJ6_numberOfTrailingZeros_0f7a4_48 : decode cJ6_numberOfTrailingZeros_0f7a4 48 = .ok (.istore_n 0, 1) := by decide +kernel
theorem dJ6_numberOfTrailingZeros_0f7a4_49 : decode cJ6_numberOfTrailingZeros_0f7a4 49 = .ok (.iload_n 0, 1) := by decide +kernel
theorem dJ6_numberOfTrailingZeros_0f7a4_50 : decode cJ6_numberOfTrailingZeros_0f7a4 50 = .ok (.bipush 16, 2) := by decide +kernel
theorem dJ6_numberOfTrailingZeros_0f7a4_52 : decode cJ6_numberOfTrailingZeros_0f7a4 52 = .ok (.if_icmp .le 10, 3) := by decide +kernel
theorem dJ6_numberOfTrailingZeros_0f7a4_55 : decode cJ6_numberOfTrailingZeros_0f7a4 55 = .ok (.iinc 1 4, 3) := by decide +kernel
theorem dJ6_numberOfTrailingZeros_0f7a4_58 : decode cJ6_numberOfTrailingZeros_0f7a4 58 = .ok (.iload_n 0, 1) := by decide +kernel
theorem dJ6_numberOfTrailingZeros_0f7a4_59 : decode cJ6_numberOfTrailingZeros_0f7a4 59 = .ok (.iconst 4, 1) := by decide +kernel
theorem dJ6_numberOfTrailingZeros_0f7a4_60 : decode cJ6_numberOfTrailingZeros_0f7a4 60 = .ok (.iushr, 1) := by decide +kernel
theorem dJ6_numberOfTrailingZeros_0f7a4_61 : decode cJ6_numberOfTrailingZeros_0f7a4 61 = .ok (.istore_n 0, 1) := by decide +kernel
theorem dJ6_numberOfTrailingZeros_0f7a4_62 : decode cJ6_numberOfTrailingZeros_0f7a4 62 = .ok (.iload_n 0, 1) := by decide +kernel
theorem dJ6_numberOfTrailingZeros_0f7a4_63 : decode cJ6_numberOfTrailingZeros_0f7a4 63 = .ok (.iconst 4, 1) := by decide +kernel
theorem dJ6_numberOfTrailingZeros_0f7a4_64 : decode cJ6_numberOfTrailingZeros_0f7a4 64 = .ok (.if_icmp .le 10, 3) := by decide +kernel
theorem dJ6_numberOfTrailingZeros_0f7a4_67 : decode cJ6_numberOfTrailingZeros_0f7a4 67 = .ok (.iinc 1 2, 3) := by decide +kernel
theorem dJ6_numberOfTrailingZeros_0f7a4_70 : decode cJ6_numberOfTrailingZeros_0f7a4 70 = .ok (.iload_n 0, 1) := by decide +kernel
theorem dJ6_numberOfTrailingZeros_0f7a4_71 : decode cJ6_numberOfTrailingZeros_0f7a4 71 = .ok (.iconst 2, 1) := by decide +kernel
theorem dJ6_numberOfTrailingZeros_0f7a4_72 : decode cJ6_numberOfTrailingZeros_0f7a4 72 = .ok (.iushr, 1) := by decide +kernel
theorem dJ6_numberOfTrailingZeros_0f7a4_73 : decode cJ6_numberOfTrailingZeros_0f7a4 73 = .ok (.istore_n 0, 1) := by decide +kernel
theorem dJ6_numberOfTrailingZeros_0f7a4_74 : decode cJ6_numberOfTrailingZeros_0f7a4 74 = .ok (.iload_n 1, 1) := by decide +kernel
theorem dJ6_numberOfTrailingZeros_0f7a4_75 : decode cJ6_numberOfTrailingZeros_0f7a4 75 = .ok (.iload_n 0, 1) := by decide +kernel
theorem dJ6_numberOfTrailingZeros_0f7a4_76 : decode cJ6_numberOfTrailingZeros_0f7a4 76 = .ok (.iconst 1, 1) := by decide +kernel
theorem dJ6_numberOfTrailingZeros_0f7a4_77 : decode cJ6_numberOfTrailingZeros_0f7a4 77 = .ok (.iushr, 1) := by decide +kernel
theorem dJ6_numberOfTrailingZeros_0f7a4_78 : decode cJ6_numberOfTrailingZeros_0f7a4 78 = .ok (.iadd, 1) := by decide +kernel
theorem dJ6_numberOfTrailingZeros_0f7a4_79 : decode cJ6_numberOfTrailingZeros_0f7a4 79 = .ok (.ireturn, 1) := by decide +kernel
theorem dX0_nextWork_0 : decode cX0_nextWork 0 = .ok (.iload_n 1, 1) := by decide +kernel
theorem dX0_nextWork_1 : decode cX0_nextWork 1 = .ok (.sipush 2500, 3) := by decide +kernel
theorem dX0_nextWork_4 : decode cX0_nextWork 4 = .ok (.imul, 1) := by decide +kernel
theorem dX0_nextWork_5 : decode cX0_nextWork 5 = .ok (.iload_n 2, 1) := by decide +kernel
theorem dX0_nextWork_6 : decode cX0_nextWork 6 = .ok (.iadd, 1) := by decide +kernel
theorem dX0_nextWork_7 : decode cX0_nextWork 7 = .ok (.istore_n 3, 1) := by decide +kernel
theorem dX0_nextWork_8 : decode cX0_nextWork 8 = .ok (.iconst 0, 1) := by decide +kernel
theorem dX0_nextWork_9 : decode cX0_nextWork 9 = .ok (.istore 4, 2) := by decide +kernel
theorem dX0_nextWork_11 : decode cX0_nextWork 11 = .ok (.iload 4, 2) := by decide +kernel
theorem dX0_nextWork_13 : decode cX0_nextWork 13 = .ok (.bipush 99, 2) := by decide +kernel
theorem dX0_nextWork_15 : decode cX0_nextWork 15 = .ok (.if_icmp .ge 63, 3) := by decide +kernel
theorem dX0_nextWork_18 : decode cX0_nextWork 18 = .ok (.iload_n 2, 1) := by decide +kernel
theorem dX0_nextWork_19 : decode cX0_nextWork 19 = .ok (.iload 4, 2) := by decide +kernel
theorem dX0_nextWork_21 : decode cX0_nextWork 21 = .ok (.iadd, 1) := by decide +kernel
theorem dX0_nextWork_22 : decode cX0_nextWork 22 = .ok (.sipush 2500, 3) := by decide +kernel
theorem dX0_nextWork_25 : decode cX0_nextWork 25 = .ok (.if_icmp .ge 53, 3) := by decide +kernel
theorem dX0_nextWork_28 : decode cX0_nextWork 28 = .ok (.aload_n 0, 1) := by decide +kernel
theorem dX0_nextWork_29 : decode cX0_nextWork 29 = .ok (.getfield 24, 3) := by decide +kernel
theorem dX0_nextWork_32 : decode cX0_nextWork 32 = .ok (.iload_n 3, 1) := by decide +kernel
theorem dX0_nextWork_33 : decode cX0_nextWork 33 = .ok (.iload 4, 2) := by decide +kernel
theorem dX0_nextWork_35 : decode cX0_nextWork 35 = .ok (.iadd, 1) := by decide +kernel
theorem dX0_nextWork_36 : decode cX0_nextWork 36 = .ok (.iaload, 1) := by decide +kernel
theorem dX0_nextWork_37 : decode cX0_nextWork 37 = .ok (.ifCond .eq 35, 3) := by decide +kernel
theorem dX0_nextWork_40 : decode cX0_nextWork 40 = .ok (.iload 4, 2) := by decide +kernel
theorem dX0_nextWork_42 : decode cX0_nextWork 42 = .ok (.aload_n 0, 1) := by decide +kernel
theorem dX0_nextWork_43 : decode cX0_nextWork 43 = .ok (.getfield 24, 3) := by decide +kernel
theorem dX0_nextWork_46 : decode cX0_nextWork 46 = .ok (.iload_n 3, 1) := by decide +kernel
theorem dX0_nextWork_47 : decode cX0_nextWork 47 = .ok (.iload 4, 2) := by decide +kernel
theorem dX0_nextWork_49 : decode cX0_nextWork 49 = .ok (.iadd, 1) := by decide +kernel
theorem dX0_nextWork_50 : decode cX0_nextWork 50 = .ok (.iaload, 1) := by decide +kernel
theorem dX0_nextWork_51 : decode cX0_nextWork 51 = .ok (.invokestatic 84, 3) := by decide +kernel
theorem dX0_nextWork_54 : decode cX0_nextWork 54 = .ok (.iadd, 1) := by decide +kernel
theorem dX0_nextWork_55 : decode cX0_nextWork 55 = .ok (.istore 5, 2) := by decide +kernel
theorem dX0_nextWork_57 : decode cX0_nextWork 57 = .ok (.iload 5, 2) := by decide +kernel
theorem dX0_nextWork_59 : decode cX0_nextWork 59 = .ok (.bipush 99, 2) := by decide +kernel
theorem dX0_nextWork_61 : decode cX0_nextWork 61 = .ok (.if_icmp .ge 8, 3) := by decide +kernel
theorem dX0_nextWork_64 : decode cX0_nextWork 64 = .ok (.iload 5, 2) := by decide +kernel
theorem dX0_nextWork_66 : decode cX0_nextWork 66 = .ok (.goto 5, 3) := by decide +kernel
theorem dX0_nextWork_69 : decode cX0_nextWork 69 = .ok (.bipush 99, 2) := by decide +kernel
theorem dX0_nextWork_71 : decode cX0_nextWork 71 = .ok (.ireturn, 1) := by decide +kernel
theorem dX0_nextWork_72 : decode cX0_nextWork 72 = .ok (.iinc 4 24, 3) := by decide +kernel
theorem dX0_nextWork_75 : decode cX0_nextWork 75 = .ok (.goto (-64), 3) := by decide +kernel
theorem dX0_nextWork_78 : decode cX0_nextWork 78 = .ok (.bipush 99, 2) := by decide +kernel
theorem dX0_nextWork_80 : decode cX0_nextWork 80 = .ok (.ireturn, 1) := by decide +kernel
theorem dX1_clear_0 : decode cX1_clear 0 = .ok (.aload_n 0, 1) := by decide +kernel
theorem dX1_clear_1 : decode cX1_clear 1 = .ok (.iconst 0, 1) := by decide +kernel
theorem dX1_clear_2 : decode cX1_clear 2 = .ok (.putfield 15, 3) := by decide +kernel
theorem dX1_clear_5 : decode cX1_clear 5 = .ok (.return_, 1) := by decide +kernel
theorem dX1_tell_0 : decode cX1_tell 0 = .ok (.aload_n 0, 1) := by decide +kernel
theorem dX1_tell_1 : decode cX1_tell 1 = .ok (.getfield 15, 3) := by decide +kernel
theorem dX1_tell_4 : decode cX1_tell 4 = .ok (.aload_n 0, 1) := by decide +kernel
theorem dX1_tell_5 : decode cX1_tell 5 = .ok (.getfield 9, 3) := by decide +kernel
theorem dX1_tell_8 : decode cX1_tell 8 = .ok (.arraylength, 1) := by decide +kernel
theorem dX1_tell_9 : decode cX1_tell 9 = .ok (.if_icmp .ge 23, 3) := by decide +kernel
theorem dX1_tell_12 : decode cX1_tell 12 = .ok (.aload_n 0, 1) := by decide +kernel
theorem dX1_tell_13 : decode cX1_tell 13 = .ok (.getfield 9, 3) := by decide +kernel
theorem dX1_tell_16 : decode cX1_tell 16 = .ok (.aload_n 0, 1) := by decide +kernel
theorem dX1_tell_17 : decode cX1_tell 17 = .ok (.getfield 15, 3) := by decide +kernel
theorem dX1_tell_20 : decode cX1_tell 20 = .ok (.lload_n 1, 1) := by decide +kernel
theorem dX1_tell_21 : decode cX1_tell 21 = .ok (.lastore, 1) := by decide +kernel
theorem dX1_tell_22 : decode cX1_tell 22 = .ok (.aload_n 0, 1) := by decide +kernel
theorem dX1_tell_23 : decode cX1_tell 23 = .ok (.dup, 1) := by decide +kernel
theorem dX1_tell_24 : decode cX1_tell 24 = .ok (.getfield 15, 3) := by decide +kernel
theorem dX1_tell_27 : decode cX1_tell 27 = .ok (.iconst 1, 1) := by decide +kernel
theorem dX1_tell_28 : decode cX1_tell 28 = .ok (.iadd, 1) := by decide +kernel
theorem dX1_tell_29 : decode cX1_tell 29 = .ok (.putfield 15, 3) := by decide +kernel
theorem dX1_tell_32 : decode cX1_tell 32 = .ok (.return_, 1) := by decide +kernel
theorem dX1_tellFraction_0 : decode cX1_tellFraction 0 = .ok (.lload_n 1, 1) := by decide +kernel
theorem dX1_tellFraction_1 : decode cX1_tellFraction 1 = .ok (.lstore 5, 2) := by decide +kernel
theorem dX1_tellFraction_3 : decode cX1_tellFraction 3 = .ok (.lload_n 3, 1) := by decide +kernel
theorem dX1_tellFraction_4 : decode cX1_tellFraction 4 = .ok (.lstore 7, 2) := by decide +kernel
theorem dX1_tellFraction_6 : decode cX1_tellFraction 6 = .ok (.iconst 0, 1) := by decide +kernel
theorem dX1_tellFraction_7 : decode cX1_tellFraction 7 = .ok (.istore 9, 2) := by decide +kernel
theorem dX1_tellFraction_9 : decode cX1_tellFraction 9 = .ok (.iload 9, 2) := by decide +kernel
theorem dX1_tellFraction_11 : decode cX1_tellFraction 11 = .ok (.bipush 100, 2) := by decide +kernel
theorem dX1_tellFraction_13 : decode cX1_tellFraction 13 = .ok (.if_icmp .ge 31, 3) := by decide +kernel
theorem dX1_tellFraction_16 : decode cX1_tellFraction 16 = .ok (.lload 7, 2) := by decide +kernel
theorem dX1_tellFraction_18 : decode cX1_tellFraction 18 = .ok (.lconst 0, 1) := by decide +kernel
theorem dX1_tellFraction_19 : decode cX1_tellFraction 19 = .ok (.lcmp, 1) := by decide +kernel
theorem dX1_tellFraction_20 : decode cX1_tellFraction 20 = .ok (.ifCond .eq 24, 3) := by decide +kernel
theorem dX1_tellFraction_23 : decode cX1_tellFraction 23 = .ok (.lload 5, 2) := by decide +kernel
theorem dX1_tellFraction_25 : decode cX1_tellFraction 25 = .ok (.lload 7, 2) := by decide +kernel
theorem dX1_tellFraction_27 : decode cX1_tellFraction 27 = .ok (.lrem, 1) := by decide +kernel
theorem dX1_tellFraction_28 : decode cX1_tellFraction 28 = .ok (.lstore 10, 2) := by decide +kernel
theorem dX1_tellFraction_30 : decode cX1_tellFraction 30 = .ok (.lload 7, 2) := by decide +kernel
theorem dX1_tellFraction_32 : decode cX1_tellFraction 32 = .ok (.lstore 5, 2) := by decide +kernel
theorem dX1_tellFraction_34 : decode cX1_tellFraction 34 = .ok (.lload 10, 2) := by decide +kernel
theorem dX1_tellFraction_36 : decode cX1_tellFraction 36 = .ok (.lstore 7, 2) := by decide +kernel
theorem dX1_tellFraction_38 : decode cX1_tellFraction 38 = .ok (.iinc 9 1, 3) := by decide +kernel
theorem dX1_tellFraction_41 : decode cX1_tellFraction 41 = .ok (.goto (-32), 3) := by decide +kernel
theorem dX1_tellFraction_44 : decode cX1_tellFraction 44 = .ok (.lload 5, 2) := by decide +kernel
theorem dX1_tellFraction_46 : decode cX1_tellFraction 46 = .ok (.lconst 0, 1) := by decide +kernel
theorem dX1_tellFraction_47 : decode cX1_tellFraction 47 = .ok (.lcmp, 1) := by decide +kernel
theorem dX1_tellFraction_48 : decode cX1_tellFraction 48 = .ok (.ifCond .ne 6, 3) := by decide +kernel
theorem dX1_tellFraction_51 : decode cX1_tellFraction 51 = .ok (.lconst 1, 1) := by decide +kernel
theorem dX1_tellFraction_52 : decode cX1_tellFraction 52 = .ok (.lstore 5, 2) := by decide +kernel
theorem dX1_tellFraction_54 : decode cX1_tellFraction 54 = .ok (.aload_n 0, 1) := by decide +kernel
theorem dX1_tellFraction_55 : decode cX1_tellFraction 55 = .ok (.lload_n 1, 1) := by decide +kernel
theorem dX1_tellFraction_56 : decode cX1_tellFraction 56 = .ok (.lload 5, 2) := by decide +kernel
theorem dX1_tellFraction_58 : decode cX1_tellFraction 58 = .ok (.ldiv, 1) := by decide +kernel
theorem dX1_tellFraction_59 : decode cX1_tellFraction 59 = .ok (.invokevirtual 19, 3) := by decide +kernel
theorem dX1_tellFraction_62 : decode cX1_tellFraction 62 = .ok (.aload_n 0, 1) := by decide +kernel
theorem dX1_tellFraction_63 : decode cX1_tellFraction 63 = .ok (.lload_n 3, 1) := by decide +kernel
theorem dX1_tellFraction_64 : decode cX1_tellFraction 64 = .ok (.lload 5, 2) := by decide +kernel
theorem dX1_tellFraction_66 : decode cX1_tellFraction 66 = .ok (.ldiv, 1) := by decide +kernel
theorem dX1_tellFraction_67 : decode cX1_tellFraction 67 = .ok (.invokevirtual 19, 3) := by decide +kernel
theorem dX1_tellFraction_70 : decode cX1_tellFraction 70 = .ok (.return_, 1) := by decide +kernel
noncomputable def f_X0_has (fu : Nat) (x1 : Int32) (m : hM) : Option (Int32 × hM) :=
  if x1 < 0 then (
some (0, m)) else (
if (gI m 1 4) ≤ x1 then (
some (0, m)) else (
some (1, m)))
set_option maxRecDepth 100000 in
set_option maxHeartbeats 4000000 in
theorem c_X0_has (G : hG) (fu : Nat) (x1 : Int32) (m : hM) : Mt vI G 1 yX0_has cX0_has 2 (some .boolean) [hA G 1, .int x1] m (f_X0_has fu x1 m) := by
  refine mt_of (by decide +kernel) (Nat.le_of_ble_eq_true rfl) (fun X C K => ?_)
  have C : Cx G X 1 cX0_has 2 RX0 (some .boolean) := C
  show Rf vI G X 0 [(0, hA G 1), (1, .int x1)] [] m _
  unfold f_X0_has
  refine rf_iload_n C (n := 1) (q := 1) dX0_has_0 rfl rfl rfl ?_
  refine rf_if_lt C (tgt := 16) (n := 4) dX0_has_1 (by decide) rfl (fun h1 => ?_) (fun h1 => ?_)
  · refine rf_iconst C (n := 17) (v := 0) dX0_has_16 rfl (by decide) ?_
    exact rf_zret C K (by decide) dX0_has_17
  · refine rf_iload_n C (n := 5) (q := 1) dX0_has_4 rfl rfl rfl ?_
    refine rf_aload_n C (n := 6) (q := 0) dX0_has_5 rfl rfl rfl ?_
    refine rf_getI C (n := 9) fl_RX0_27 ly_1 rfl dX0_has_6 rfl ?_
    refine rf_icmp_ge C (tgt := 16) (n := 12) dX0_has_9 (by decide) rfl (fun h2 => ?_) (fun h2 => ?_)
    · refine rf_iconst C (n := 17) (v := 0) dX0_has_16 rfl (by decide) ?_
      exact rf_zret C K (by decide) dX0_has_17
    · refine rf_iconst C (n := 13) (v := 1) dX0_has_12 rfl (by decide) ?_
      refine rf_goto C (n := 17) dX0_has_13 (by decide) ?_
      exact rf_zret C K (by decide) dX0_has_17
noncomputable def f_J9_max_7cf53 (fu : Nat) (x0 : Int32) (x1 : Int32) (m : hM) : Option (Int32 × hM) :=
  if x0 < x1 then (
some (x1, m)) else (
some (x0, m))
set_option maxRecDepth 100000 in
set_option maxHeartbeats 4000000 in
theorem c_J9_max_7cf53 (G : hG) (fu : Nat) (x0 : Int32) (x1 : Int32) (m : hM) : Mt vI G 1 yJ9_max_7cf53 cJ9_max_7cf53 2 (some .int) [.int x0, .int x1] m (f_J9_max_7cf53 fu x0 x1 m) := by
  refine mt_of (by decide +kernel) (Nat.le_of_ble_eq_true rfl) (fun X C K => ?_)
  have C : Cx G X 1 cJ9_max_7cf53 2 RJ9 (some .int) := C
  show Rf vI G X 0 [(0, .int x0), (1, .int x1)] [] m _
  unfold f_J9_max_7cf53
  refine rf_iload_n C (n := 1) (q := 0) dJ9_max_7cf53_0 rfl rfl rfl ?_
  refine rf_iload_n C (n := 2) (q := 1) dJ9_max_7cf53_1 rfl rfl rfl ?_
  refine rf_icmp_lt C (tgt := 9) (n := 5) dJ9_max_7cf53_2 (by decide) rfl (fun h1 => ?_) (fun h1 => ?_)
  · refine rf_iload_n C (n := 10) (q := 1) dJ9_max_7cf53_9 rfl rfl rfl ?_
    exact rf_iret C K dJ9_max_7cf53_10
  · refine rf_iload_n C (n := 6) (q := 0) dJ9_max_7cf53_5 rfl rfl rfl ?_
    refine rf_goto C (n := 10) dJ9_max_7cf53_6 (by decide) ?_
    exact rf_iret C K dJ9_max_7cf53_10
noncomputable def f_J9_min_7cf53 (fu : Nat) (x0 : Int32) (x1 : Int32) (m : hM) : Option (Int32 × hM) :=
  if x1 < x0 then (
some (x1, m)) else (
some (x0, m))
set_option maxRecDepth 100000 in
set_option maxHeartbeats 4000000 in
theorem c_J9_min_7cf53 (G : hG) (fu : Nat) (x0 : Int32) (x1 : Int32) (m : hM) : Mt vI G 1 yJ9_min_7cf53 cJ9_min_7cf53 2 (some .int) [.int x0, .int x1] m (f_J9_min_7cf53 fu x0 x1 m) := by
  refine mt_of (by decide +kernel) (Nat.le_of_ble_eq_true rfl) (fun X C K => ?_)
  have C : Cx G X 1 cJ9_min_7cf53 2 RJ9 (some .int) := C
  show Rf vI G X 0 [(0, .int x0), (1, .int x1)] [] m _
  unfold f_J9_min_7cf53
  refine rf_iload_n C (n := 1) (q := 0) dJ9_min_7cf53_0 rfl rfl rfl ?_
  refine rf_iload_n C (n := 2) (q := 1) dJ9_min_7cf53_1 rfl rfl rfl ?_
  refine rf_icmp_gt C (tgt := 9) (n := 5) dJ9_min_7cf53_2 (by decide) rfl (fun h1 => ?_) (fun h1 => ?_)
  · refine rf_iload_n C (n := 10) (q := 1) dJ9_min_7cf53_9 rfl rfl rfl ?_
    exact rf_iret C K dJ9_min_7cf53_10
  · refine rf_iload_n C (n := 6) (q := 0) dJ9_min_7cf53_5 rfl rfl rfl ?_
    refine rf_goto C (n := 10) dJ9_min_7cf53_6 (by decide) ?_
    exact rf_iret C K dJ9_min_7cf53_10
noncomputable def f_J9_floorDiv_7cf53 (fu : Nat) (x0 : Int32) (x1 : Int32) (m : hM) : Option (Int32 × hM) :=
  if ¬ x1 = 0 then (
hLet (x0 / x1) fun y2 =>
if 0 ≤ (x0 ^^^ x1) then (
some (y2, m)) else (
if (y2 * x1) = x0 then (
some (y2, m)) else (
some (y2 - 1, m)))) else none
set_option maxRecDepth 100000 in
set_option maxHeartbeats 4000000 in
theorem c_J9_floorDiv_7cf53 (G : hG) (fu : Nat) (x0 : Int32) (x1 : Int32) (m : hM) : Mt vI G 1 yJ9_floorDiv_7cf53 cJ9_floorDiv_7cf53 3 (some .int) [.int x0, .int x1] m (f_J9_floorDiv_7cf53 fu x0 x1 m) := by
  refine mt_of (by decide +kernel) (Nat.le_of_ble_eq_true rfl) (fun X C K => ?_)
  have C : Cx G X 1 cJ9_floorDiv_7cf53 3 RJ9 (some .int) := C
  show Rf vI G X 0 [(0, .int x0), (1, .int x1)] [] m _
  unfold f_J9_floorDiv_7cf53
  refine rf_iload_n C (n := 1) (q := 0) dJ9_floorDiv_7cf53_0 rfl rfl rfl ?_
  refine rf_iload_n C (n := 2) (q := 1) dJ9_floorDiv_7cf53_1 rfl rfl rfl ?_
  refine rf_guard (fun h1 => ?_)
  refine rf_idiv C (n := 3) dJ9_floorDiv_7cf53_2 rfl h1 ?_
  refine rf_letI (fun y2 => ?_)
  refine rf_istore_n C (n := 4) [(2, .int y2), (0, .int x0), (1, .int x1)] dJ9_floorDiv_7cf53_3 rfl rfl (by decide) rfl ?_
  refine rf_iload_n C (n := 5) (q := 1) dJ9_floorDiv_7cf53_4 rfl rfl rfl ?_
  refine rf_iload_n C (n := 6) (q := 2) dJ9_floorDiv_7cf53_5 rfl rfl rfl ?_
  refine rf_ixor C (n := 7) dJ9_floorDiv_7cf53_6 rfl ?_
  refine rf_if_ge C (tgt := 21) (n := 10) dJ9_floorDiv_7cf53_7 (by decide) rfl (fun h3 => ?_) (fun h3 => ?_)
  · refine rf_iload_n C (n := 22) (q := 0) dJ9_floorDiv_7cf53_21 rfl rfl rfl ?_
    exact rf_iret C K dJ9_floorDiv_7cf53_22
  · refine rf_iload_n C (n := 11) (q := 0) dJ9_floorDiv_7cf53_10 rfl rfl rfl ?_
    refine rf_iload_n C (n := 12) (q := 2) dJ9_floorDiv_7cf53_11 rfl rfl rfl ?_
    refine rf_imul C (n := 13) dJ9_floorDiv_7cf53_12 rfl ?_
    refine rf_iload_n C (n := 14) (q := 1) dJ9_floorDiv_7cf53_13 rfl rfl rfl ?_
    refine rf_icmp_eq C (tgt := 21) (n := 17) dJ9_floorDiv_7cf53_14 (by decide) rfl (fun h4 => ?_) (fun h4 => ?_)
    · refine rf_iload_n C (n := 22) (q := 0) dJ9_floorDiv_7cf53_21 rfl rfl rfl ?_
      exact rf_iret C K dJ9_floorDiv_7cf53_22
    · refine rf_iload_n C (n := 18) (q := 0) dJ9_floorDiv_7cf53_17 rfl rfl rfl ?_
      refine rf_iconst C (n := 19) (v := 1) dJ9_floorDiv_7cf53_18 rfl (by decide) ?_
      refine rf_isub C (n := 20) dJ9_floorDiv_7cf53_19 rfl ?_
      exact rf_iret C K dJ9_floorDiv_7cf53_20
noncomputable def f_J9_floorMod_7cf53 (fu : Nat) (x0 : Int32) (x1 : Int32) (m : hM) : Option (Int32 × hM) :=
  if ¬ x1 = 0 then (
hLet (x0 - x0 / x1 * x1) fun y2 =>
if 0 ≤ (x0 ^^^ x1) then (
some (y2, m)) else (
if y2 = 0 then (
some (y2, m)) else (
some (y2 + x1, m)))) else none
set_option maxRecDepth 100000 in
set_option maxHeartbeats 4000000 in
theorem c_J9_floorMod_7cf53 (G : hG) (fu : Nat) (x0 : Int32) (x1 : Int32) (m : hM) : Mt vI G 1 yJ9_floorMod_7cf53 cJ9_floorMod_7cf53 3 (some .int) [.int x0, .int x1] m (f_J9_floorMod_7cf53 fu x0 x1 m) := by
  refine mt_of (by decide +kernel) (Nat.le_of_ble_eq_true rfl) (fun X C K => ?_)
  have C : Cx G X 1 cJ9_floorMod_7cf53 3 RJ9 (some .int) := C
  show Rf vI G X 0 [(0, .int x0), (1, .int x1)] [] m _
  unfold f_J9_floorMod_7cf53
  refine rf_iload_n C (n := 1) (q := 0) dJ9_floorMod_7cf53_0 rfl rfl rfl ?_
  refine rf_iload_n C (n := 2) (q := 1) dJ9_floorMod_7cf53_1 rfl rfl rfl ?_
  refine rf_guard (fun h1 => ?_)
  refine rf_irem C (n := 3) dJ9_floorMod_7cf53_2 rfl h1 ?_
  refine rf_letI (fun y2 => ?_)
  refine rf_istore_n C (n := 4) [(2, .int y2), (0, .int x0), (1, .int x1)] dJ9_floorMod_7cf53_3 rfl rfl (by decide) rfl ?_
  refine rf_iload_n C (n := 5) (q := 1) dJ9_floorMod_7cf53_4 rfl rfl rfl ?_
  refine rf_iload_n C (n := 6) (q := 2) dJ9_floorMod_7cf53_5 rfl rfl rfl ?_
  refine rf_ixor C (n := 7) dJ9_floorMod_7cf53_6 rfl ?_
  refine rf_if_ge C (tgt := 18) (n := 10) dJ9_floorMod_7cf53_7 (by decide) rfl (fun h3 => ?_) (fun h3 => ?_)
  · refine rf_iload_n C (n := 19) (q := 0) dJ9_floorMod_7cf53_18 rfl rfl rfl ?_
    exact rf_iret C K dJ9_floorMod_7cf53_19
  · refine rf_iload_n C (n := 11) (q := 0) dJ9_floorMod_7cf53_10 rfl rfl rfl ?_
    refine rf_if_eq C (tgt := 18) (n := 14) dJ9_floorMod_7cf53_11 (by decide) rfl (fun h4 => ?_) (fun h4 => ?_)
    · refine rf_iload_n C (n := 19) (q := 0) dJ9_floorMod_7cf53_18 rfl rfl rfl ?_
      exact rf_iret C K dJ9_floorMod_7cf53_19
    · refine rf_iload_n C (n := 15) (q := 0) dJ9_floorMod_7cf53_14 rfl rfl rfl ?_
      refine rf_iload_n C (n := 16) (q := 2) dJ9_floorMod_7cf53_15 rfl rfl rfl ?_
      refine rf_iadd C (n := 17) dJ9_floorMod_7cf53_16 rfl ?_
      exact rf_iret C K dJ9_floorMod_7cf53_17
noncomputable def f_X10_isDay (fu : Nat) (x0 : Int32) (m : hM) : Option (Int32 × hM) :=
  if x0 < 0 then (
some (0, m)) else (
if 100 ≤ x0 then (
some (0, m)) else (
some (1, m)))
set_option maxRecDepth 100000 in
set_option maxHeartbeats 4000000 in
theorem c_X10_isDay (G : hG) (fu : Nat) (x0 : Int32) (m : hM) : Mt vI G 1 yX10_isDay cX10_isDay 1 (some .boolean) [.int x0] m (f_X10_isDay fu x0 m) := by
  refine mt_of (by decide +kernel) (Nat.le_of_ble_eq_true rfl) (fun X C K => ?_)
  have C : Cx G X 1 cX10_isDay 1 RX10 (some .boolean) := C
  show Rf vI G X 0 [(0, .int x0)] [] m _
  unfold f_X10_isDay
  refine rf_iload_n C (n := 1) (q := 0) dX10_isDay_0 rfl rfl rfl ?_
  refine rf_if_lt C (tgt := 14) (n := 4) dX10_isDay_1 (by decide) rfl (fun h1 => ?_) (fun h1 => ?_)
  · refine rf_iconst C (n := 15) (v := 0) dX10_isDay_14 rfl (by decide) ?_
    exact rf_zret C K (by decide) dX10_isDay_15
  · refine rf_iload_n C (n := 5) (q := 0) dX10_isDay_4 rfl rfl rfl ?_
    refine rf_bipush C (n := 7) (v := 100) dX10_isDay_5 rfl (by decide) ?_
    refine rf_icmp_ge C (tgt := 14) (n := 10) dX10_isDay_7 (by decide) rfl (fun h2 => ?_) (fun h2 => ?_)
    · refine rf_iconst C (n := 15) (v := 0) dX10_isDay_14 rfl (by decide) ?_
      exact rf_zret C K (by decide) dX10_isDay_15
    · refine rf_iconst C (n := 11) (v := 1) dX10_isDay_10 rfl (by decide) ?_
      refine rf_goto C (n := 15) dX10_isDay_11 (by decide) ?_
      exact rf_zret C K (by decide) dX10_isDay_15
noncomputable def f_X2_atWork_22 (fu : Nat) (a0 : Nat) (s0 : Int32) (s1 : Int32) (m : hM) : Option (Int32 × hM) :=
  hLet (s0 + s1) fun y2 =>
hBd (f_J9_floorMod_7cf53 fu (y2 - (gI m a0 1)) 24 m) fun y3 m4 =>
if y3 < (gI m4 a0 2) then (
hBd (f_J9_floorDiv_7cf53 fu (y2 - y3) 24 m4) fun y6 m7 =>
hBd (f_X10_isDay fu y6 m7) fun y8 m9 =>
if y8 = 0 then (
some (1, m9)) else (
if hIn y6 100 then (
if ¬ (gI m9 (a0 + 1) (Int32.toNatClampNeg y6)) = 0 then (
some (0, m9)) else (
some (1, m9))) else none)) else (
some (0, m4))
set_option maxRecDepth 100000 in
set_option maxHeartbeats 4000000 in
theorem r_X2_atWork_22 {G : hG} {X : hX} (C : Cx G X 2 cX2_atWork 5 RX2 (some .boolean)) (K : Cr G X) (fu : Nat) (a0 : Nat) (ha0 : a0 ∈ ofL) (s0 : Int32) (s1 : Int32) (m : hM) : Rf vI G X 22 [(0, hA G a0)] [.int s1, .int s0] m (f_X2_atWork_22 fu a0 s0 s1 m) := by
  unfold f_X2_atWork_22
  refine rf_iadd C (n := 23) dX2_atWork_22 rfl ?_
  refine rf_letI (fun y2 => ?_)
  refine rf_istore_n C (n := 24) [(2, .int y2), (0, hA G a0)] dX2_atWork_23 rfl rfl (by decide) rfl ?_
  refine rf_iload_n C (n := 25) (q := 0) dX2_atWork_24 rfl rfl rfl ?_
  refine rf_aload_n C (n := 26) (q := 1) dX2_atWork_25 rfl rfl rfl ?_
  refine rf_getI C (n := 29) fl_RX2_19 (pO_l ha0) rfl dX2_atWork_26 rfl ?_
  refine rf_isub C (n := 30) dX2_atWork_29 rfl ?_
  refine rf_bipush C (n := 32) (v := 24) dX2_atWork_30 rfl (by decide) ?_
  refine rf_callSi C (n := 35) (c_J9_floorMod_7cf53 G fu _ _ _) sw_RX2_40 ⟨by decide, by decide⟩ rfl (Nat.le_of_ble_eq_true rfl) rfl dX2_atWork_32 rfl (fun y3 m4 => ?_)
  refine rf_istore_n C (n := 36) [(3, .int y3), (2, .int y2), (0, hA G a0)] dX2_atWork_35 rfl rfl (by decide) rfl ?_
  refine rf_iload_n C (n := 37) (q := 0) dX2_atWork_36 rfl rfl rfl ?_
  refine rf_aload_n C (n := 38) (q := 2) dX2_atWork_37 rfl rfl rfl ?_
  refine rf_getI C (n := 41) fl_RX2_22 (pO_l ha0) rfl dX2_atWork_38 rfl ?_
  refine rf_icmp_lt C (tgt := 46) (n := 44) dX2_atWork_41 (by decide) rfl (fun h5 => ?_) (fun h5 => ?_)
  · refine rf_iload_n C (n := 47) (q := 1) dX2_atWork_46 rfl rfl rfl ?_
    refine rf_iload_n C (n := 48) (q := 0) dX2_atWork_47 rfl rfl rfl ?_
    refine rf_isub C (n := 49) dX2_atWork_48 rfl ?_
    refine rf_bipush C (n := 51) (v := 24) dX2_atWork_49 rfl (by decide) ?_
    refine rf_callSi C (n := 54) (c_J9_floorDiv_7cf53 G fu _ _ _) sw_RX2_46 ⟨by decide, by decide⟩ rfl (Nat.le_of_ble_eq_true rfl) rfl dX2_atWork_51 rfl (fun y6 m7 => ?_)
    refine rf_istore C (n := 56) [(4, .int y6), (3, .int y3), (2, .int y2), (0, hA G a0)] dX2_atWork_54 rfl (by decide) rfl ?_
    refine rf_iload C (n := 58) (q := 0) dX2_atWork_56 rfl rfl ?_
    refine rf_callNi C (n := 61) (c_X10_isDay G fu _ _) nw_RX2_49 ⟨by decide, by decide⟩ rfl (Nat.le_of_ble_eq_true rfl) rfl dX2_atWork_58 rfl (fun y8 m9 => ?_)
    refine rf_if_eq C (tgt := 74) (n := 64) dX2_atWork_61 (by decide) rfl (fun h10 => ?_) (fun h10 => ?_)
    · refine rf_iconst C (n := 75) (v := 1) dX2_atWork_74 rfl (by decide) ?_
      refine rf_goto C (n := 79) dX2_atWork_75 (by decide) ?_
      exact rf_zret C K (by decide) dX2_atWork_79
    · refine rf_aload_n C (n := 65) (q := 3) dX2_atWork_64 rfl rfl rfl ?_
      refine rf_getS C (n := 68) fl_RX2_9 (pO_l ha0) rfl dX2_atWork_65 rfl ?_
      refine rf_iload C (n := 70) (q := 0) dX2_atWork_68 rfl rfl ?_
      refine rf_guard (fun h11 => ?_)
      refine rf_zald C (n := 71) (of_a1 ha0) h11 rfl dX2_atWork_70 rfl ?_
      refine rf_if_ne C (tgt := 78) (n := 74) dX2_atWork_71 (by decide) rfl (fun h12 => ?_) (fun h12 => ?_)
      · refine rf_iconst C (n := 79) (v := 0) dX2_atWork_78 rfl (by decide) ?_
        exact rf_zret C K (by decide) dX2_atWork_79
      · refine rf_iconst C (n := 75) (v := 1) dX2_atWork_74 rfl (by decide) ?_
        refine rf_goto C (n := 79) dX2_atWork_75 (by decide) ?_
        exact rf_zret C K (by decide) dX2_atWork_79
  · refine rf_iconst C (n := 45) (v := 0) dX2_atWork_44 rfl (by decide) ?_
    exact rf_zret C K (by decide) dX2_atWork_45
noncomputable def f_X2_atWork (fu : Nat) (a0 : Nat) (x1 : Int32) (m : hM) : Option (Int32 × hM) :=
  if a0 ∈ ofL then (if x1 < (gI m a0 6) then (
f_X2_atWork_22 fu a0 (x1 + (gI m a0 0)) 0 m) else (
f_X2_atWork_22 fu a0 (x1 + (gI m a0 0)) (gI m a0 7) m)) else none
set_option maxRecDepth 100000 in
set_option maxHeartbeats 4000000 in
theorem c_X2_atWork (G : hG) (fu : Nat) (a0 : Nat) (x1 : Int32) (m : hM) : Mt vI G 2 yX2_atWork cX2_atWork 5 (some .boolean) [hA G a0, .int x1] m (f_X2_atWork fu a0 x1 m) := by
  refine mt_of (by decide +kernel) (Nat.le_of_ble_eq_true rfl) (fun X C K => ?_)
  have C : Cx G X 2 cX2_atWork 5 RX2 (some .boolean) := C
  show Rf vI G X 0 [(0, hA G a0), (1, .int x1)] [] m _
  unfold f_X2_atWork
  refine rf_guard (fun ha0 => ?_)
  refine rf_iload_n C (n := 1) (q := 1) dX2_atWork_0 rfl rfl rfl ?_
  refine rf_aload_n C (n := 2) (q := 0) dX2_atWork_1 rfl rfl rfl ?_
  refine rf_getI C (n := 5) fl_RX2_15 (pO_l ha0) rfl dX2_atWork_2 rfl ?_
  refine rf_iadd C (n := 6) dX2_atWork_5 rfl ?_
  refine rf_iload_n C (n := 7) (q := 1) dX2_atWork_6 rfl rfl rfl ?_
  refine rf_aload_n C (n := 8) (q := 0) dX2_atWork_7 rfl rfl rfl ?_
  refine rf_getI C (n := 11) fl_RX2_34 (pO_l ha0) rfl dX2_atWork_8 rfl ?_
  refine rf_icmp_lt C (tgt := 21) (n := 14) dX2_atWork_11 (by decide) rfl (fun h1 => ?_) (fun h1 => ?_)
  · refine rf_iconst C (n := 22) (v := 0) dX2_atWork_21 rfl (by decide) ?_
    exact rf_lv _ [0] rfl (r_X2_atWork_22 C K fu _ ha0 _ _ _)
  · refine rf_aload_n C (n := 15) (q := 0) dX2_atWork_14 rfl rfl rfl ?_
    refine rf_getI C (n := 18) fl_RX2_37 (pO_l ha0) rfl dX2_atWork_15 rfl ?_
    refine rf_goto C (n := 22) dX2_atWork_18 (by decide) ?_
    exact rf_lv _ [0] rfl (r_X2_atWork_22 C K fu _ ha0 _ _ _)
noncomputable def f_X0_refresh_142 (fu : Nat) (k100 : Int32 → Int32 → Int32 → Int32 → hM → Option (Unit × hM)) (x1 : Int32) (x2 : Int32) (x5 : Int32) (x7 : Int32) (s0 : Int32) (m : hM) : Option (Unit × hM) :=
  if hIn x7 2500 then (
if hIn (x5 + x7) 15000 then (
hLet (sI m 5 (Int32.toNatClampNeg (x5 + x7)) ((s0 &&& 16777215) ||| (((gI m 4 (Int32.toNatClampNeg x7)) >>> (x1 &&& 31)) &&& 1))) fun m14 =>
hLet (x7 + (-1)) fun y15 =>
k100 x1 x2 x5 y15 m14) else none) else none
set_option maxRecDepth 100000 in
set_option maxHeartbeats 4000000 in
theorem r_X0_refresh_142 {G : hG} {X : hX} (C : Cx G X 3 cX0_refresh 9 RX0 none) (K : Cr G X) (fu : Nat) (k100 : Int32 → Int32 → Int32 → Int32 → hM → Option (Unit × hM)) (hk100 : ∀ (x1 : Int32) (x2 : Int32) (x5 : Int32) (x7 : Int32) (m : hM), Rf vU G X 100 [(0, hA G 1), (1, .int x1), (2, .int x2), (5, .int x5), (7, .int x7)] [] m (k100 x1 x2 x5 x7 m)) (x1 : Int32) (x2 : Int32) (x5 : Int32) (x7 : Int32) (s0 : Int32) (m : hM) : Rf vU G X 142 [(0, hA G 1), (1, .int x1), (2, .int x2), (5, .int x5), (7, .int x7)] [.int s0] m (f_X0_refresh_142 fu k100 x1 x2 x5 x7 s0 m) := by
  unfold f_X0_refresh_142
  refine rf_istore C (n := 144) [(8, .int s0), (0, hA G 1), (1, .int x1), (2, .int x2), (5, .int x5), (7, .int x7)] dX0_refresh_142 rfl (by decide) rfl ?_
  refine rf_aload_n C (n := 145) (q := 1) dX0_refresh_144 rfl rfl rfl ?_
  refine rf_getS C (n := 148) fl_RX0_24 ly_1 rfl dX0_refresh_145 rfl ?_
  refine rf_iload C (n := 150) (q := 4) dX0_refresh_148 rfl rfl ?_
  refine rf_iload C (n := 152) (q := 5) dX0_refresh_150 rfl rfl ?_
  refine rf_iadd C (n := 153) dX0_refresh_152 rfl ?_
  refine rf_iload C (n := 155) (q := 0) dX0_refresh_153 rfl rfl ?_
  refine rf_ldc C (n := 157) dX0_refresh_155 rfl kc_RX0_51 ?_
  refine rf_iand C (n := 158) dX0_refresh_157 rfl ?_
  refine rf_aload_n C (n := 159) (q := 1) dX0_refresh_158 rfl rfl rfl ?_
  refine rf_getS C (n := 162) fl_RX0_21 ly_1 rfl dX0_refresh_159 rfl ?_
  refine rf_iload C (n := 164) (q := 5) dX0_refresh_162 rfl rfl ?_
  refine rf_guard (fun h12 => ?_)
  refine rf_iald C (n := 165) ly_4 h12 rfl dX0_refresh_164 rfl ?_
  refine rf_iload_n C (n := 166) (q := 2) dX0_refresh_165 rfl rfl rfl ?_
  refine rf_ishr C (n := 167) dX0_refresh_166 rfl ?_
  refine rf_iconst C (n := 168) (v := 1) dX0_refresh_167 rfl (by decide) ?_
  refine rf_iand C (n := 169) dX0_refresh_168 rfl ?_
  refine rf_ior C (n := 170) dX0_refresh_169 rfl ?_
  refine rf_guard (fun h13 => ?_)
  refine rf_iast C (n := 171) ly_5 h13 rfl dX0_refresh_170 rfl ?_
  refine rf_letM (fun m14 => ?_)
  refine rf_iinc2 C (n := 174) (q := 5) (fun y15 => [(7, .int y15), (8, .int s0), (0, hA G 1), (1, .int x1), (2, .int x2), (5, .int x5)]) dX0_refresh_171 rfl rfl (by decide) (by decide) (fun _ => rfl) (fun y15 => ?_)
  refine rf_goto C (n := 100) dX0_refresh_174 (by decide) ?_
  exact rf_lv _ [2, 3, 4, 5, 0] rfl (hk100 _ _ _ _ _)
noncomputable def s_X0_refresh_100 (fu : Nat) (ih : Int32 → Int32 → Int32 → Int32 → hM → Option (Unit × hM)) (x1 : Int32) (x2 : Int32) (x5 : Int32) (x7 : Int32) (m : hM) : Option (Unit × hM) :=
  if x7 < 0 then (
some ((), m)) else (
if x7 ≤ (x2 - 24) then (
some ((), m)) else (
if 2500 ≤ (x7 + 1) then (
f_X0_refresh_142 fu ih x1 x2 x5 x7 0 m) else (
if hIn ((x5 + x7) + 1) 15000 then (
f_X0_refresh_142 fu ih x1 x2 x5 x7 ((gI m 5 (Int32.toNatClampNeg ((x5 + x7) + 1))) <<< (1 &&& 31)) m) else none)))
noncomputable def f_X0_refresh_100 (fu : Nat) (n : Nat) : Int32 → Int32 → Int32 → Int32 → hM → Option (Unit × hM) :=
  Nat.rec (motive := fun _ => Int32 → Int32 → Int32 → Int32 → hM → Option (Unit × hM)) (fun _ _ _ _ _ => none) (fun _ ih => s_X0_refresh_100 fu ih) n
theorem f_X0_refresh_100_s (fu : Nat) (n : Nat) (x1 : Int32) (x2 : Int32) (x5 : Int32) (x7 : Int32) (m : hM) : f_X0_refresh_100 fu (n + 1) x1 x2 x5 x7 m = s_X0_refresh_100 fu (f_X0_refresh_100 fu n) x1 x2 x5 x7 m := rfl
set_option maxRecDepth 100000 in
set_option maxHeartbeats 4000000 in
theorem r_X0_refresh_100 {G : hG} {X : hX} (C : Cx G X 3 cX0_refresh 9 RX0 none) (K : Cr G X) (fu : Nat) (n : Nat) : ∀ (x1 : Int32) (x2 : Int32) (x5 : Int32) (x7 : Int32) (m : hM), Rf vU G X 100 [(0, hA G 1), (1, .int x1), (2, .int x2), (5, .int x5), (7, .int x7)] [] m (f_X0_refresh_100 fu n x1 x2 x5 x7 m) := by
  induction n with
  | zero => intros; exact rf_none
  | succ n ih =>
    intro x1 x2 x5 x7 m
    show Rf vU G X 100 [(0, hA G 1), (1, .int x1), (2, .int x2), (5, .int x5), (7, .int x7)] [] m (s_X0_refresh_100 fu (f_X0_refresh_100 fu n) x1 x2 x5 x7 m)
    unfold s_X0_refresh_100
    refine rf_iload C (n := 102) (q := 4) dX0_refresh_100 rfl rfl ?_
    refine rf_if_lt C (tgt := 177) (n := 105) dX0_refresh_102 (by decide) rfl (fun h9 => ?_) (fun h9 => ?_)
    · exact rf_vret C K dX0_refresh_177
    · refine rf_iload C (n := 107) (q := 4) dX0_refresh_105 rfl rfl ?_
      refine rf_iload_n C (n := 108) (q := 2) dX0_refresh_107 rfl rfl rfl ?_
      refine rf_bipush C (n := 110) (v := 24) dX0_refresh_108 rfl (by decide) ?_
      refine rf_isub C (n := 111) dX0_refresh_110 rfl ?_
      refine rf_icmp_le C (tgt := 177) (n := 114) dX0_refresh_111 (by decide) rfl (fun h10 => ?_) (fun h10 => ?_)
      · exact rf_vret C K dX0_refresh_177
      · refine rf_iload C (n := 116) (q := 4) dX0_refresh_114 rfl rfl ?_
        refine rf_iconst C (n := 117) (v := 1) dX0_refresh_116 rfl (by decide) ?_
        refine rf_iadd C (n := 118) dX0_refresh_117 rfl ?_
        refine rf_sipush C (n := 121) (v := 2500) dX0_refresh_118 rfl (by decide) ?_
        refine rf_icmp_ge C (tgt := 141) (n := 124) dX0_refresh_121 (by decide) rfl (fun h11 => ?_) (fun h11 => ?_)
        · refine rf_iconst C (n := 142) (v := 0) dX0_refresh_141 rfl (by decide) ?_
          exact rf_lv _ [0, 1, 2, 3, 4] rfl (r_X0_refresh_142 C K fu _ ih _ _ _ _ _ _)
        · refine rf_aload_n C (n := 125) (q := 0) dX0_refresh_124 rfl rfl rfl ?_
          refine rf_getS C (n := 128) fl_RX0_24 ly_1 rfl dX0_refresh_125 rfl ?_
          refine rf_iload C (n := 130) (q := 3) dX0_refresh_128 rfl rfl ?_
          refine rf_iload C (n := 132) (q := 4) dX0_refresh_130 rfl rfl ?_
          refine rf_iadd C (n := 133) dX0_refresh_132 rfl ?_
          refine rf_iconst C (n := 134) (v := 1) dX0_refresh_133 rfl (by decide) ?_
          refine rf_iadd C (n := 135) dX0_refresh_134 rfl ?_
          refine rf_guard (fun h16 => ?_)
          refine rf_iald C (n := 136) ly_5 h16 rfl dX0_refresh_135 rfl ?_
          refine rf_iconst C (n := 137) (v := 1) dX0_refresh_136 rfl (by decide) ?_
          refine rf_ishl C (n := 138) dX0_refresh_137 rfl ?_
          refine rf_goto C (n := 142) dX0_refresh_138 (by decide) ?_
          exact rf_lv _ [0, 1, 2, 3, 4] rfl (r_X0_refresh_142 C K fu _ ih _ _ _ _ _ _)
noncomputable def f_X0_refresh_78 (fu : Nat) (x1 : Int32) (x2 : Int32) (x3 : Int32) (m : hM) : Option (Unit × hM) :=
  hLet (x1 * 2500) fun y5 =>
hBd (f_J9_min_7cf53 fu x3 2500 m) fun y6 m7 =>
hLet (y6 - 1) fun y8 =>
f_X0_refresh_100 fu fu x1 x2 y5 y8 m7
set_option maxRecDepth 100000 in
set_option maxHeartbeats 4000000 in
theorem r_X0_refresh_78 {G : hG} {X : hX} (C : Cx G X 3 cX0_refresh 9 RX0 none) (K : Cr G X) (fu : Nat) (x1 : Int32) (x2 : Int32) (x3 : Int32) (m : hM) : Rf vU G X 78 [(0, hA G 1), (1, .int x1), (2, .int x2), (3, .int x3)] [] m (f_X0_refresh_78 fu x1 x2 x3 m) := by
  unfold f_X0_refresh_78
  refine rf_iload_n C (n := 79) (q := 1) dX0_refresh_78 rfl rfl rfl ?_
  refine rf_sipush C (n := 82) (v := 2500) dX0_refresh_79 rfl (by decide) ?_
  refine rf_imul C (n := 83) dX0_refresh_82 rfl ?_
  refine rf_letI (fun y5 => ?_)
  refine rf_istore C (n := 85) [(5, .int y5), (0, hA G 1), (1, .int x1), (2, .int x2), (3, .int x3)] dX0_refresh_83 rfl (by decide) rfl ?_
  refine rf_iload_n C (n := 86) (q := 4) dX0_refresh_85 rfl rfl rfl ?_
  refine rf_sipush C (n := 89) (v := 2500) dX0_refresh_86 rfl (by decide) ?_
  refine rf_callSi C (n := 92) (c_J9_min_7cf53 G fu _ _ _) sw_RX0_48 ⟨by decide, by decide⟩ rfl (Nat.le_of_ble_eq_true rfl) rfl dX0_refresh_89 rfl (fun y6 m7 => ?_)
  refine rf_iconst C (n := 93) (v := 1) dX0_refresh_92 rfl (by decide) ?_
  refine rf_isub C (n := 94) dX0_refresh_93 rfl ?_
  refine rf_letI (fun y8 => ?_)
  refine rf_istore C (n := 96) [(6, .int y8), (5, .int y5), (0, hA G 1), (1, .int x1), (2, .int x2), (3, .int x3)] dX0_refresh_94 rfl (by decide) rfl ?_
  refine rf_iload C (n := 98) (q := 0) dX0_refresh_96 rfl rfl ?_
  refine rf_istore C (n := 100) [(7, .int y8), (6, .int y8), (5, .int y5), (0, hA G 1), (1, .int x1), (2, .int x2), (3, .int x3)] dX0_refresh_98 rfl (by decide) rfl ?_
  exact rf_lv _ [3, 4, 5, 2, 0] rfl (r_X0_refresh_100 C K fu fu _ _ _ _ _)
noncomputable def f_X0_refresh_71 (fu : Nat) (k12 : Int32 → Int32 → Int32 → Int32 → Int32 → hM → Option (Unit × hM)) (x1 : Int32) (x2 : Int32) (x3 : Int32) (x4 : Int32) (x5 : Int32) (s1 : Int32) (s2 : Int32) (m : hM) : Option (Unit × hM) :=
  if hIn s1 2500 then (
hLet (sI m 4 (Int32.toNatClampNeg s1) s2) fun m24 =>
hLet (x5 + 1) fun y25 =>
k12 x1 x2 x3 x4 y25 m24) else none
set_option maxRecDepth 100000 in
set_option maxHeartbeats 4000000 in
theorem r_X0_refresh_71 {G : hG} {X : hX} (C : Cx G X 3 cX0_refresh 9 RX0 none) (K : Cr G X) (fu : Nat) (k12 : Int32 → Int32 → Int32 → Int32 → Int32 → hM → Option (Unit × hM)) (hk12 : ∀ (x1 : Int32) (x2 : Int32) (x3 : Int32) (x4 : Int32) (x5 : Int32) (m : hM), Rf vU G X 12 [(0, hA G 1), (1, .int x1), (2, .int x2), (3, .int x3), (4, .int x4), (5, .int x5)] [] m (k12 x1 x2 x3 x4 x5 m)) (x1 : Int32) (x2 : Int32) (x3 : Int32) (x4 : Int32) (x5 : Int32) (s1 : Int32) (s2 : Int32) (m : hM) : Rf vU G X 71 [(0, hA G 1), (1, .int x1), (2, .int x2), (3, .int x3), (4, .int x4), (5, .int x5)] [.int s2, .int s1, hA G 4] m (f_X0_refresh_71 fu k12 x1 x2 x3 x4 x5 s1 s2 m) := by
  unfold f_X0_refresh_71
  refine rf_guard (fun h23 => ?_)
  refine rf_iast C (n := 72) ly_4 h23 rfl dX0_refresh_71 rfl ?_
  refine rf_letM (fun m24 => ?_)
  refine rf_iinc2 C (n := 75) (q := 5) (fun y25 => [(5, .int y25), (0, hA G 1), (1, .int x1), (2, .int x2), (3, .int x3), (4, .int x4)]) dX0_refresh_72 rfl rfl (by decide) (by decide) (fun _ => rfl) (fun y25 => ?_)
  refine rf_goto C (n := 12) dX0_refresh_75 (by decide) ?_
  exact rf_lv _ [1, 2, 3, 4, 5, 0] rfl (hk12 _ _ _ _ _ _)
noncomputable def s_X0_refresh_12 (fu : Nat) (ih : Int32 → Int32 → Int32 → Int32 → Int32 → hM → Option (Unit × hM)) (x1 : Int32) (x2 : Int32) (x3 : Int32) (x4 : Int32) (x5 : Int32) (m : hM) : Option (Unit × hM) :=
  if x3 ≤ x5 then (
f_X0_refresh_78 fu x1 x2 x3 m) else (
if 2500 ≤ x5 then (
f_X0_refresh_78 fu x1 x2 x3 m) else (
if hIn x1 6 then (
hBd (f_X2_atWork fu (6 + 2 * (Int32.toNatClampNeg x1)) x5 m) fun y19 m20 =>
if y19 = 0 then (
if hIn x5 2500 then (
f_X0_refresh_71 fu ih x1 x2 x3 x4 x5 x5 ((gI m20 4 (Int32.toNatClampNeg x5)) &&& (x4 ^^^ (-1))) m20) else none) else (
if hIn x5 2500 then (
f_X0_refresh_71 fu ih x1 x2 x3 x4 x5 x5 ((gI m20 4 (Int32.toNatClampNeg x5)) ||| x4) m20) else none)) else none))
noncomputable def f_X0_refresh_12 (fu : Nat) (n : Nat) : Int32 → Int32 → Int32 → Int32 → Int32 → hM → Option (Unit × hM) :=
  Nat.rec (motive := fun _ => Int32 → Int32 → Int32 → Int32 → Int32 → hM → Option (Unit × hM)) (fun _ _ _ _ _ _ => none) (fun _ ih => s_X0_refresh_12 fu ih) n
theorem f_X0_refresh_12_s (fu : Nat) (n : Nat) (x1 : Int32) (x2 : Int32) (x3 : Int32) (x4 : Int32) (x5 : Int32) (m : hM) : f_X0_refresh_12 fu (n + 1) x1 x2 x3 x4 x5 m = s_X0_refresh_12 fu (f_X0_refresh_12 fu n) x1 x2 x3 x4 x5 m := rfl
set_option maxRecDepth 100000 in
set_option maxHeartbeats 4000000 in
theorem r_X0_refresh_12 {G : hG} {X : hX} (C : Cx G X 3 cX0_refresh 9 RX0 none) (K : Cr G X) (fu : Nat) (n : Nat) : ∀ (x1 : Int32) (x2 : Int32) (x3 : Int32) (x4 : Int32) (x5 : Int32) (m : hM), Rf vU G X 12 [(0, hA G 1), (1, .int x1), (2, .int x2), (3, .int x3), (4, .int x4), (5, .int x5)] [] m (f_X0_refresh_12 fu n x1 x2 x3 x4 x5 m) := by
  induction n with
  | zero => intros; exact rf_none
  | succ n ih =>
    intro x1 x2 x3 x4 x5 m
    show Rf vU G X 12 [(0, hA G 1), (1, .int x1), (2, .int x2), (3, .int x3), (4, .int x4), (5, .int x5)] [] m (s_X0_refresh_12 fu (f_X0_refresh_12 fu n) x1 x2 x3 x4 x5 m)
    unfold s_X0_refresh_12
    refine rf_iload C (n := 14) (q := 5) dX0_refresh_12 rfl rfl ?_
    refine rf_iload_n C (n := 15) (q := 3) dX0_refresh_14 rfl rfl rfl ?_
    refine rf_icmp_ge C (tgt := 78) (n := 18) dX0_refresh_15 (by decide) rfl (fun h4 => ?_) (fun h4 => ?_)
    · exact rf_lv _ [0, 1, 2, 3] rfl (r_X0_refresh_78 C K fu _ _ _ _)
    · refine rf_iload C (n := 20) (q := 5) dX0_refresh_18 rfl rfl ?_
      refine rf_sipush C (n := 23) (v := 2500) dX0_refresh_20 rfl (by decide) ?_
      refine rf_icmp_ge C (tgt := 78) (n := 26) dX0_refresh_23 (by decide) rfl (fun h17 => ?_) (fun h17 => ?_)
      · exact rf_lv _ [0, 1, 2, 3] rfl (r_X0_refresh_78 C K fu _ _ _ _)
      · refine rf_aload_n C (n := 27) (q := 0) dX0_refresh_26 rfl rfl rfl ?_
        refine rf_getS C (n := 30) fl_RX0_21 ly_1 rfl dX0_refresh_27 rfl ?_
        refine rf_iload C (n := 32) (q := 5) dX0_refresh_30 rfl rfl ?_
        refine rf_aload_n C (n := 33) (q := 0) dX0_refresh_32 rfl rfl rfl ?_
        refine rf_getS C (n := 36) fl_RX0_11 ly_1 rfl dX0_refresh_33 rfl ?_
        refine rf_iload_n C (n := 37) (q := 1) dX0_refresh_36 rfl rfl rfl ?_
        refine rf_guard (fun h18 => ?_)
        refine rf_aaldO C (n := 38) ly_2 h18 (of_r h18) dX0_refresh_37 rfl ?_
        refine rf_iload C (n := 40) (q := 5) dX0_refresh_38 rfl rfl ?_
        refine rf_callVi C (n := 43) (c_X2_atWork G fu _ _ _) mw_RX0_44 (pO_l (of_o h18)) rfl ⟨by decide, by decide⟩ rfl (Nat.le_of_ble_eq_true rfl) rfl dX0_refresh_40 rfl (fun y19 m20 => ?_)
        refine rf_if_eq C (tgt := 59) (n := 46) dX0_refresh_43 (by decide) rfl (fun h21 => ?_) (fun h21 => ?_)
        · refine rf_aload_n C (n := 60) (q := 0) dX0_refresh_59 rfl rfl rfl ?_
          refine rf_getS C (n := 63) fl_RX0_21 ly_1 rfl dX0_refresh_60 rfl ?_
          refine rf_iload C (n := 65) (q := 5) dX0_refresh_63 rfl rfl ?_
          refine rf_guard (fun h22 => ?_)
          refine rf_iald C (n := 66) ly_4 h22 rfl dX0_refresh_65 rfl ?_
          refine rf_iload C (n := 68) (q := 4) dX0_refresh_66 rfl rfl ?_
          refine rf_iconst C (n := 69) (v := (-1)) dX0_refresh_68 rfl (by decide) ?_
          refine rf_ixor C (n := 70) dX0_refresh_69 rfl ?_
          refine rf_iand C (n := 71) dX0_refresh_70 rfl ?_
          exact rf_lv _ [0, 1, 2, 3, 4, 5] rfl (r_X0_refresh_71 C K fu _ ih _ _ _ _ _ _ _ _)
        · refine rf_aload_n C (n := 47) (q := 0) dX0_refresh_46 rfl rfl rfl ?_
          refine rf_getS C (n := 50) fl_RX0_21 ly_1 rfl dX0_refresh_47 rfl ?_
          refine rf_iload C (n := 52) (q := 5) dX0_refresh_50 rfl rfl ?_
          refine rf_guard (fun h26 => ?_)
          refine rf_iald C (n := 53) ly_4 h26 rfl dX0_refresh_52 rfl ?_
          refine rf_iload C (n := 55) (q := 4) dX0_refresh_53 rfl rfl ?_
          refine rf_ior C (n := 56) dX0_refresh_55 rfl ?_
          refine rf_goto C (n := 71) dX0_refresh_56 (by decide) ?_
          exact rf_lv _ [0, 1, 2, 3, 4, 5] rfl (r_X0_refresh_71 C K fu _ ih _ _ _ _ _ _ _ _)
noncomputable def f_X0_refresh (fu : Nat) (x1 : Int32) (x2 : Int32) (x3 : Int32) (m : hM) : Option (Unit × hM) :=
  hLet (1 <<< (x1 &&& 31)) fun y1 =>
hBd (f_J9_max_7cf53 fu x2 0 m) fun y2 m3 =>
f_X0_refresh_12 fu fu x1 x2 x3 y1 y2 m3
set_option maxRecDepth 100000 in
set_option maxHeartbeats 4000000 in
theorem c_X0_refresh (G : hG) (fu : Nat) (x1 : Int32) (x2 : Int32) (x3 : Int32) (m : hM) : Mt vU G 3 yX0_refresh cX0_refresh 9 none [hA G 1, .int x1, .int x2, .int x3] m (f_X0_refresh fu x1 x2 x3 m) := by
  refine mt_of (by decide +kernel) (Nat.le_of_ble_eq_true rfl) (fun X C K => ?_)
  have C : Cx G X 3 cX0_refresh 9 RX0 none := C
  show Rf vU G X 0 [(0, hA G 1), (1, .int x1), (2, .int x2), (3, .int x3)] [] m _
  unfold f_X0_refresh
  refine rf_iconst C (n := 1) (v := 1) dX0_refresh_0 rfl (by decide) ?_
  refine rf_iload_n C (n := 2) (q := 1) dX0_refresh_1 rfl rfl rfl ?_
  refine rf_ishl C (n := 3) dX0_refresh_2 rfl ?_
  refine rf_letI (fun y1 => ?_)
  refine rf_istore C (n := 5) [(4, .int y1), (0, hA G 1), (1, .int x1), (2, .int x2), (3, .int x3)] dX0_refresh_3 rfl (by decide) rfl ?_
  refine rf_iload_n C (n := 6) (q := 3) dX0_refresh_5 rfl rfl rfl ?_
  refine rf_iconst C (n := 7) (v := 0) dX0_refresh_6 rfl (by decide) ?_
  refine rf_callSi C (n := 10) (c_J9_max_7cf53 G fu _ _ _) sw_RX0_38 ⟨by decide, by decide⟩ rfl (Nat.le_of_ble_eq_true rfl) rfl dX0_refresh_7 rfl (fun y2 m3 => ?_)
  refine rf_istore C (n := 12) [(5, .int y2), (4, .int y1), (0, hA G 1), (1, .int x1), (2, .int x2), (3, .int x3)] dX0_refresh_10 rfl (by decide) rfl ?_
  exact rf_lv _ [2, 3, 4, 5, 1, 0] rfl (r_X0_refresh_12 C K fu fu _ _ _ _ _ _)
noncomputable def f_X0_putFeast (fu : Nat) (x1 : Int32) (x2 : Int32) (x3 : Int32) (m : hM) : Option (Unit × hM) :=
  if hIn x1 6 then (
if hIn x2 100 then (
hLet (sI m (6 + 2 * (Int32.toNatClampNeg x1) + 1) (Int32.toNatClampNeg x2) (vp_nar .boolean x3)) fun m3 =>
hLet (((x2 * 24) + (gI m3 (6 + 2 * (Int32.toNatClampNeg x1)) 1)) - (gI m3 (6 + 2 * (Int32.toNatClampNeg x1)) 0)) fun y4 =>
hBd (f_X0_refresh fu x1 (y4 - 1) ((y4 + (gI m3 (6 + 2 * (Int32.toNatClampNeg x1)) 2)) + 1) m3) fun _ m5 =>
some ((), m5)) else none) else none
set_option maxRecDepth 100000 in
set_option maxHeartbeats 4000000 in
theorem c_X0_putFeast (G : hG) (fu : Nat) (x1 : Int32) (x2 : Int32) (x3 : Int32) (m : hM) : Mt vU G 4 yX0_putFeast cX0_putFeast 6 none [hA G 1, .int x1, .int x2, .int x3] m (f_X0_putFeast fu x1 x2 x3 m) := by
  refine mt_of (by decide +kernel) (Nat.le_of_ble_eq_true rfl) (fun X C K => ?_)
  have C : Cx G X 4 cX0_putFeast 6 RX0 none := C
  show Rf vU G X 0 [(0, hA G 1), (1, .int x1), (2, .int x2), (3, .int x3)] [] m _
  unfold f_X0_putFeast
  refine rf_aload_n C (n := 1) (q := 0) dX0_putFeast_0 rfl rfl rfl ?_
  refine rf_getS C (n := 4) fl_RX0_11 ly_1 rfl dX0_putFeast_1 rfl ?_
  refine rf_iload_n C (n := 5) (q := 1) dX0_putFeast_4 rfl rfl rfl ?_
  refine rf_guard (fun h1 => ?_)
  refine rf_aaldO C (n := 6) ly_2 h1 (of_r h1) dX0_putFeast_5 rfl ?_
  refine rf_astore C (n := 8) [(4, hA G (6 + 2 * (Int32.toNatClampNeg x1))), (0, hA G 1), (1, .int x1), (2, .int x2), (3, .int x3)] dX0_putFeast_6 rfl (by decide) rfl ?_
  refine rf_aload C (n := 10) (q := 0) dX0_putFeast_8 rfl rfl ?_
  refine rf_getS C (n := 13) fl_RX0_52 (pO_l (of_o h1)) rfl dX0_putFeast_10 rfl ?_
  refine rf_iload_n C (n := 14) (q := 3) dX0_putFeast_13 rfl rfl rfl ?_
  refine rf_iload_n C (n := 15) (q := 4) dX0_putFeast_14 rfl rfl rfl ?_
  refine rf_guard (fun h2 => ?_)
  refine rf_zast C (n := 16) (of_a1 (of_o h1)) h2 rfl dX0_putFeast_15 rfl ?_
  refine rf_letM (fun m3 => ?_)
  refine rf_iload_n C (n := 17) (q := 3) dX0_putFeast_16 rfl rfl rfl ?_
  refine rf_bipush C (n := 19) (v := 24) dX0_putFeast_17 rfl (by decide) ?_
  refine rf_imul C (n := 20) dX0_putFeast_19 rfl ?_
  refine rf_aload C (n := 22) (q := 0) dX0_putFeast_20 rfl rfl ?_
  refine rf_getI C (n := 25) fl_RX0_56 (pO_l (of_o h1)) rfl dX0_putFeast_22 rfl ?_
  refine rf_iadd C (n := 26) dX0_putFeast_25 rfl ?_
  refine rf_aload C (n := 28) (q := 0) dX0_putFeast_26 rfl rfl ?_
  refine rf_getI C (n := 31) fl_RX0_59 (pO_l (of_o h1)) rfl dX0_putFeast_28 rfl ?_
  refine rf_isub C (n := 32) dX0_putFeast_31 rfl ?_
  refine rf_letI (fun y4 => ?_)
  refine rf_istore C (n := 34) [(5, .int y4), (4, hA G (6 + 2 * (Int32.toNatClampNeg x1))), (0, hA G 1), (1, .int x1), (2, .int x2), (3, .int x3)] dX0_putFeast_32 rfl (by decide) rfl ?_
  refine rf_aload_n C (n := 35) (q := 2) dX0_putFeast_34 rfl rfl rfl ?_
  refine rf_iload_n C (n := 36) (q := 3) dX0_putFeast_35 rfl rfl rfl ?_
  refine rf_iload C (n := 38) (q := 0) dX0_putFeast_36 rfl rfl ?_
  refine rf_iconst C (n := 39) (v := 1) dX0_putFeast_38 rfl (by decide) ?_
  refine rf_isub C (n := 40) dX0_putFeast_39 rfl ?_
  refine rf_iload C (n := 42) (q := 0) dX0_putFeast_40 rfl rfl ?_
  refine rf_aload C (n := 44) (q := 1) dX0_putFeast_42 rfl rfl ?_
  refine rf_getI C (n := 47) fl_RX0_62 (pO_l (of_o h1)) rfl dX0_putFeast_44 rfl ?_
  refine rf_iadd C (n := 48) dX0_putFeast_47 rfl ?_
  refine rf_iconst C (n := 49) (v := 1) dX0_putFeast_48 rfl (by decide) ?_
  refine rf_iadd C (n := 50) dX0_putFeast_49 rfl ?_
  refine rf_callVv C (n := 53) (c_X0_refresh G fu _ _ _ _) mw_RX0_65 ly_1 rfl ⟨by decide, by decide⟩ rfl (Nat.le_of_ble_eq_true rfl) rfl dX0_putFeast_50 rfl (fun _ m5 => ?_)
  exact rf_vret C K dX0_putFeast_53
noncomputable def f_X0_putKnown (fu : Nat) (x1 : Int32) (x2 : Int32) (x3 : Int32) (m : hM) : Option (Unit × hM) :=
  if hIn ((x1 * 6) + x2) 36 then (
hLet (sI m 3 (Int32.toNatClampNeg ((x1 * 6) + x2)) x3) fun m2 =>
if hIn ((x2 * 6) + x1) 36 then (
hLet (sI m2 3 (Int32.toNatClampNeg ((x2 * 6) + x1)) x3) fun m4 =>
some ((), m4)) else none) else none
set_option maxRecDepth 100000 in
set_option maxHeartbeats 4000000 in
theorem c_X0_putKnown (G : hG) (fu : Nat) (x1 : Int32) (x2 : Int32) (x3 : Int32) (m : hM) : Mt vU G 1 yX0_putKnown cX0_putKnown 4 none [hA G 1, .int x1, .int x2, .int x3] m (f_X0_putKnown fu x1 x2 x3 m) := by
  refine mt_of (by decide +kernel) (Nat.le_of_ble_eq_true rfl) (fun X C K => ?_)
  have C : Cx G X 1 cX0_putKnown 4 RX0 none := C
  show Rf vU G X 0 [(0, hA G 1), (1, .int x1), (2, .int x2), (3, .int x3)] [] m _
  unfold f_X0_putKnown
  refine rf_aload_n C (n := 1) (q := 0) dX0_putKnown_0 rfl rfl rfl ?_
  refine rf_getS C (n := 4) fl_RX0_17 ly_1 rfl dX0_putKnown_1 rfl ?_
  refine rf_iload_n C (n := 5) (q := 1) dX0_putKnown_4 rfl rfl rfl ?_
  refine rf_bipush C (n := 7) (v := 6) dX0_putKnown_5 rfl (by decide) ?_
  refine rf_imul C (n := 8) dX0_putKnown_7 rfl ?_
  refine rf_iload_n C (n := 9) (q := 2) dX0_putKnown_8 rfl rfl rfl ?_
  refine rf_iadd C (n := 10) dX0_putKnown_9 rfl ?_
  refine rf_iload_n C (n := 11) (q := 3) dX0_putKnown_10 rfl rfl rfl ?_
  refine rf_guard (fun h1 => ?_)
  refine rf_iast C (n := 12) ly_3 h1 rfl dX0_putKnown_11 rfl ?_
  refine rf_letM (fun m2 => ?_)
  refine rf_aload_n C (n := 13) (q := 0) dX0_putKnown_12 rfl rfl rfl ?_
  refine rf_getS C (n := 16) fl_RX0_17 ly_1 rfl dX0_putKnown_13 rfl ?_
  refine rf_iload_n C (n := 17) (q := 2) dX0_putKnown_16 rfl rfl rfl ?_
  refine rf_bipush C (n := 19) (v := 6) dX0_putKnown_17 rfl (by decide) ?_
  refine rf_imul C (n := 20) dX0_putKnown_19 rfl ?_
  refine rf_iload_n C (n := 21) (q := 1) dX0_putKnown_20 rfl rfl rfl ?_
  refine rf_iadd C (n := 22) dX0_putKnown_21 rfl ?_
  refine rf_iload_n C (n := 23) (q := 3) dX0_putKnown_22 rfl rfl rfl ?_
  refine rf_guard (fun h3 => ?_)
  refine rf_iast C (n := 24) ly_3 h3 rfl dX0_putKnown_23 rfl ?_
  refine rf_letM (fun m4 => ?_)
  exact rf_vret C K dX0_putKnown_24
noncomputable def f_X0_putKnownToAll_22 (fu : Nat) (k2 : Int32 → Int32 → Int32 → hM → Option (Unit × hM)) (x1 : Int32) (x2 : Int32) (x3 : Int32) (m : hM) : Option (Unit × hM) :=
  hLet (x3 + 1) fun y3 =>
k2 x1 x2 y3 m
set_option maxRecDepth 100000 in
set_option maxHeartbeats 4000000 in
theorem r_X0_putKnownToAll_22 {G : hG} {X : hX} (C : Cx G X 2 cX0_putKnownToAll 4 RX0 none) (K : Cr G X) (fu : Nat) (k2 : Int32 → Int32 → Int32 → hM → Option (Unit × hM)) (hk2 : ∀ (x1 : Int32) (x2 : Int32) (x3 : Int32) (m : hM), Rf vU G X 2 [(0, hA G 1), (1, .int x1), (2, .int x2), (3, .int x3)] [] m (k2 x1 x2 x3 m)) (x1 : Int32) (x2 : Int32) (x3 : Int32) (m : hM) : Rf vU G X 22 [(0, hA G 1), (1, .int x1), (2, .int x2), (3, .int x3)] [] m (f_X0_putKnownToAll_22 fu k2 x1 x2 x3 m) := by
  unfold f_X0_putKnownToAll_22
  refine rf_iinc2 C (n := 25) (q := 3) (fun y3 => [(3, .int y3), (0, hA G 1), (1, .int x1), (2, .int x2)]) dX0_putKnownToAll_22 rfl rfl (by decide) (by decide) (fun _ => rfl) (fun y3 => ?_)
  refine rf_goto C (n := 2) dX0_putKnownToAll_25 (by decide) ?_
  exact rf_lv _ [1, 2, 3, 0] rfl (hk2 _ _ _ _)
noncomputable def s_X0_putKnownToAll_2 (fu : Nat) (ih : Int32 → Int32 → Int32 → hM → Option (Unit × hM)) (x1 : Int32) (x2 : Int32) (x3 : Int32) (m : hM) : Option (Unit × hM) :=
  if (gI m 1 4) ≤ x3 then (
some ((), m)) else (
if x3 = x1 then (
f_X0_putKnownToAll_22 fu ih x1 x2 x3 m) else (
hBd (f_X0_putKnown fu x1 x3 x2 m) fun _ m4 =>
f_X0_putKnownToAll_22 fu ih x1 x2 x3 m4))
noncomputable def f_X0_putKnownToAll_2 (fu : Nat) (n : Nat) : Int32 → Int32 → Int32 → hM → Option (Unit × hM) :=
  Nat.rec (motive := fun _ => Int32 → Int32 → Int32 → hM → Option (Unit × hM)) (fun _ _ _ _ => none) (fun _ ih => s_X0_putKnownToAll_2 fu ih) n
theorem f_X0_putKnownToAll_2_s (fu : Nat) (n : Nat) (x1 : Int32) (x2 : Int32) (x3 : Int32) (m : hM) : f_X0_putKnownToAll_2 fu (n + 1) x1 x2 x3 m = s_X0_putKnownToAll_2 fu (f_X0_putKnownToAll_2 fu n) x1 x2 x3 m := rfl
set_option maxRecDepth 100000 in
set_option maxHeartbeats 4000000 in
theorem r_X0_putKnownToAll_2 {G : hG} {X : hX} (C : Cx G X 2 cX0_putKnownToAll 4 RX0 none) (K : Cr G X) (fu : Nat) (n : Nat) : ∀ (x1 : Int32) (x2 : Int32) (x3 : Int32) (m : hM), Rf vU G X 2 [(0, hA G 1), (1, .int x1), (2, .int x2), (3, .int x3)] [] m (f_X0_putKnownToAll_2 fu n x1 x2 x3 m) := by
  induction n with
  | zero => intros; exact rf_none
  | succ n ih =>
    intro x1 x2 x3 m
    show Rf vU G X 2 [(0, hA G 1), (1, .int x1), (2, .int x2), (3, .int x3)] [] m (s_X0_putKnownToAll_2 fu (f_X0_putKnownToAll_2 fu n) x1 x2 x3 m)
    unfold s_X0_putKnownToAll_2
    refine rf_iload_n C (n := 3) (q := 3) dX0_putKnownToAll_2 rfl rfl rfl ?_
    refine rf_aload_n C (n := 4) (q := 0) dX0_putKnownToAll_3 rfl rfl rfl ?_
    refine rf_getI C (n := 7) fl_RX0_27 ly_1 rfl dX0_putKnownToAll_4 rfl ?_
    refine rf_icmp_ge C (tgt := 28) (n := 10) dX0_putKnownToAll_7 (by decide) rfl (fun h1 => ?_) (fun h1 => ?_)
    · exact rf_vret C K dX0_putKnownToAll_28
    · refine rf_iload_n C (n := 11) (q := 3) dX0_putKnownToAll_10 rfl rfl rfl ?_
      refine rf_iload_n C (n := 12) (q := 1) dX0_putKnownToAll_11 rfl rfl rfl ?_
      refine rf_icmp_eq C (tgt := 22) (n := 15) dX0_putKnownToAll_12 (by decide) rfl (fun h2 => ?_) (fun h2 => ?_)
      · exact rf_lv _ [0, 1, 2, 3] rfl (r_X0_putKnownToAll_22 C K fu _ ih _ _ _ _)
      · refine rf_aload_n C (n := 16) (q := 0) dX0_putKnownToAll_15 rfl rfl rfl ?_
        refine rf_iload_n C (n := 17) (q := 1) dX0_putKnownToAll_16 rfl rfl rfl ?_
        refine rf_iload_n C (n := 18) (q := 3) dX0_putKnownToAll_17 rfl rfl rfl ?_
        refine rf_iload_n C (n := 19) (q := 2) dX0_putKnownToAll_18 rfl rfl rfl ?_
        refine rf_callVv C (n := 22) (c_X0_putKnown G fu _ _ _ _) mw_RX0_69 ly_1 rfl ⟨by decide, by decide⟩ rfl (Nat.le_of_ble_eq_true rfl) rfl dX0_putKnownToAll_19 rfl (fun _ m4 => ?_)
        exact rf_lv _ [0, 1, 2, 3] rfl (r_X0_putKnownToAll_22 C K fu _ ih _ _ _ _)
noncomputable def f_X0_putKnownToAll (fu : Nat) (x1 : Int32) (x2 : Int32) (m : hM) : Option (Unit × hM) :=
  f_X0_putKnownToAll_2 fu fu x1 x2 0 m
set_option maxRecDepth 100000 in
set_option maxHeartbeats 4000000 in
theorem c_X0_putKnownToAll (G : hG) (fu : Nat) (x1 : Int32) (x2 : Int32) (m : hM) : Mt vU G 2 yX0_putKnownToAll cX0_putKnownToAll 4 none [hA G 1, .int x1, .int x2] m (f_X0_putKnownToAll fu x1 x2 m) := by
  refine mt_of (by decide +kernel) (Nat.le_of_ble_eq_true rfl) (fun X C K => ?_)
  have C : Cx G X 2 cX0_putKnownToAll 4 RX0 none := C
  show Rf vU G X 0 [(0, hA G 1), (1, .int x1), (2, .int x2)] [] m _
  unfold f_X0_putKnownToAll
  refine rf_iconst C (n := 1) (v := 0) dX0_putKnownToAll_0 rfl (by decide) ?_
  refine rf_istore_n C (n := 2) [(3, .int 0), (0, hA G 1), (1, .int x1), (2, .int x2)] dX0_putKnownToAll_1 rfl rfl (by decide) rfl ?_
  exact rf_lv _ [1, 2, 3, 0] rfl (r_X0_putKnownToAll_2 C K fu fu _ _ _ _)
noncomputable def s_X0_officesWith_4 (fu : Nat) (ih : Int32 → Int32 → Int32 → hM → Option (Int32 × hM)) (x1 : Int32) (x2 : Int32) (x3 : Int32) (m : hM) : Option (Int32 × hM) :=
  if (gI m 1 4) ≤ x3 then (
some (x2, m)) else (
if hIn x3 6 then (
hLet (x2 ||| ((((gI m (6 + 2 * (Int32.toNatClampNeg x3)) 5) >>> (x1 &&& 31)) &&& 1) <<< (x3 &&& 31))) fun y3 =>
hLet (x3 + 1) fun y4 =>
ih x1 y3 y4 m) else none)
noncomputable def f_X0_officesWith_4 (fu : Nat) (n : Nat) : Int32 → Int32 → Int32 → hM → Option (Int32 × hM) :=
  Nat.rec (motive := fun _ => Int32 → Int32 → Int32 → hM → Option (Int32 × hM)) (fun _ _ _ _ => none) (fun _ ih => s_X0_officesWith_4 fu ih) n
theorem f_X0_officesWith_4_s (fu : Nat) (n : Nat) (x1 : Int32) (x2 : Int32) (x3 : Int32) (m : hM) : f_X0_officesWith_4 fu (n + 1) x1 x2 x3 m = s_X0_officesWith_4 fu (f_X0_officesWith_4 fu n) x1 x2 x3 m := rfl
set_option maxRecDepth 100000 in
set_option maxHeartbeats 4000000 in
theorem r_X0_officesWith_4 {G : hG} {X : hX} (C : Cx G X 1 cX0_officesWith 4 RX0 (some .int)) (K : Cr G X) (fu : Nat) (n : Nat) : ∀ (x1 : Int32) (x2 : Int32) (x3 : Int32) (m : hM), Rf vI G X 4 [(0, hA G 1), (1, .int x1), (2, .int x2), (3, .int x3)] [] m (f_X0_officesWith_4 fu n x1 x2 x3 m) := by
  induction n with
  | zero => intros; exact rf_none
  | succ n ih =>
    intro x1 x2 x3 m
    show Rf vI G X 4 [(0, hA G 1), (1, .int x1), (2, .int x2), (3, .int x3)] [] m (s_X0_officesWith_4 fu (f_X0_officesWith_4 fu n) x1 x2 x3 m)
    unfold s_X0_officesWith_4
    refine rf_iload_n C (n := 5) (q := 3) dX0_officesWith_4 rfl rfl rfl ?_
    refine rf_aload_n C (n := 6) (q := 0) dX0_officesWith_5 rfl rfl rfl ?_
    refine rf_getI C (n := 9) fl_RX0_27 ly_1 rfl dX0_officesWith_6 rfl ?_
    refine rf_icmp_ge C (tgt := 36) (n := 12) dX0_officesWith_9 (by decide) rfl (fun h1 => ?_) (fun h1 => ?_)
    · refine rf_iload_n C (n := 37) (q := 2) dX0_officesWith_36 rfl rfl rfl ?_
      exact rf_iret C K dX0_officesWith_37
    · refine rf_iload_n C (n := 13) (q := 2) dX0_officesWith_12 rfl rfl rfl ?_
      refine rf_aload_n C (n := 14) (q := 0) dX0_officesWith_13 rfl rfl rfl ?_
      refine rf_getS C (n := 17) fl_RX0_11 ly_1 rfl dX0_officesWith_14 rfl ?_
      refine rf_iload_n C (n := 18) (q := 3) dX0_officesWith_17 rfl rfl rfl ?_
      refine rf_guard (fun h2 => ?_)
      refine rf_aaldO C (n := 19) ly_2 h2 (of_r h2) dX0_officesWith_18 rfl ?_
      refine rf_getI C (n := 22) fl_RX0_72 (pO_l (of_o h2)) rfl dX0_officesWith_19 rfl ?_
      refine rf_iload_n C (n := 23) (q := 1) dX0_officesWith_22 rfl rfl rfl ?_
      refine rf_ishr C (n := 24) dX0_officesWith_23 rfl ?_
      refine rf_iconst C (n := 25) (v := 1) dX0_officesWith_24 rfl (by decide) ?_
      refine rf_iand C (n := 26) dX0_officesWith_25 rfl ?_
      refine rf_iload_n C (n := 27) (q := 3) dX0_officesWith_26 rfl rfl rfl ?_
      refine rf_ishl C (n := 28) dX0_officesWith_27 rfl ?_
      refine rf_ior C (n := 29) dX0_officesWith_28 rfl ?_
      refine rf_letI (fun y3 => ?_)
      refine rf_istore_n C (n := 30) [(2, .int y3), (0, hA G 1), (1, .int x1), (3, .int x3)] dX0_officesWith_29 rfl rfl (by decide) rfl ?_
      refine rf_iinc2 C (n := 33) (q := 3) (fun y4 => [(3, .int y4), (2, .int y3), (0, hA G 1), (1, .int x1)]) dX0_officesWith_30 rfl rfl (by decide) (by decide) (fun _ => rfl) (fun y4 => ?_)
      refine rf_goto C (n := 4) dX0_officesWith_33 (by decide) ?_
      exact rf_lv _ [2, 3, 1, 0] rfl (ih _ _ _ _)
noncomputable def f_X0_officesWith (fu : Nat) (x1 : Int32) (m : hM) : Option (Int32 × hM) :=
  f_X0_officesWith_4 fu fu x1 0 0 m
set_option maxRecDepth 100000 in
set_option maxHeartbeats 4000000 in
theorem c_X0_officesWith (G : hG) (fu : Nat) (x1 : Int32) (m : hM) : Mt vI G 1 yX0_officesWith cX0_officesWith 4 (some .int) [hA G 1, .int x1] m (f_X0_officesWith fu x1 m) := by
  refine mt_of (by decide +kernel) (Nat.le_of_ble_eq_true rfl) (fun X C K => ?_)
  have C : Cx G X 1 cX0_officesWith 4 RX0 (some .int) := C
  show Rf vI G X 0 [(0, hA G 1), (1, .int x1)] [] m _
  unfold f_X0_officesWith
  refine rf_iconst C (n := 1) (v := 0) dX0_officesWith_0 rfl (by decide) ?_
  refine rf_istore_n C (n := 2) [(2, .int 0), (0, hA G 1), (1, .int x1)] dX0_officesWith_1 rfl rfl (by decide) rfl ?_
  refine rf_iconst C (n := 3) (v := 0) dX0_officesWith_2 rfl (by decide) ?_
  refine rf_istore_n C (n := 4) [(3, .int 0), (2, .int 0), (0, hA G 1), (1, .int x1)] dX0_officesWith_3 rfl rfl (by decide) rfl ?_
  exact rf_lv _ [2, 3, 1, 0] rfl (r_X0_officesWith_4 C K fu fu _ _ _ _)
noncomputable def s_X0_allPeople_4 (fu : Nat) (ih : Int32 → Int32 → hM → Option (Int32 × hM)) (x1 : Int32) (x2 : Int32) (m : hM) : Option (Int32 × hM) :=
  if (gI m 1 4) ≤ x2 then (
some (x1, m)) else (
if hIn x2 6 then (
hLet (x1 + (gI m (6 + 2 * (Int32.toNatClampNeg x2)) 4)) fun y3 =>
hLet (x2 + 1) fun y4 =>
ih y3 y4 m) else none)
noncomputable def f_X0_allPeople_4 (fu : Nat) (n : Nat) : Int32 → Int32 → hM → Option (Int32 × hM) :=
  Nat.rec (motive := fun _ => Int32 → Int32 → hM → Option (Int32 × hM)) (fun _ _ _ => none) (fun _ ih => s_X0_allPeople_4 fu ih) n
theorem f_X0_allPeople_4_s (fu : Nat) (n : Nat) (x1 : Int32) (x2 : Int32) (m : hM) : f_X0_allPeople_4 fu (n + 1) x1 x2 m = s_X0_allPeople_4 fu (f_X0_allPeople_4 fu n) x1 x2 m := rfl
set_option maxRecDepth 100000 in
set_option maxHeartbeats 4000000 in
theorem r_X0_allPeople_4 {G : hG} {X : hX} (C : Cx G X 1 cX0_allPeople 3 RX0 (some .int)) (K : Cr G X) (fu : Nat) (n : Nat) : ∀ (x1 : Int32) (x2 : Int32) (m : hM), Rf vI G X 4 [(0, hA G 1), (1, .int x1), (2, .int x2)] [] m (f_X0_allPeople_4 fu n x1 x2 m) := by
  induction n with
  | zero => intros; exact rf_none
  | succ n ih =>
    intro x1 x2 m
    show Rf vI G X 4 [(0, hA G 1), (1, .int x1), (2, .int x2)] [] m (s_X0_allPeople_4 fu (f_X0_allPeople_4 fu n) x1 x2 m)
    unfold s_X0_allPeople_4
    refine rf_iload_n C (n := 5) (q := 2) dX0_allPeople_4 rfl rfl rfl ?_
    refine rf_aload_n C (n := 6) (q := 0) dX0_allPeople_5 rfl rfl rfl ?_
    refine rf_getI C (n := 9) fl_RX0_27 ly_1 rfl dX0_allPeople_6 rfl ?_
    refine rf_icmp_ge C (tgt := 30) (n := 12) dX0_allPeople_9 (by decide) rfl (fun h1 => ?_) (fun h1 => ?_)
    · refine rf_iload_n C (n := 31) (q := 1) dX0_allPeople_30 rfl rfl rfl ?_
      exact rf_iret C K dX0_allPeople_31
    · refine rf_iload_n C (n := 13) (q := 1) dX0_allPeople_12 rfl rfl rfl ?_
      refine rf_aload_n C (n := 14) (q := 0) dX0_allPeople_13 rfl rfl rfl ?_
      refine rf_getS C (n := 17) fl_RX0_11 ly_1 rfl dX0_allPeople_14 rfl ?_
      refine rf_iload_n C (n := 18) (q := 2) dX0_allPeople_17 rfl rfl rfl ?_
      refine rf_guard (fun h2 => ?_)
      refine rf_aaldO C (n := 19) ly_2 h2 (of_r h2) dX0_allPeople_18 rfl ?_
      refine rf_getI C (n := 22) fl_RX0_75 (pO_l (of_o h2)) rfl dX0_allPeople_19 rfl ?_
      refine rf_iadd C (n := 23) dX0_allPeople_22 rfl ?_
      refine rf_letI (fun y3 => ?_)
      refine rf_istore_n C (n := 24) [(1, .int y3), (0, hA G 1), (2, .int x2)] dX0_allPeople_23 rfl rfl (by decide) rfl ?_
      refine rf_iinc2 C (n := 27) (q := 2) (fun y4 => [(2, .int y4), (1, .int y3), (0, hA G 1)]) dX0_allPeople_24 rfl rfl (by decide) (by decide) (fun _ => rfl) (fun y4 => ?_)
      refine rf_goto C (n := 4) dX0_allPeople_27 (by decide) ?_
      exact rf_lv _ [2, 1, 0] rfl (ih _ _ _)
noncomputable def f_X0_allPeople (fu : Nat) (m : hM) : Option (Int32 × hM) :=
  f_X0_allPeople_4 fu fu 0 0 m
set_option maxRecDepth 100000 in
set_option maxHeartbeats 4000000 in
theorem c_X0_allPeople (G : hG) (fu : Nat) (m : hM) : Mt vI G 1 yX0_allPeople cX0_allPeople 3 (some .int) [hA G 1] m (f_X0_allPeople fu m) := by
  refine mt_of (by decide +kernel) (Nat.le_of_ble_eq_true rfl) (fun X C K => ?_)
  have C : Cx G X 1 cX0_allPeople 3 RX0 (some .int) := C
  show Rf vI G X 0 [(0, hA G 1)] [] m _
  unfold f_X0_allPeople
  refine rf_iconst C (n := 1) (v := 0) dX0_allPeople_0 rfl (by decide) ?_
  refine rf_istore_n C (n := 2) [(1, .int 0), (0, hA G 1)] dX0_allPeople_1 rfl rfl (by decide) rfl ?_
  refine rf_iconst C (n := 3) (v := 0) dX0_allPeople_2 rfl (by decide) ?_
  refine rf_istore_n C (n := 4) [(2, .int 0), (1, .int 0), (0, hA G 1)] dX0_allPeople_3 rfl rfl (by decide) rfl ?_
  exact rf_lv _ [2, 1, 0] rfl (r_X0_allPeople_4 C K fu fu _ _ _)
noncomputable def f_J6_bitCount_0f7a4 (fu : Nat) (x0 : Int32) (m : hM) : Option (Int32 × hM) :=
  hLet (x0 - (((Int32.toUInt32 x0 >>> (Int32.toUInt32 1 &&& Int32.toUInt32 31)).toInt32) &&& 1431655765)) fun y1 =>
hLet ((y1 &&& 858993459) + (((Int32.toUInt32 y1 >>> (Int32.toUInt32 2 &&& Int32.toUInt32 31)).toInt32) &&& 858993459)) fun y2 =>
hLet ((y2 + ((Int32.toUInt32 y2 >>> (Int32.toUInt32 4 &&& Int32.toUInt32 31)).toInt32)) &&& 252645135) fun y3 =>
hLet (y3 + ((Int32.toUInt32 y3 >>> (Int32.toUInt32 8 &&& Int32.toUInt32 31)).toInt32)) fun y4 =>
hLet (y4 + ((Int32.toUInt32 y4 >>> (Int32.toUInt32 16 &&& Int32.toUInt32 31)).toInt32)) fun y5 =>
some (y5 &&& 63, m)
set_option maxRecDepth 100000 in
set_option maxHeartbeats 4000000 in
theorem c_J6_bitCount_0f7a4 (G : hG) (fu : Nat) (x0 : Int32) (m : hM) : Mt vI G 1 yJ6_bitCount_0f7a4 cJ6_bitCount_0f7a4 1 (some .int) [.int x0] m (f_J6_bitCount_0f7a4 fu x0 m) := by
  refine mt_of (by decide +kernel) (Nat.le_of_ble_eq_true rfl) (fun X C K => ?_)
  have C : Cx G X 1 cJ6_bitCount_0f7a4 1 RJ6 (some .int) := C
  show Rf vI G X 0 [(0, .int x0)] [] m _
  unfold f_J6_bitCount_0f7a4
  refine rf_iload_n C (n := 1) (q := 0) dJ6_bitCount_0f7a4_0 rfl rfl rfl ?_
  refine rf_iload_n C (n := 2) (q := 0) dJ6_bitCount_0f7a4_1 rfl rfl rfl ?_
  refine rf_iconst C (n := 3) (v := 1) dJ6_bitCount_0f7a4_2 rfl (by decide) ?_
  refine rf_iushr C (n := 4) dJ6_bitCount_0f7a4_3 rfl ?_
  refine rf_ldcw C (n := 7) dJ6_bitCount_0f7a4_4 rfl kc_RJ6_265 ?_
  refine rf_iand C (n := 8) dJ6_bitCount_0f7a4_7 rfl ?_
  refine rf_isub C (n := 9) dJ6_bitCount_0f7a4_8 rfl ?_
  refine rf_letI (fun y1 => ?_)
  refine rf_istore_n C (n := 10) [(0, .int y1)] dJ6_bitCount_0f7a4_9 rfl rfl (by decide) rfl ?_
  refine rf_iload_n C (n := 11) (q := 0) dJ6_bitCount_0f7a4_10 rfl rfl rfl ?_
  refine rf_ldcw C (n := 14) dJ6_bitCount_0f7a4_11 rfl kc_RJ6_266 ?_
  refine rf_iand C (n := 15) dJ6_bitCount_0f7a4_14 rfl ?_
  refine rf_iload_n C (n := 16) (q := 0) dJ6_bitCount_0f7a4_15 rfl rfl rfl ?_
  refine rf_iconst C (n := 17) (v := 2) dJ6_bitCount_0f7a4_16 rfl (by decide) ?_
  refine rf_iushr C (n := 18) dJ6_bitCount_0f7a4_17 rfl ?_
  refine rf_ldcw C (n := 21) dJ6_bitCount_0f7a4_18 rfl kc_RJ6_266 ?_
  refine rf_iand C (n := 22) dJ6_bitCount_0f7a4_21 rfl ?_
  refine rf_iadd C (n := 23) dJ6_bitCount_0f7a4_22 rfl ?_
  refine rf_letI (fun y2 => ?_)
  refine rf_istore_n C (n := 24) [(0, .int y2)] dJ6_bitCount_0f7a4_23 rfl rfl (by decide) rfl ?_
  refine rf_iload_n C (n := 25) (q := 0) dJ6_bitCount_0f7a4_24 rfl rfl rfl ?_
  refine rf_iload_n C (n := 26) (q := 0) dJ6_bitCount_0f7a4_25 rfl rfl rfl ?_
  refine rf_iconst C (n := 27) (v := 4) dJ6_bitCount_0f7a4_26 rfl (by decide) ?_
  refine rf_iushr C (n := 28) dJ6_bitCount_0f7a4_27 rfl ?_
  refine rf_iadd C (n := 29) dJ6_bitCount_0f7a4_28 rfl ?_
  refine rf_ldcw C (n := 32) dJ6_bitCount_0f7a4_29 rfl kc_RJ6_267 ?_
  refine rf_iand C (n := 33) dJ6_bitCount_0f7a4_32 rfl ?_
  refine rf_letI (fun y3 => ?_)
  refine rf_istore_n C (n := 34) [(0, .int y3)] dJ6_bitCount_0f7a4_33 rfl rfl (by decide) rfl ?_
  refine rf_iload_n C (n := 35) (q := 0) dJ6_bitCount_0f7a4_34 rfl rfl rfl ?_
  refine rf_iload_n C (n := 36) (q := 0) dJ6_bitCount_0f7a4_35 rfl rfl rfl ?_
  refine rf_bipush C (n := 38) (v := 8) dJ6_bitCount_0f7a4_36 rfl (by decide) ?_
  refine rf_iushr C (n := 39) dJ6_bitCount_0f7a4_38 rfl ?_
  refine rf_iadd C (n := 40) dJ6_bitCount_0f7a4_39 rfl ?_
  refine rf_letI (fun y4 => ?_)
  refine rf_istore_n C (n := 41) [(0, .int y4)] dJ6_bitCount_0f7a4_40 rfl rfl (by decide) rfl ?_
  refine rf_iload_n C (n := 42) (q := 0) dJ6_bitCount_0f7a4_41 rfl rfl rfl ?_
  refine rf_iload_n C (n := 43) (q := 0) dJ6_bitCount_0f7a4_42 rfl rfl rfl ?_
  refine rf_bipush C (n := 45) (v := 16) dJ6_bitCount_0f7a4_43 rfl (by decide) ?_
  refine rf_iushr C (n := 46) dJ6_bitCount_0f7a4_45 rfl ?_
  refine rf_iadd C (n := 47) dJ6_bitCount_0f7a4_46 rfl ?_
  refine rf_letI (fun y5 => ?_)
  refine rf_istore_n C (n := 48) [(0, .int y5)] dJ6_bitCount_0f7a4_47 rfl rfl (by decide) rfl ?_
  refine rf_iload_n C (n := 49) (q := 0) dJ6_bitCount_0f7a4_48 rfl rfl rfl ?_
  refine rf_bipush C (n := 51) (v := 63) dJ6_bitCount_0f7a4_49 rfl (by decide) ?_
  refine rf_iand C (n := 52) dJ6_bitCount_0f7a4_51 rfl ?_
  exact rf_iret C K dJ6_bitCount_0f7a4_52
noncomputable def f_X0_overlapFrom (fu : Nat) (x1 : Int32) (x2 : Int32) (x3 : Int32) (m : hM) : Option (Int32 × hM) :=
  if hIn ((x1 * 2500) + x3) 15000 then (
if hIn ((x2 * 2500) + x3) 15000 then (
hBd (f_J6_bitCount_0f7a4 fu ((gI m 5 (Int32.toNatClampNeg ((x1 * 2500) + x3))) &&& (gI m 5 (Int32.toNatClampNeg ((x2 * 2500) + x3)))) m) fun y3 m4 =>
some (y3, m4)) else none) else none
set_option maxRecDepth 100000 in
set_option maxHeartbeats 4000000 in
theorem c_X0_overlapFrom (G : hG) (fu : Nat) (x1 : Int32) (x2 : Int32) (x3 : Int32) (m : hM) : Mt vI G 2 yX0_overlapFrom cX0_overlapFrom 4 (some .int) [hA G 1, .int x1, .int x2, .int x3] m (f_X0_overlapFrom fu x1 x2 x3 m) := by
  refine mt_of (by decide +kernel) (Nat.le_of_ble_eq_true rfl) (fun X C K => ?_)
  have C : Cx G X 2 cX0_overlapFrom 4 RX0 (some .int) := C
  show Rf vI G X 0 [(0, hA G 1), (1, .int x1), (2, .int x2), (3, .int x3)] [] m _
  unfold f_X0_overlapFrom
  refine rf_aload_n C (n := 1) (q := 0) dX0_overlapFrom_0 rfl rfl rfl ?_
  refine rf_getS C (n := 4) fl_RX0_24 ly_1 rfl dX0_overlapFrom_1 rfl ?_
  refine rf_iload_n C (n := 5) (q := 1) dX0_overlapFrom_4 rfl rfl rfl ?_
  refine rf_sipush C (n := 8) (v := 2500) dX0_overlapFrom_5 rfl (by decide) ?_
  refine rf_imul C (n := 9) dX0_overlapFrom_8 rfl ?_
  refine rf_iload_n C (n := 10) (q := 3) dX0_overlapFrom_9 rfl rfl rfl ?_
  refine rf_iadd C (n := 11) dX0_overlapFrom_10 rfl ?_
  refine rf_guard (fun h1 => ?_)
  refine rf_iald C (n := 12) ly_5 h1 rfl dX0_overlapFrom_11 rfl ?_
  refine rf_aload_n C (n := 13) (q := 0) dX0_overlapFrom_12 rfl rfl rfl ?_
  refine rf_getS C (n := 16) fl_RX0_24 ly_1 rfl dX0_overlapFrom_13 rfl ?_
  refine rf_iload_n C (n := 17) (q := 2) dX0_overlapFrom_16 rfl rfl rfl ?_
  refine rf_sipush C (n := 20) (v := 2500) dX0_overlapFrom_17 rfl (by decide) ?_
  refine rf_imul C (n := 21) dX0_overlapFrom_20 rfl ?_
  refine rf_iload_n C (n := 22) (q := 3) dX0_overlapFrom_21 rfl rfl rfl ?_
  refine rf_iadd C (n := 23) dX0_overlapFrom_22 rfl ?_
  refine rf_guard (fun h2 => ?_)
  refine rf_iald C (n := 24) ly_5 h2 rfl dX0_overlapFrom_23 rfl ?_
  refine rf_iand C (n := 25) dX0_overlapFrom_24 rfl ?_
  refine rf_callSi C (n := 28) (c_J6_bitCount_0f7a4 G fu _ _) sw_RX0_78 ⟨by decide, by decide⟩ rfl (Nat.le_of_ble_eq_true rfl) rfl dX0_overlapFrom_25 rfl (fun y3 m4 => ?_)
  exact rf_iret C K dX0_overlapFrom_28
noncomputable def f_X0_lostFrom_36 (fu : Nat) (x1 : Int32) (x2 : Int32) (x3 : Int32) (s0 : Int32) (m : hM) : Option (Int32 × hM) :=
  if hIn ((x1 * 2500) + x3) 15000 then (
if hIn ((x2 * 2500) + x3) 15000 then (
hLet ((gI m 5 (Int32.toNatClampNeg ((x1 * 2500) + x3))) &&& (gI m 5 (Int32.toNatClampNeg ((x2 * 2500) + x3)))) fun y7 =>
if ¬ y7 = 0 then (
some (s0, m)) else (
some (s0 + 2, m))) else none) else none
set_option maxRecDepth 100000 in
set_option maxHeartbeats 4000000 in
theorem r_X0_lostFrom_36 {G : hG} {X : hX} (C : Cx G X 1 cX0_lostFrom 7 RX0 (some .int)) (K : Cr G X) (fu : Nat) (x1 : Int32) (x2 : Int32) (x3 : Int32) (s0 : Int32) (m : hM) : Rf vI G X 36 [(0, hA G 1), (1, .int x1), (2, .int x2), (3, .int x3)] [.int s0] m (f_X0_lostFrom_36 fu x1 x2 x3 s0 m) := by
  unfold f_X0_lostFrom_36
  refine rf_istore C (n := 38) [(5, .int s0), (0, hA G 1), (1, .int x1), (2, .int x2), (3, .int x3)] dX0_lostFrom_36 rfl (by decide) rfl ?_
  refine rf_aload_n C (n := 39) (q := 1) dX0_lostFrom_38 rfl rfl rfl ?_
  refine rf_getS C (n := 42) fl_RX0_24 ly_1 rfl dX0_lostFrom_39 rfl ?_
  refine rf_iload_n C (n := 43) (q := 2) dX0_lostFrom_42 rfl rfl rfl ?_
  refine rf_sipush C (n := 46) (v := 2500) dX0_lostFrom_43 rfl (by decide) ?_
  refine rf_imul C (n := 47) dX0_lostFrom_46 rfl ?_
  refine rf_iload_n C (n := 48) (q := 4) dX0_lostFrom_47 rfl rfl rfl ?_
  refine rf_iadd C (n := 49) dX0_lostFrom_48 rfl ?_
  refine rf_guard (fun h5 => ?_)
  refine rf_iald C (n := 50) ly_5 h5 rfl dX0_lostFrom_49 rfl ?_
  refine rf_aload_n C (n := 51) (q := 1) dX0_lostFrom_50 rfl rfl rfl ?_
  refine rf_getS C (n := 54) fl_RX0_24 ly_1 rfl dX0_lostFrom_51 rfl ?_
  refine rf_iload_n C (n := 55) (q := 3) dX0_lostFrom_54 rfl rfl rfl ?_
  refine rf_sipush C (n := 58) (v := 2500) dX0_lostFrom_55 rfl (by decide) ?_
  refine rf_imul C (n := 59) dX0_lostFrom_58 rfl ?_
  refine rf_iload_n C (n := 60) (q := 4) dX0_lostFrom_59 rfl rfl rfl ?_
  refine rf_iadd C (n := 61) dX0_lostFrom_60 rfl ?_
  refine rf_guard (fun h6 => ?_)
  refine rf_iald C (n := 62) ly_5 h6 rfl dX0_lostFrom_61 rfl ?_
  refine rf_iand C (n := 63) dX0_lostFrom_62 rfl ?_
  refine rf_letI (fun y7 => ?_)
  refine rf_istore C (n := 65) [(6, .int y7), (5, .int s0), (0, hA G 1), (1, .int x1), (2, .int x2), (3, .int x3)] dX0_lostFrom_63 rfl (by decide) rfl ?_
  refine rf_iload C (n := 67) (q := 0) dX0_lostFrom_65 rfl rfl ?_
  refine rf_if_ne C (tgt := 77) (n := 70) dX0_lostFrom_67 (by decide) rfl (fun h8 => ?_) (fun h8 => ?_)
  · refine rf_iload C (n := 79) (q := 1) dX0_lostFrom_77 rfl rfl ?_
    exact rf_iret C K dX0_lostFrom_79
  · refine rf_iload C (n := 72) (q := 1) dX0_lostFrom_70 rfl rfl ?_
    refine rf_iconst C (n := 73) (v := 2) dX0_lostFrom_72 rfl (by decide) ?_
    refine rf_iadd C (n := 74) dX0_lostFrom_73 rfl ?_
    refine rf_goto C (n := 79) dX0_lostFrom_74 (by decide) ?_
    exact rf_iret C K dX0_lostFrom_79
noncomputable def f_X0_lostFrom (fu : Nat) (x1 : Int32) (x2 : Int32) (x3 : Int32) (m : hM) : Option (Int32 × hM) :=
  if ¬ x1 = x2 then (
if hIn ((x1 * 6) + x2) 36 then (
hLet ((gI m 1 5) - (gI m 3 (Int32.toNatClampNeg ((x1 * 6) + x2)))) fun y3 =>
if y3 ≤ 0 then (
f_X0_lostFrom_36 fu x1 x2 x3 0 m) else (
f_X0_lostFrom_36 fu x1 x2 x3 y3 m)) else none) else (
some (0, m))
set_option maxRecDepth 100000 in
set_option maxHeartbeats 4000000 in
theorem c_X0_lostFrom (G : hG) (fu : Nat) (x1 : Int32) (x2 : Int32) (x3 : Int32) (m : hM) : Mt vI G 1 yX0_lostFrom cX0_lostFrom 7 (some .int) [hA G 1, .int x1, .int x2, .int x3] m (f_X0_lostFrom fu x1 x2 x3 m) := by
  refine mt_of (by decide +kernel) (Nat.le_of_ble_eq_true rfl) (fun X C K => ?_)
  have C : Cx G X 1 cX0_lostFrom 7 RX0 (some .int) := C
  show Rf vI G X 0 [(0, hA G 1), (1, .int x1), (2, .int x2), (3, .int x3)] [] m _
  unfold f_X0_lostFrom
  refine rf_iload_n C (n := 1) (q := 1) dX0_lostFrom_0 rfl rfl rfl ?_
  refine rf_iload_n C (n := 2) (q := 2) dX0_lostFrom_1 rfl rfl rfl ?_
  refine rf_icmp_ne C (tgt := 7) (n := 5) dX0_lostFrom_2 (by decide) rfl (fun h1 => ?_) (fun h1 => ?_)
  · refine rf_aload_n C (n := 8) (q := 0) dX0_lostFrom_7 rfl rfl rfl ?_
    refine rf_getI C (n := 11) fl_RX0_31 ly_1 rfl dX0_lostFrom_8 rfl ?_
    refine rf_aload_n C (n := 12) (q := 0) dX0_lostFrom_11 rfl rfl rfl ?_
    refine rf_getS C (n := 15) fl_RX0_17 ly_1 rfl dX0_lostFrom_12 rfl ?_
    refine rf_iload_n C (n := 16) (q := 1) dX0_lostFrom_15 rfl rfl rfl ?_
    refine rf_bipush C (n := 18) (v := 6) dX0_lostFrom_16 rfl (by decide) ?_
    refine rf_imul C (n := 19) dX0_lostFrom_18 rfl ?_
    refine rf_iload_n C (n := 20) (q := 2) dX0_lostFrom_19 rfl rfl rfl ?_
    refine rf_iadd C (n := 21) dX0_lostFrom_20 rfl ?_
    refine rf_guard (fun h2 => ?_)
    refine rf_iald C (n := 22) ly_3 h2 rfl dX0_lostFrom_21 rfl ?_
    refine rf_isub C (n := 23) dX0_lostFrom_22 rfl ?_
    refine rf_letI (fun y3 => ?_)
    refine rf_istore C (n := 25) [(4, .int y3), (0, hA G 1), (1, .int x1), (2, .int x2), (3, .int x3)] dX0_lostFrom_23 rfl (by decide) rfl ?_
    refine rf_iload C (n := 27) (q := 0) dX0_lostFrom_25 rfl rfl ?_
    refine rf_if_le C (tgt := 35) (n := 30) dX0_lostFrom_27 (by decide) rfl (fun h4 => ?_) (fun h4 => ?_)
    · refine rf_iconst C (n := 36) (v := 0) dX0_lostFrom_35 rfl (by decide) ?_
      exact rf_lv _ [1, 2, 3, 4] rfl (r_X0_lostFrom_36 C K fu _ _ _ _ _)
    · refine rf_iload C (n := 32) (q := 0) dX0_lostFrom_30 rfl rfl ?_
      refine rf_goto C (n := 36) dX0_lostFrom_32 (by decide) ?_
      exact rf_lv _ [1, 2, 3, 4] rfl (r_X0_lostFrom_36 C K fu _ _ _ _ _)
  · refine rf_iconst C (n := 6) (v := 0) dX0_lostFrom_5 rfl (by decide) ?_
    exact rf_iret C K dX0_lostFrom_6
noncomputable def f_X0_wrongBetween (fu : Nat) (x1 : Int32) (x2 : Int32) (m : hM) : Option (Int32 × hM) :=
  if hIn ((x1 * 6) + x2) 36 then (
some (((gI m 1 6) * (10 - (gI m 3 (Int32.toNatClampNeg ((x1 * 6) + x2))))) / 10, m)) else none
set_option maxRecDepth 100000 in
set_option maxHeartbeats 4000000 in
theorem c_X0_wrongBetween (G : hG) (fu : Nat) (x1 : Int32) (x2 : Int32) (m : hM) : Mt vI G 1 yX0_wrongBetween cX0_wrongBetween 3 (some .int) [hA G 1, .int x1, .int x2] m (f_X0_wrongBetween fu x1 x2 m) := by
  refine mt_of (by decide +kernel) (Nat.le_of_ble_eq_true rfl) (fun X C K => ?_)
  have C : Cx G X 1 cX0_wrongBetween 3 RX0 (some .int) := C
  show Rf vI G X 0 [(0, hA G 1), (1, .int x1), (2, .int x2)] [] m _
  unfold f_X0_wrongBetween
  refine rf_aload_n C (n := 1) (q := 0) dX0_wrongBetween_0 rfl rfl rfl ?_
  refine rf_getI C (n := 4) fl_RX0_34 ly_1 rfl dX0_wrongBetween_1 rfl ?_
  refine rf_bipush C (n := 6) (v := 10) dX0_wrongBetween_4 rfl (by decide) ?_
  refine rf_aload_n C (n := 7) (q := 0) dX0_wrongBetween_6 rfl rfl rfl ?_
  refine rf_getS C (n := 10) fl_RX0_17 ly_1 rfl dX0_wrongBetween_7 rfl ?_
  refine rf_iload_n C (n := 11) (q := 1) dX0_wrongBetween_10 rfl rfl rfl ?_
  refine rf_bipush C (n := 13) (v := 6) dX0_wrongBetween_11 rfl (by decide) ?_
  refine rf_imul C (n := 14) dX0_wrongBetween_13 rfl ?_
  refine rf_iload_n C (n := 15) (q := 2) dX0_wrongBetween_14 rfl rfl rfl ?_
  refine rf_iadd C (n := 16) dX0_wrongBetween_15 rfl ?_
  refine rf_guard (fun h1 => ?_)
  refine rf_iald C (n := 17) ly_3 h1 rfl dX0_wrongBetween_16 rfl ?_
  refine rf_isub C (n := 18) dX0_wrongBetween_17 rfl ?_
  refine rf_imul C (n := 19) dX0_wrongBetween_18 rfl ?_
  refine rf_bipush C (n := 21) (v := 10) dX0_wrongBetween_19 rfl (by decide) ?_
  refine rf_idiv C (n := 22) dX0_wrongBetween_21 rfl (by decide) ?_
  exact rf_iret C K dX0_wrongBetween_22
noncomputable def f_J6_numberOfTrailingZeros_0f7a4_74 (fu : Nat) (x0 : Int32) (x1 : Int32) (m : hM) : Option (Int32 × hM) :=
  some (x1 + ((Int32.toUInt32 x0 >>> (Int32.toUInt32 1 &&& Int32.toUInt32 31)).toInt32), m)
set_option maxRecDepth 100000 in
set_option maxHeartbeats 4000000 in
theorem r_J6_numberOfTrailingZeros_0f7a4_74 {G : hG} {X : hX} (C : Cx G X 1 cJ6_numberOfTrailingZeros_0f7a4 2 RJ6 (some .int)) (K : Cr G X) (fu : Nat) (x0 : Int32) (x1 : Int32) (m : hM) : Rf vI G X 74 [(0, .int x0), (1, .int x1)] [] m (f_J6_numberOfTrailingZeros_0f7a4_74 fu x0 x1 m) := by
  unfold f_J6_numberOfTrailingZeros_0f7a4_74
  refine rf_iload_n C (n := 75) (q := 1) dJ6_numberOfTrailingZeros_0f7a4_74 rfl rfl rfl ?_
  refine rf_iload_n C (n := 76) (q := 0) dJ6_numberOfTrailingZeros_0f7a4_75 rfl rfl rfl ?_
  refine rf_iconst C (n := 77) (v := 1) dJ6_numberOfTrailingZeros_0f7a4_76 rfl (by decide) ?_
  refine rf_iushr C (n := 78) dJ6_numberOfTrailingZeros_0f7a4_77 rfl ?_
  refine rf_iadd C (n := 79) dJ6_numberOfTrailingZeros_0f7a4_78 rfl ?_
  exact rf_iret C K dJ6_numberOfTrailingZeros_0f7a4_79
noncomputable def f_J6_numberOfTrailingZeros_0f7a4_62 (fu : Nat) (x0 : Int32) (x1 : Int32) (m : hM) : Option (Int32 × hM) :=
  if x0 ≤ 4 then (
f_J6_numberOfTrailingZeros_0f7a4_74 fu x0 x1 m) else (
hLet (x1 + 2) fun y7 =>
hLet ((Int32.toUInt32 x0 >>> (Int32.toUInt32 2 &&& Int32.toUInt32 31)).toInt32) fun y8 =>
f_J6_numberOfTrailingZeros_0f7a4_74 fu y8 y7 m)
set_option maxRecDepth 100000 in
set_option maxHeartbeats 4000000 in
theorem r_J6_numberOfTrailingZeros_0f7a4_62 {G : hG} {X : hX} (C : Cx G X 1 cJ6_numberOfTrailingZeros_0f7a4 2 RJ6 (some .int)) (K : Cr G X) (fu : Nat) (x0 : Int32) (x1 : Int32) (m : hM) : Rf vI G X 62 [(0, .int x0), (1, .int x1)] [] m (f_J6_numberOfTrailingZeros_0f7a4_62 fu x0 x1 m) := by
  unfold f_J6_numberOfTrailingZeros_0f7a4_62
  refine rf_iload_n C (n := 63) (q := 0) dJ6_numberOfTrailingZeros_0f7a4_62 rfl rfl rfl ?_
  refine rf_iconst C (n := 64) (v := 4) dJ6_numberOfTrailingZeros_0f7a4_63 rfl (by decide) ?_
  refine rf_icmp_le C (tgt := 74) (n := 67) dJ6_numberOfTrailingZeros_0f7a4_64 (by decide) rfl (fun h6 => ?_) (fun h6 => ?_)
  · exact rf_lv _ [0, 1] rfl (r_J6_numberOfTrailingZeros_0f7a4_74 C K fu _ _ _)
  · refine rf_iinc2 C (n := 70) (q := 1) (fun y7 => [(1, .int y7), (0, .int x0)]) dJ6_numberOfTrailingZeros_0f7a4_67 rfl rfl (by decide) (by decide) (fun _ => rfl) (fun y7 => ?_)
    refine rf_iload_n C (n := 71) (q := 1) dJ6_numberOfTrailingZeros_0f7a4_70 rfl rfl rfl ?_
    refine rf_iconst C (n := 72) (v := 2) dJ6_numberOfTrailingZeros_0f7a4_71 rfl (by decide) ?_
    refine rf_iushr C (n := 73) dJ6_numberOfTrailingZeros_0f7a4_72 rfl ?_
    refine rf_letI (fun y8 => ?_)
    refine rf_istore_n C (n := 74) [(0, .int y8), (1, .int y7)] dJ6_numberOfTrailingZeros_0f7a4_73 rfl rfl (by decide) rfl ?_
    exact rf_lv _ [0, 1] rfl (r_J6_numberOfTrailingZeros_0f7a4_74 C K fu _ _ _)
noncomputable def f_J6_numberOfTrailingZeros_0f7a4_49 (fu : Nat) (x0 : Int32) (x1 : Int32) (m : hM) : Option (Int32 × hM) :=
  if x0 ≤ 16 then (
f_J6_numberOfTrailingZeros_0f7a4_62 fu x0 x1 m) else (
hLet (x1 + 4) fun y9 =>
hLet ((Int32.toUInt32 x0 >>> (Int32.toUInt32 4 &&& Int32.toUInt32 31)).toInt32) fun y10 =>
f_J6_numberOfTrailingZeros_0f7a4_62 fu y10 y9 m)
set_option maxRecDepth 100000 in
set_option maxHeartbeats 4000000 in
theorem r_J6_numberOfTrailingZeros_0f7a4_49 {G : hG} {X : hX} (C : Cx G X 1 cJ6_numberOfTrailingZeros_0f7a4 2 RJ6 (some .int)) (K : Cr G X) (fu : Nat) (x0 : Int32) (x1 : Int32) (m : hM) : Rf vI G X 49 [(0, .int x0), (1, .int x1)] [] m (f_J6_numberOfTrailingZeros_0f7a4_49 fu x0 x1 m) := by
  unfold f_J6_numberOfTrailingZeros_0f7a4_49
  refine rf_iload_n C (n := 50) (q := 0) dJ6_numberOfTrailingZeros_0f7a4_49 rfl rfl rfl ?_
  refine rf_bipush C (n := 52) (v := 16) dJ6_numberOfTrailingZeros_0f7a4_50 rfl (by decide) ?_
  refine rf_icmp_le C (tgt := 62) (n := 55) dJ6_numberOfTrailingZeros_0f7a4_52 (by decide) rfl (fun h5 => ?_) (fun h5 => ?_)
  · exact rf_lv _ [0, 1] rfl (r_J6_numberOfTrailingZeros_0f7a4_62 C K fu _ _ _)
  · refine rf_iinc2 C (n := 58) (q := 1) (fun y9 => [(1, .int y9), (0, .int x0)]) dJ6_numberOfTrailingZeros_0f7a4_55 rfl rfl (by decide) (by decide) (fun _ => rfl) (fun y9 => ?_)
    refine rf_iload_n C (n := 59) (q := 1) dJ6_numberOfTrailingZeros_0f7a4_58 rfl rfl rfl ?_
    refine rf_iconst C (n := 60) (v := 4) dJ6_numberOfTrailingZeros_0f7a4_59 rfl (by decide) ?_
    refine rf_iushr C (n := 61) dJ6_numberOfTrailingZeros_0f7a4_60 rfl ?_
    refine rf_letI (fun y10 => ?_)
    refine rf_istore_n C (n := 62) [(0, .int y10), (1, .int y9)] dJ6_numberOfTrailingZeros_0f7a4_61 rfl rfl (by decide) rfl ?_
    exact rf_lv _ [0, 1] rfl (r_J6_numberOfTrailingZeros_0f7a4_62 C K fu _ _ _)
noncomputable def f_J6_numberOfTrailingZeros_0f7a4_34 (fu : Nat) (x0 : Int32) (x1 : Int32) (m : hM) : Option (Int32 × hM) :=
  if x0 ≤ 256 then (
f_J6_numberOfTrailingZeros_0f7a4_49 fu x0 x1 m) else (
hLet (x1 + 8) fun y11 =>
hLet ((Int32.toUInt32 x0 >>> (Int32.toUInt32 8 &&& Int32.toUInt32 31)).toInt32) fun y12 =>
f_J6_numberOfTrailingZeros_0f7a4_49 fu y12 y11 m)
set_option maxRecDepth 100000 in
set_option maxHeartbeats 4000000 in
theorem r_J6_numberOfTrailingZeros_0f7a4_34 {G : hG} {X : hX} (C : Cx G X 1 cJ6_numberOfTrailingZeros_0f7a4 2 RJ6 (some .int)) (K : Cr G X) (fu : Nat) (x0 : Int32) (x1 : Int32) (m : hM) : Rf vI G X 34 [(0, .int x0), (1, .int x1)] [] m (f_J6_numberOfTrailingZeros_0f7a4_34 fu x0 x1 m) := by
  unfold f_J6_numberOfTrailingZeros_0f7a4_34
  refine rf_iload_n C (n := 35) (q := 0) dJ6_numberOfTrailingZeros_0f7a4_34 rfl rfl rfl ?_
  refine rf_sipush C (n := 38) (v := 256) dJ6_numberOfTrailingZeros_0f7a4_35 rfl (by decide) ?_
  refine rf_icmp_le C (tgt := 49) (n := 41) dJ6_numberOfTrailingZeros_0f7a4_38 (by decide) rfl (fun h4 => ?_) (fun h4 => ?_)
  · exact rf_lv _ [0, 1] rfl (r_J6_numberOfTrailingZeros_0f7a4_49 C K fu _ _ _)
  · refine rf_iinc2 C (n := 44) (q := 1) (fun y11 => [(1, .int y11), (0, .int x0)]) dJ6_numberOfTrailingZeros_0f7a4_41 rfl rfl (by decide) (by decide) (fun _ => rfl) (fun y11 => ?_)
    refine rf_iload_n C (n := 45) (q := 1) dJ6_numberOfTrailingZeros_0f7a4_44 rfl rfl rfl ?_
    refine rf_bipush C (n := 47) (v := 8) dJ6_numberOfTrailingZeros_0f7a4_45 rfl (by decide) ?_
    refine rf_iushr C (n := 48) dJ6_numberOfTrailingZeros_0f7a4_47 rfl ?_
    refine rf_letI (fun y12 => ?_)
    refine rf_istore_n C (n := 49) [(0, .int y12), (1, .int y11)] dJ6_numberOfTrailingZeros_0f7a4_48 rfl rfl (by decide) rfl ?_
    exact rf_lv _ [0, 1] rfl (r_J6_numberOfTrailingZeros_0f7a4_49 C K fu _ _ _)
noncomputable def f_J6_numberOfTrailingZeros_0f7a4 (fu : Nat) (x0 : Int32) (m : hM) : Option (Int32 × hM) :=
  hLet ((x0 ^^^ (-1)) &&& (x0 - 1)) fun y1 =>
if 0 < y1 then (
if y1 ≤ 65536 then (
f_J6_numberOfTrailingZeros_0f7a4_34 fu y1 1 m) else (
hLet (1 + 16) fun y13 =>
hLet ((Int32.toUInt32 y1 >>> (Int32.toUInt32 16 &&& Int32.toUInt32 31)).toInt32) fun y14 =>
f_J6_numberOfTrailingZeros_0f7a4_34 fu y14 y13 m)) else (
some (y1 &&& 32, m))
set_option maxRecDepth 100000 in
set_option maxHeartbeats 4000000 in
theorem c_J6_numberOfTrailingZeros_0f7a4 (G : hG) (fu : Nat) (x0 : Int32) (m : hM) : Mt vI G 1 yJ6_numberOfTrailingZeros_0f7a4 cJ6_numberOfTrailingZeros_0f7a4 2 (some .int) [.int x0] m (f_J6_numberOfTrailingZeros_0f7a4 fu x0 m) := by
  refine mt_of (by decide +kernel) (Nat.le_of_ble_eq_true rfl) (fun X C K => ?_)
  have C : Cx G X 1 cJ6_numberOfTrailingZeros_0f7a4 2 RJ6 (some .int) := C
  show Rf vI G X 0 [(0, .int x0)] [] m _
  unfold f_J6_numberOfTrailingZeros_0f7a4
  refine rf_iload_n C (n := 1) (q := 0) dJ6_numberOfTrailingZeros_0f7a4_0 rfl rfl rfl ?_
  refine rf_iconst C (n := 2) (v := (-1)) dJ6_numberOfTrailingZeros_0f7a4_1 rfl (by decide) ?_
  refine rf_ixor C (n := 3) dJ6_numberOfTrailingZeros_0f7a4_2 rfl ?_
  refine rf_iload_n C (n := 4) (q := 0) dJ6_numberOfTrailingZeros_0f7a4_3 rfl rfl rfl ?_
  refine rf_iconst C (n := 5) (v := 1) dJ6_numberOfTrailingZeros_0f7a4_4 rfl (by decide) ?_
  refine rf_isub C (n := 6) dJ6_numberOfTrailingZeros_0f7a4_5 rfl ?_
  refine rf_iand C (n := 7) dJ6_numberOfTrailingZeros_0f7a4_6 rfl ?_
  refine rf_letI (fun y1 => ?_)
  refine rf_istore_n C (n := 8) [(0, .int y1)] dJ6_numberOfTrailingZeros_0f7a4_7 rfl rfl (by decide) rfl ?_
  refine rf_iload_n C (n := 9) (q := 0) dJ6_numberOfTrailingZeros_0f7a4_8 rfl rfl rfl ?_
  refine rf_if_gt C (tgt := 17) (n := 12) dJ6_numberOfTrailingZeros_0f7a4_9 (by decide) rfl (fun h2 => ?_) (fun h2 => ?_)
  · refine rf_iconst C (n := 18) (v := 1) dJ6_numberOfTrailingZeros_0f7a4_17 rfl (by decide) ?_
    refine rf_istore_n C (n := 19) [(1, .int 1), (0, .int y1)] dJ6_numberOfTrailingZeros_0f7a4_18 rfl rfl (by decide) rfl ?_
    refine rf_iload_n C (n := 20) (q := 1) dJ6_numberOfTrailingZeros_0f7a4_19 rfl rfl rfl ?_
    refine rf_ldcw C (n := 23) dJ6_numberOfTrailingZeros_0f7a4_20 rfl kc_RJ6_264 ?_
    refine rf_icmp_le C (tgt := 34) (n := 26) dJ6_numberOfTrailingZeros_0f7a4_23 (by decide) rfl (fun h3 => ?_) (fun h3 => ?_)
    · exact rf_lv _ [1, 0] rfl (r_J6_numberOfTrailingZeros_0f7a4_34 C K fu _ _ _)
    · refine rf_iinc2 C (n := 29) (q := 0) (fun y13 => [(1, .int y13), (0, .int y1)]) dJ6_numberOfTrailingZeros_0f7a4_26 rfl rfl (by decide) (by decide) (fun _ => rfl) (fun y13 => ?_)
      refine rf_iload_n C (n := 30) (q := 1) dJ6_numberOfTrailingZeros_0f7a4_29 rfl rfl rfl ?_
      refine rf_bipush C (n := 32) (v := 16) dJ6_numberOfTrailingZeros_0f7a4_30 rfl (by decide) ?_
      refine rf_iushr C (n := 33) dJ6_numberOfTrailingZeros_0f7a4_32 rfl ?_
      refine rf_letI (fun y14 => ?_)
      refine rf_istore_n C (n := 34) [(0, .int y14), (1, .int y13)] dJ6_numberOfTrailingZeros_0f7a4_33 rfl rfl (by decide) rfl ?_
      exact rf_lv _ [0, 1] rfl (r_J6_numberOfTrailingZeros_0f7a4_34 C K fu _ _ _)
  · refine rf_iload_n C (n := 13) (q := 0) dJ6_numberOfTrailingZeros_0f7a4_12 rfl rfl rfl ?_
    refine rf_bipush C (n := 15) (v := 32) dJ6_numberOfTrailingZeros_0f7a4_13 rfl (by decide) ?_
    refine rf_iand C (n := 16) dJ6_numberOfTrailingZeros_0f7a4_15 rfl ?_
    exact rf_iret C K dJ6_numberOfTrailingZeros_0f7a4_16
noncomputable def f_X0_nextWork_40 (fu : Nat) (x3 : Int32) (x4 : Int32) (m : hM) : Option (Int32 × hM) :=
  if hIn (x3 + x4) 15000 then (
hBd (f_J6_numberOfTrailingZeros_0f7a4 fu (gI m 5 (Int32.toNatClampNeg (x3 + x4))) m) fun y8 m9 =>
hLet (x4 + y8) fun y10 =>
if 99 ≤ y10 then (
some (99, m9)) else (
some (y10, m9))) else none
set_option maxRecDepth 100000 in
set_option maxHeartbeats 4000000 in
theorem r_X0_nextWork_40 {G : hG} {X : hX} (C : Cx G X 2 cX0_nextWork 6 RX0 (some .int)) (K : Cr G X) (fu : Nat) (x3 : Int32) (x4 : Int32) (m : hM) : Rf vI G X 40 [(0, hA G 1), (3, .int x3), (4, .int x4)] [] m (f_X0_nextWork_40 fu x3 x4 m) := by
  unfold f_X0_nextWork_40
  refine rf_iload C (n := 42) (q := 2) dX0_nextWork_40 rfl rfl ?_
  refine rf_aload_n C (n := 43) (q := 0) dX0_nextWork_42 rfl rfl rfl ?_
  refine rf_getS C (n := 46) fl_RX0_24 ly_1 rfl dX0_nextWork_43 rfl ?_
  refine rf_iload_n C (n := 47) (q := 1) dX0_nextWork_46 rfl rfl rfl ?_
  refine rf_iload C (n := 49) (q := 2) dX0_nextWork_47 rfl rfl ?_
  refine rf_iadd C (n := 50) dX0_nextWork_49 rfl ?_
  refine rf_guard (fun h7 => ?_)
  refine rf_iald C (n := 51) ly_5 h7 rfl dX0_nextWork_50 rfl ?_
  refine rf_callSi C (n := 54) (c_J6_numberOfTrailingZeros_0f7a4 G fu _ _) sw_RX0_84 ⟨by decide, by decide⟩ rfl (Nat.le_of_ble_eq_true rfl) rfl dX0_nextWork_51 rfl (fun y8 m9 => ?_)
  refine rf_iadd C (n := 55) dX0_nextWork_54 rfl ?_
  refine rf_letI (fun y10 => ?_)
  refine rf_istore C (n := 57) [(5, .int y10), (0, hA G 1), (3, .int x3), (4, .int x4)] dX0_nextWork_55 rfl (by decide) rfl ?_
  refine rf_iload C (n := 59) (q := 0) dX0_nextWork_57 rfl rfl ?_
  refine rf_bipush C (n := 61) (v := 99) dX0_nextWork_59 rfl (by decide) ?_
  refine rf_icmp_ge C (tgt := 69) (n := 64) dX0_nextWork_61 (by decide) rfl (fun h11 => ?_) (fun h11 => ?_)
  · refine rf_bipush C (n := 71) (v := 99) dX0_nextWork_69 rfl (by decide) ?_
    exact rf_iret C K dX0_nextWork_71
  · refine rf_iload C (n := 66) (q := 0) dX0_nextWork_64 rfl rfl ?_
    refine rf_goto C (n := 71) dX0_nextWork_66 (by decide) ?_
    exact rf_iret C K dX0_nextWork_71
noncomputable def s_X0_nextWork_11 (fu : Nat) (ih : Int32 → Int32 → Int32 → hM → Option (Int32 × hM)) (x2 : Int32) (x3 : Int32) (x4 : Int32) (m : hM) : Option (Int32 × hM) :=
  if 99 ≤ x4 then (
some (99, m)) else (
if 2500 ≤ (x2 + x4) then (
some (99, m)) else (
if hIn (x3 + x4) 15000 then (
if (gI m 5 (Int32.toNatClampNeg (x3 + x4))) = 0 then (
hLet (x4 + 24) fun y6 =>
ih x2 x3 y6 m) else (
f_X0_nextWork_40 fu x3 x4 m)) else none))
noncomputable def f_X0_nextWork_11 (fu : Nat) (n : Nat) : Int32 → Int32 → Int32 → hM → Option (Int32 × hM) :=
  Nat.rec (motive := fun _ => Int32 → Int32 → Int32 → hM → Option (Int32 × hM)) (fun _ _ _ _ => none) (fun _ ih => s_X0_nextWork_11 fu ih) n
theorem f_X0_nextWork_11_s (fu : Nat) (n : Nat) (x2 : Int32) (x3 : Int32) (x4 : Int32) (m : hM) : f_X0_nextWork_11 fu (n + 1) x2 x3 x4 m = s_X0_nextWork_11 fu (f_X0_nextWork_11 fu n) x2 x3 x4 m := rfl
set_option maxRecDepth 100000 in
set_option maxHeartbeats 4000000 in
theorem r_X0_nextWork_11 {G : hG} {X : hX} (C : Cx G X 2 cX0_nextWork 6 RX0 (some .int)) (K : Cr G X) (fu : Nat) (n : Nat) : ∀ (x2 : Int32) (x3 : Int32) (x4 : Int32) (m : hM), Rf vI G X 11 [(0, hA G 1), (2, .int x2), (3, .int x3), (4, .int x4)] [] m (f_X0_nextWork_11 fu n x2 x3 x4 m) := by
  induction n with
  | zero => intros; exact rf_none
  | succ n ih =>
    intro x2 x3 x4 m
    show Rf vI G X 11 [(0, hA G 1), (2, .int x2), (3, .int x3), (4, .int x4)] [] m (s_X0_nextWork_11 fu (f_X0_nextWork_11 fu n) x2 x3 x4 m)
    unfold s_X0_nextWork_11
    refine rf_iload C (n := 13) (q := 3) dX0_nextWork_11 rfl rfl ?_
    refine rf_bipush C (n := 15) (v := 99) dX0_nextWork_13 rfl (by decide) ?_
    refine rf_icmp_ge C (tgt := 78) (n := 18) dX0_nextWork_15 (by decide) rfl (fun h2 => ?_) (fun h2 => ?_)
    · refine rf_bipush C (n := 80) (v := 99) dX0_nextWork_78 rfl (by decide) ?_
      exact rf_iret C K dX0_nextWork_80
    · refine rf_iload_n C (n := 19) (q := 1) dX0_nextWork_18 rfl rfl rfl ?_
      refine rf_iload C (n := 21) (q := 3) dX0_nextWork_19 rfl rfl ?_
      refine rf_iadd C (n := 22) dX0_nextWork_21 rfl ?_
      refine rf_sipush C (n := 25) (v := 2500) dX0_nextWork_22 rfl (by decide) ?_
      refine rf_icmp_ge C (tgt := 78) (n := 28) dX0_nextWork_25 (by decide) rfl (fun h3 => ?_) (fun h3 => ?_)
      · refine rf_bipush C (n := 80) (v := 99) dX0_nextWork_78 rfl (by decide) ?_
        exact rf_iret C K dX0_nextWork_80
      · refine rf_aload_n C (n := 29) (q := 0) dX0_nextWork_28 rfl rfl rfl ?_
        refine rf_getS C (n := 32) fl_RX0_24 ly_1 rfl dX0_nextWork_29 rfl ?_
        refine rf_iload_n C (n := 33) (q := 2) dX0_nextWork_32 rfl rfl rfl ?_
        refine rf_iload C (n := 35) (q := 3) dX0_nextWork_33 rfl rfl ?_
        refine rf_iadd C (n := 36) dX0_nextWork_35 rfl ?_
        refine rf_guard (fun h4 => ?_)
        refine rf_iald C (n := 37) ly_5 h4 rfl dX0_nextWork_36 rfl ?_
        refine rf_if_eq C (tgt := 72) (n := 40) dX0_nextWork_37 (by decide) rfl (fun h5 => ?_) (fun h5 => ?_)
        · refine rf_iinc2 C (n := 75) (q := 3) (fun y6 => [(4, .int y6), (0, hA G 1), (2, .int x2), (3, .int x3)]) dX0_nextWork_72 rfl rfl (by decide) (by decide) (fun _ => rfl) (fun y6 => ?_)
          refine rf_goto C (n := 11) dX0_nextWork_75 (by decide) ?_
          exact rf_lv _ [1, 2, 3, 0] rfl (ih _ _ _ _)
        · exact rf_lv _ [0, 2, 3] rfl (r_X0_nextWork_40 C K fu _ _ _)
noncomputable def f_X0_nextWork (fu : Nat) (x1 : Int32) (x2 : Int32) (m : hM) : Option (Int32 × hM) :=
  hLet ((x1 * 2500) + x2) fun y1 =>
f_X0_nextWork_11 fu fu x2 y1 0 m
set_option maxRecDepth 100000 in
set_option maxHeartbeats 4000000 in
theorem c_X0_nextWork (G : hG) (fu : Nat) (x1 : Int32) (x2 : Int32) (m : hM) : Mt vI G 2 yX0_nextWork cX0_nextWork 6 (some .int) [hA G 1, .int x1, .int x2] m (f_X0_nextWork fu x1 x2 m) := by
  refine mt_of (by decide +kernel) (Nat.le_of_ble_eq_true rfl) (fun X C K => ?_)
  have C : Cx G X 2 cX0_nextWork 6 RX0 (some .int) := C
  show Rf vI G X 0 [(0, hA G 1), (1, .int x1), (2, .int x2)] [] m _
  unfold f_X0_nextWork
  refine rf_iload_n C (n := 1) (q := 1) dX0_nextWork_0 rfl rfl rfl ?_
  refine rf_sipush C (n := 4) (v := 2500) dX0_nextWork_1 rfl (by decide) ?_
  refine rf_imul C (n := 5) dX0_nextWork_4 rfl ?_
  refine rf_iload_n C (n := 6) (q := 2) dX0_nextWork_5 rfl rfl rfl ?_
  refine rf_iadd C (n := 7) dX0_nextWork_6 rfl ?_
  refine rf_letI (fun y1 => ?_)
  refine rf_istore_n C (n := 8) [(3, .int y1), (0, hA G 1), (1, .int x1), (2, .int x2)] dX0_nextWork_7 rfl rfl (by decide) rfl ?_
  refine rf_iconst C (n := 9) (v := 0) dX0_nextWork_8 rfl (by decide) ?_
  refine rf_istore C (n := 11) [(4, .int 0), (3, .int y1), (0, hA G 1), (1, .int x1), (2, .int x2)] dX0_nextWork_9 rfl (by decide) rfl ?_
  exact rf_lv _ [2, 4, 1, 0] rfl (r_X0_nextWork_11 C K fu fu _ _ _ _)
noncomputable def f_X1_clear (fu : Nat) (m : hM) : Option (Unit × hM) :=
  hLet (sI m 66 1 0) fun m1 =>
some ((), m1)
set_option maxRecDepth 100000 in
set_option maxHeartbeats 4000000 in
theorem c_X1_clear (G : hG) (fu : Nat) (m : hM) : Mt vU G 1 yX1_clear cX1_clear 1 none [hA G 66] m (f_X1_clear fu m) := by
  refine mt_of (by decide +kernel) (Nat.le_of_ble_eq_true rfl) (fun X C K => ?_)
  have C : Cx G X 1 cX1_clear 1 RX1 none := C
  show Rf vU G X 0 [(0, hA G 66)] [] m _
  unfold f_X1_clear
  refine rf_aload_n C (n := 1) (q := 0) dX1_clear_0 rfl rfl rfl ?_
  refine rf_iconst C (n := 2) (v := 0) dX1_clear_1 rfl (by decide) ?_
  refine rf_putI C (n := 5) pl_RX1_15 ly_66 rfl ⟨rfl, rfl⟩ dX1_clear_2 rfl ?_
  refine rf_letM (fun m1 => ?_)
  exact rf_vret C K dX1_clear_5
noncomputable def f_X1_tell (fu : Nat) (x1 : Int64) (m : hM) : Option (Unit × hM) :=
  if 11 ≤ (gI m 66 1) then (
some ((), m)) else (
if hIn (gI m 66 1) 11 then (
hLet (sL m 67 (Int32.toNatClampNeg (gI m 66 1)) x1) fun m3 =>
hLet (sI m3 66 1 ((gI m3 66 1) + 1)) fun m4 =>
some ((), m4)) else none)
set_option maxRecDepth 100000 in
set_option maxHeartbeats 4000000 in
theorem c_X1_tell (G : hG) (fu : Nat) (x1 : Int64) (m : hM) : Mt vU G 1 yX1_tell cX1_tell 3 none [hA G 66, .long x1] m (f_X1_tell fu x1 m) := by
  refine mt_of (by decide +kernel) (Nat.le_of_ble_eq_true rfl) (fun X C K => ?_)
  have C : Cx G X 1 cX1_tell 3 RX1 none := C
  show Rf vU G X 0 [(0, hA G 66), (1, .long x1)] [] m _
  unfold f_X1_tell
  refine rf_aload_n C (n := 1) (q := 0) dX1_tell_0 rfl rfl rfl ?_
  refine rf_getI C (n := 4) fl_RX1_15 ly_66 rfl dX1_tell_1 rfl ?_
  refine rf_aload_n C (n := 5) (q := 0) dX1_tell_4 rfl rfl rfl ?_
  refine rf_getS C (n := 8) fl_RX1_9 ly_66 rfl dX1_tell_5 rfl ?_
  refine rf_alen C (n := 9) (v := 11) ly_67 (by decide) (by decide) dX1_tell_8 rfl ?_
  refine rf_icmp_ge C (tgt := 32) (n := 12) dX1_tell_9 (by decide) rfl (fun h1 => ?_) (fun h1 => ?_)
  · exact rf_vret C K dX1_tell_32
  · refine rf_aload_n C (n := 13) (q := 0) dX1_tell_12 rfl rfl rfl ?_
    refine rf_getS C (n := 16) fl_RX1_9 ly_66 rfl dX1_tell_13 rfl ?_
    refine rf_aload_n C (n := 17) (q := 0) dX1_tell_16 rfl rfl rfl ?_
    refine rf_getI C (n := 20) fl_RX1_15 ly_66 rfl dX1_tell_17 rfl ?_
    refine rf_lload_n C (n := 21) (q := 1) dX1_tell_20 rfl rfl rfl ?_
    refine rf_guard (fun h2 => ?_)
    refine rf_last C (n := 22) ly_67 h2 rfl dX1_tell_21 rfl ?_
    refine rf_letM (fun m3 => ?_)
    refine rf_aload_n C (n := 23) (q := 0) dX1_tell_22 rfl rfl rfl ?_
    refine rf_dup C (n := 24) dX1_tell_23 rfl rfl ?_
    refine rf_getI C (n := 27) fl_RX1_15 ly_66 rfl dX1_tell_24 rfl ?_
    refine rf_iconst C (n := 28) (v := 1) dX1_tell_27 rfl (by decide) ?_
    refine rf_iadd C (n := 29) dX1_tell_28 rfl ?_
    refine rf_putI C (n := 32) pl_RX1_15 ly_66 rfl ⟨rfl, rfl⟩ dX1_tell_29 rfl ?_
    refine rf_letM (fun m4 => ?_)
    exact rf_vret C K dX1_tell_32
noncomputable def f_X1_tellFraction_54 (fu : Nat) (x1 : Int64) (x3 : Int64) (x5 : Int64) (m : hM) : Option (Unit × hM) :=
  if ¬ x5 = 0 then (
hBd (f_X1_tell fu (x1 / x5) m) fun _ m4 =>
if ¬ x5 = 0 then (
hBd (f_X1_tell fu (x3 / x5) m4) fun _ m6 =>
some ((), m6)) else none) else none
set_option maxRecDepth 100000 in
set_option maxHeartbeats 4000000 in
theorem r_X1_tellFraction_54 {G : hG} {X : hX} (C : Cx G X 2 cX1_tellFraction 12 RX1 none) (K : Cr G X) (fu : Nat) (x1 : Int64) (x3 : Int64) (x5 : Int64) (m : hM) : Rf vU G X 54 [(0, hA G 66), (1, .long x1), (3, .long x3), (5, .long x5)] [] m (f_X1_tellFraction_54 fu x1 x3 x5 m) := by
  unfold f_X1_tellFraction_54
  refine rf_aload_n C (n := 55) (q := 0) dX1_tellFraction_54 rfl rfl rfl ?_
  refine rf_lload_n C (n := 56) (q := 1) dX1_tellFraction_55 rfl rfl rfl ?_
  refine rf_lload C (n := 58) (q := 3) dX1_tellFraction_56 rfl rfl ?_
  refine rf_guard (fun h3 => ?_)
  refine rf_ldiv C (n := 59) dX1_tellFraction_58 rfl h3 ?_
  refine rf_callVv C (n := 62) (c_X1_tell G fu _ _) mw_RX1_19 ly_66 rfl ⟨by decide, by decide⟩ rfl (Nat.le_of_ble_eq_true rfl) rfl dX1_tellFraction_59 rfl (fun _ m4 => ?_)
  refine rf_aload_n C (n := 63) (q := 0) dX1_tellFraction_62 rfl rfl rfl ?_
  refine rf_lload_n C (n := 64) (q := 2) dX1_tellFraction_63 rfl rfl rfl ?_
  refine rf_lload C (n := 66) (q := 3) dX1_tellFraction_64 rfl rfl ?_
  refine rf_guard (fun h5 => ?_)
  refine rf_ldiv C (n := 67) dX1_tellFraction_66 rfl h5 ?_
  refine rf_callVv C (n := 70) (c_X1_tell G fu _ _) mw_RX1_19 ly_66 rfl ⟨by decide, by decide⟩ rfl (Nat.le_of_ble_eq_true rfl) rfl dX1_tellFraction_67 rfl (fun _ m6 => ?_)
  exact rf_vret C K dX1_tellFraction_70
noncomputable def f_X1_tellFraction_44 (fu : Nat) (x1 : Int64) (x3 : Int64) (x5 : Int64) (m : hM) : Option (Unit × hM) :=
  if ¬ (lg_cmp x5 0) = 0 then (
f_X1_tellFraction_54 fu x1 x3 x5 m) else (
f_X1_tellFraction_54 fu x1 x3 1 m)
set_option maxRecDepth 100000 in
set_option maxHeartbeats 4000000 in
theorem r_X1_tellFraction_44 {G : hG} {X : hX} (C : Cx G X 2 cX1_tellFraction 12 RX1 none) (K : Cr G X) (fu : Nat) (x1 : Int64) (x3 : Int64) (x5 : Int64) (m : hM) : Rf vU G X 44 [(0, hA G 66), (1, .long x1), (3, .long x3), (5, .long x5)] [] m (f_X1_tellFraction_44 fu x1 x3 x5 m) := by
  unfold f_X1_tellFraction_44
  refine rf_lload C (n := 46) (q := 3) dX1_tellFraction_44 rfl rfl ?_
  refine rf_lconst C (n := 47) (v := 0) dX1_tellFraction_46 rfl (by decide) ?_
  refine rf_lcmp C (n := 48) dX1_tellFraction_47 rfl ?_
  refine rf_if_ne C (tgt := 54) (n := 51) dX1_tellFraction_48 (by decide) rfl (fun h2 => ?_) (fun h2 => ?_)
  · exact rf_lv _ [0, 1, 2, 3] rfl (r_X1_tellFraction_54 C K fu _ _ _ _)
  · refine rf_lconst C (n := 52) (v := 1) dX1_tellFraction_51 rfl (by decide) ?_
    refine rf_lstore C (n := 54) [(5, .long 1), (0, hA G 66), (1, .long x1), (3, .long x3)] dX1_tellFraction_52 rfl (by decide) rfl ?_
    exact rf_lv _ [1, 2, 3, 0] rfl (r_X1_tellFraction_54 C K fu _ _ _ _)
noncomputable def s_X1_tellFraction_9 (fu : Nat) (ih : Int64 → Int64 → Int64 → Int64 → Int32 → hM → Option (Unit × hM)) (x1 : Int64) (x3 : Int64) (x5 : Int64) (x7 : Int64) (x9 : Int32) (m : hM) : Option (Unit × hM) :=
  if 100 ≤ x9 then (
f_X1_tellFraction_44 fu x1 x3 x5 m) else (
if (lg_cmp x7 0) = 0 then (
f_X1_tellFraction_44 fu x1 x3 x5 m) else (
if ¬ x7 = 0 then (
hLet (x5 - x5 / x7 * x7) fun y9 =>
hLet (x9 + 1) fun y10 =>
ih x1 x3 x7 y9 y10 m) else none))
noncomputable def f_X1_tellFraction_9 (fu : Nat) (n : Nat) : Int64 → Int64 → Int64 → Int64 → Int32 → hM → Option (Unit × hM) :=
  Nat.rec (motive := fun _ => Int64 → Int64 → Int64 → Int64 → Int32 → hM → Option (Unit × hM)) (fun _ _ _ _ _ _ => none) (fun _ ih => s_X1_tellFraction_9 fu ih) n
theorem f_X1_tellFraction_9_s (fu : Nat) (n : Nat) (x1 : Int64) (x3 : Int64) (x5 : Int64) (x7 : Int64) (x9 : Int32) (m : hM) : f_X1_tellFraction_9 fu (n + 1) x1 x3 x5 x7 x9 m = s_X1_tellFraction_9 fu (f_X1_tellFraction_9 fu n) x1 x3 x5 x7 x9 m := rfl
set_option maxRecDepth 100000 in
set_option maxHeartbeats 4000000 in
theorem r_X1_tellFraction_9 {G : hG} {X : hX} (C : Cx G X 2 cX1_tellFraction 12 RX1 none) (K : Cr G X) (fu : Nat) (n : Nat) : ∀ (x1 : Int64) (x3 : Int64) (x5 : Int64) (x7 : Int64) (x9 : Int32) (m : hM), Rf vU G X 9 [(0, hA G 66), (1, .long x1), (3, .long x3), (5, .long x5), (7, .long x7), (9, .int x9)] [] m (f_X1_tellFraction_9 fu n x1 x3 x5 x7 x9 m) := by
  induction n with
  | zero => intros; exact rf_none
  | succ n ih =>
    intro x1 x3 x5 x7 x9 m
    show Rf vU G X 9 [(0, hA G 66), (1, .long x1), (3, .long x3), (5, .long x5), (7, .long x7), (9, .int x9)] [] m (s_X1_tellFraction_9 fu (f_X1_tellFraction_9 fu n) x1 x3 x5 x7 x9 m)
    unfold s_X1_tellFraction_9
    refine rf_iload C (n := 11) (q := 5) dX1_tellFraction_9 rfl rfl ?_
    refine rf_bipush C (n := 13) (v := 100) dX1_tellFraction_11 rfl (by decide) ?_
    refine rf_icmp_ge C (tgt := 44) (n := 16) dX1_tellFraction_13 (by decide) rfl (fun h1 => ?_) (fun h1 => ?_)
    · exact rf_lv _ [0, 1, 2, 3] rfl (r_X1_tellFraction_44 C K fu _ _ _ _)
    · refine rf_lload C (n := 18) (q := 4) dX1_tellFraction_16 rfl rfl ?_
      refine rf_lconst C (n := 19) (v := 0) dX1_tellFraction_18 rfl (by decide) ?_
      refine rf_lcmp C (n := 20) dX1_tellFraction_19 rfl ?_
      refine rf_if_eq C (tgt := 44) (n := 23) dX1_tellFraction_20 (by decide) rfl (fun h7 => ?_) (fun h7 => ?_)
      · exact rf_lv _ [0, 1, 2, 3] rfl (r_X1_tellFraction_44 C K fu _ _ _ _)
      · refine rf_lload C (n := 25) (q := 3) dX1_tellFraction_23 rfl rfl ?_
        refine rf_lload C (n := 27) (q := 4) dX1_tellFraction_25 rfl rfl ?_
        refine rf_guard (fun h8 => ?_)
        refine rf_lrem C (n := 28) dX1_tellFraction_27 rfl h8 ?_
        refine rf_letL (fun y9 => ?_)
        refine rf_lstore C (n := 30) [(10, .long y9), (0, hA G 66), (1, .long x1), (3, .long x3), (5, .long x5), (7, .long x7), (9, .int x9)] dX1_tellFraction_28 rfl (by decide) rfl ?_
        refine rf_lload C (n := 32) (q := 5) dX1_tellFraction_30 rfl rfl ?_
        refine rf_lstore C (n := 34) [(5, .long x7), (10, .long y9), (0, hA G 66), (1, .long x1), (3, .long x3), (7, .long x7), (9, .int x9)] dX1_tellFraction_32 rfl (by decide) rfl ?_
        refine rf_lload C (n := 36) (q := 1) dX1_tellFraction_34 rfl rfl ?_
        refine rf_lstore C (n := 38) [(7, .long y9), (5, .long x7), (10, .long y9), (0, hA G 66), (1, .long x1), (3, .long x3), (9, .int x9)] dX1_tellFraction_36 rfl (by decide) rfl ?_
        refine rf_iinc2 C (n := 41) (q := 6) (fun y10 => [(9, .int y10), (7, .long y9), (5, .long x7), (10, .long y9), (0, hA G 66), (1, .long x1), (3, .long x3)]) dX1_tellFraction_38 rfl rfl (by decide) (by decide) (fun _ => rfl) (fun y10 => ?_)
        refine rf_goto C (n := 9) dX1_tellFraction_41 (by decide) ?_
        exact rf_lv _ [4, 5, 6, 2, 1, 0] rfl (ih _ _ _ _ _ _)
noncomputable def f_X1_tellFraction (fu : Nat) (x1 : Int64) (x3 : Int64) (m : hM) : Option (Unit × hM) :=
  f_X1_tellFraction_9 fu fu x1 x3 x1 x3 0 m
set_option maxRecDepth 100000 in
set_option maxHeartbeats 4000000 in
theorem c_X1_tellFraction (G : hG) (fu : Nat) (x1 : Int64) (x3 : Int64) (m : hM) : Mt vU G 2 yX1_tellFraction cX1_tellFraction 12 none [hA G 66, .long x1, .long x3] m (f_X1_tellFraction fu x1 x3 m) := by
  refine mt_of (by decide +kernel) (Nat.le_of_ble_eq_true rfl) (fun X C K => ?_)
  have C : Cx G X 2 cX1_tellFraction 12 RX1 none := C
  show Rf vU G X 0 [(0, hA G 66), (1, .long x1), (3, .long x3)] [] m _
  unfold f_X1_tellFraction
  refine rf_lload_n C (n := 1) (q := 1) dX1_tellFraction_0 rfl rfl rfl ?_
  refine rf_lstore C (n := 3) [(5, .long x1), (0, hA G 66), (1, .long x1), (3, .long x3)] dX1_tellFraction_1 rfl (by decide) rfl ?_
  refine rf_lload_n C (n := 4) (q := 3) dX1_tellFraction_3 rfl rfl rfl ?_
  refine rf_lstore C (n := 6) [(7, .long x3), (5, .long x1), (0, hA G 66), (1, .long x1), (3, .long x3)] dX1_tellFraction_4 rfl (by decide) rfl ?_
  refine rf_iconst C (n := 7) (v := 0) dX1_tellFraction_6 rfl (by decide) ?_
  refine rf_istore C (n := 9) [(9, .int 0), (7, .long x3), (5, .long x1), (0, hA G 66), (1, .long x1), (3, .long x3)] dX1_tellFraction_7 rfl (by decide) rfl ?_
  exact rf_lv _ [3, 4, 5, 2, 1, 0] rfl (r_X1_tellFraction_9 C K fu fu _ _ _ _ _ _)
