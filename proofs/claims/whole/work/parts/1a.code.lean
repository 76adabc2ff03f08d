theorem dX0_has_0 : decode cX0_has 0 = .ok (.iload_n 1, 1) := by decide +kernel
theorem dX0_has_1 : decode cX0_has 1 = .ok (.ifCond .lt 15, 3) := by decide +kernel
theorem dX0_has_4 : decode cX0_has 4 = .ok (.iload_n 1, 1) := by decide +kernel
theorem dX0_has_5 : decode cX0_has 5 = .ok (.aload_n 0, 1) := by decide +kernel
theorem dX0_has_6 : decode cX0_has 6 = .ok (.getfield 27, 3) := by decide +kernel
theorem dX0_has_9 : decode cX0_has 9 = .ok (.if_icmp .ge 7, 3) := by decide +kernel
theorem dX0_has_12 : decode cX0_has 12 = .ok (.iconst 1, 1) := by decide +kernel
theorem dX0_has_13 : decode cX0_has 13 = .ok (.goto 4, 3) := by decide +kernel
theorem dX0_has_16 : decode cX0_has 16 = .ok (.iconst 0, 1) := by decide +kernel
theorem dX0_has_17 : decode cX0_has 17 = .ok (.ireturn, 1) := by decide +kernel
theorem dJ9_max_7cf53_0 : decode cJ9_max_7cf53 0 = .ok (.iload_n 0, 1) := by decide +kernel
theorem dJ9_max_7cf53_1 : decode cJ9_max_7cf53 1 = .ok (.iload_n 1, 1) := by decide +kernel
theorem dJ9_max_7cf53_2 : decode cJ9_max_7cf53 2 = .ok (.if_icmp .lt 7, 3) := by decide +kernel
theorem dJ9_max_7cf53_5 : decode cJ9_max_7cf53 5 = .ok (.iload_n 0, 1) := by decide +kernel
theorem dJ9_max_7cf53_6 : decode cJ9_max_7cf53 6 = .ok (.goto 4, 3) := by decide +kernel
theorem dJ9_max_7cf53_9 : decode cJ9_max_7cf53 9 = .ok (.iload_n 1, 1) := by decide +kernel
theorem dJ9_max_7cf53_10 : decode cJ9_max_7cf53 10 = .ok (.ireturn, 1) := by decide +kernel
theorem dJ9_min_7cf53_0 : decode cJ9_min_7cf53 0 = .ok (.iload_n 0, 1) := by decide +kernel
theorem dJ9_min_7cf53_1 : decode cJ9_min_7cf53 1 = .ok (.iload_n 1, 1) := by decide +kernel
theorem dJ9_min_7cf53_2 : decode cJ9_min_7cf53 2 = .ok (.if_icmp .gt 7, 3) := by decide +kernel
theorem dJ9_min_7cf53_5 : decode cJ9_min_7cf53 5 = .ok (.iload_n 0, 1) := by decide +kernel
theorem dJ9_min_7cf53_6 : decode cJ9_min_7cf53 6 = .ok (.goto 4, 3) := by decide +kernel
theorem dJ9_min_7cf53_9 : decode cJ9_min_7cf53 9 = .ok (.iload_n 1, 1) := by decide +kernel
theorem dJ9_min_7cf53_10 : decode cJ9_min_7cf53 10 = .ok (.ireturn, 1) := by decide +kernel
theorem dJ9_floorDiv_7cf53_0 : decode cJ9_floorDiv_7cf53 0 = .ok (.iload_n 0, 1) := by decide +kernel
theorem dJ9_floorDiv_7cf53_1 : decode cJ9_floorDiv_7cf53 1 = .ok (.iload_n 1, 1) := by decide +kernel
theorem dJ9_floorDiv_7cf53_2 : decode cJ9_floorDiv_7cf53 2 = .ok (.idiv, 1) := by decide +kernel
theorem dJ9_floorDiv_7cf53_3 : decode cJ9_floorDiv_7cf53 3 = .ok (.istore_n 2, 1) := by decide +kernel
theorem dJ9_floorDiv_7cf53_4 : decode cJ9_floorDiv_7cf53 4 = .ok (.iload_n 0, 1) := by decide +kernel
theorem dJ9_floorDiv_7cf53_5 : decode cJ9_floorDiv_7cf53 5 = .ok (.iload_n 1, 1) := by decide +kernel
theorem dJ9_floorDiv_7cf53_6 : decode cJ9_floorDiv_7cf53 6 = .ok (.ixor, 1) := by decide +kernel
theorem dJ9_floorDiv_7cf53_7 : decode cJ9_floorDiv_7cf53 7 = .ok (.ifCond .ge 14, 3) := by decide +kernel
theorem dJ9_floorDiv_7cf53_10 : decode cJ9_floorDiv_7cf53 10 = .ok (.iload_n 2, 1) := by decide +kernel
theorem dJ9_floorDiv_7cf53_11 : decode cJ9_floorDiv_7cf53 11 = .ok (.iload_n 1, 1) := by decide +kernel
theorem dJ9_floorDiv_7cf53_12 : decode cJ9_floorDiv_7cf53 12 = .ok (.imul, 1) := by decide +kernel
theorem dJ9_floorDiv_7cf53_13 : decode cJ9_floorDiv_7cf53 13 = .ok (.iload_n 0, 1) := by decide +kernel
theorem dJ9_floorDiv_7cf53_14 : decode cJ9_floorDiv_7cf53 14 = .ok (.if_icmp .eq 7, 3) := by decide +kernel
theorem dJ9_floorDiv_7cf53_17 : decode cJ9_floorDiv_7cf53 17 = .ok (.iload_n 2, 1) := by decide +kernel
theorem dJ9_floorDiv_7cf53_18 : decode cJ9_floorDiv_7cf53 18 = .ok (.iconst 1, 1) := by decide +kernel
theorem dJ9_floorDiv_7cf53_19 : decode cJ9_floorDiv_7cf53 19 = .ok (.isub, 1) := by decide +kernel
theorem dJ9_floorDiv_7cf53_20 : decode cJ9_floorDiv_7cf53 20 = .ok (.ireturn, 1) := by decide +kernel
theorem dJ9_floorDiv_7cf53_21 : decode cJ9_floorDiv_7cf53 21 = .ok (.iload_n 2, 1) := by decide +kernel
theorem dJ9_floorDiv_7cf53_22 : decode cJ9_floorDiv_7cf53 22 = .ok (.ireturn, 1) := by decide +kernel
theorem dJ9_floorMod_7cf53_0 : decode cJ9_floorMod_7cf53 0 = .ok (.iload_n 0, 1) := by decide +kernel
theorem dJ9_floorMod_7cf53_1 : decode cJ9_floorMod_7cf53 1 = .ok (.iload_n 1, 1) := by decide +kernel
theorem dJ9_floorMod_7cf53_2 : decode cJ9_floorMod_7cf53 2 = .ok (.irem, 1) := by decide +kernel
theorem dJ9_floorMod_7cf53_3 : decode cJ9_floorMod_7cf53 3 = .ok (.istore_n 2, 1) := by decide +kernel
theorem dJ9_floorMod_7cf53_4 : decode cJ9_floorMod_7cf53 4 = .ok (.iload_n 0, 1) := by decide +kernel
theorem dJ9_floorMod_7cf53_5 : decode cJ9_floorMod_7cf53 5 = .ok (.iload_n 1, 1) := by decide +kernel
theorem dJ9_floorMod_7cf53_6 : decode cJ9_floorMod_7cf53 6 = .ok (.ixor, 1) := by decide +kernel
theorem dJ9_floorMod_7cf53_7 : decode cJ9_floorMod_7cf53 7 = .ok (.ifCond .ge 11, 3) := by decide +kernel
theorem dJ9_floorMod_7cf53_10 : decode cJ9_floorMod_7cf53 10 = .ok (.iload_n 2, 1) := by decide +kernel
theorem dJ9_floorMod_7cf53_11 : decode cJ9_floorMod_7cf53 11 = .ok (.ifCond .eq 7, 3) := by decide +kernel
theorem dJ9_floorMod_7cf53_14 : decode cJ9_floorMod_7cf53 14 = .ok (.iload_n 2, 1) := by decide +kernel
theorem dJ9_floorMod_7cf53_15 : decode cJ9_floorMod_7cf53 15 = .ok (.iload_n 1, 1) := by decide +kernel
theorem dJ9_floorMod_7cf53_16 : decode cJ9_floorMod_7cf53 16 = .ok (.iadd, 1) := by decide +kernel
theorem dJ9_floorMod_7cf53_17 : decode cJ9_floorMod_7cf53 17 = .ok (.ireturn, 1) := by decide +kernel
theorem dJ9_floorMod_7cf53_18 : decode cJ9_floorMod_7cf53 18 = .ok (.iload_n 2, 1) := by decide +kernel
theorem dJ9_floorMod_7cf53_19 : decode cJ9_floorMod_7cf53 19 = .ok (.ireturn, 1) := by decide +kernel
theorem dX10_isDay_0 : decode cX10_isDay 0 = .ok (.iload_n 0, 1) := by decide +kernel
theorem dX10_isDay_1 : decode cX10_isDay 1 = .ok (.ifCond .lt 13, 3) := by decide +kernel
theorem dX10_isDay_4 : decode cX10_isDay 4 = .ok (.iload_n 0, 1) := by decide +kernel
theorem dX10_isDay_5 : decode cX10_isDay 5 = .ok (.bipush 100, 2) := by decide +kernel
theorem dX10_isDay_7 : decode cX10_isDay 7 = .ok (.if_icmp .ge 7, 3) := by decide +kernel
theorem dX10_isDay_10 : decode cX10_isDay 10 = .ok (.iconst 1, 1) := by decide +kernel
theorem dX10_isDay_11 : decode cX10_isDay 11 = .ok (.goto 4, 3) := by decide +kernel
theorem dX10_isDay_14 : decode cX10_isDay 14 = .ok (.iconst 0, 1) := by decide +kernel
theorem dX10_isDay_15 : decode cX10_isDay 15 = .ok (.ireturn, 1) := by decide +kernel
theorem dX2_atWork_0 : decode cX2_atWork 0 = .ok (.iload_n 1, 1) := by decide +kernel
theorem dX2_atWork_1 : decode cX2_atWork 1 = .ok (.aload_n 0, 1) := by decide +kernel
theorem dX2_atWork_2 : decode cX2_atWork 2 = .ok (.getfield 15, 3) := by decide +kernel
theorem dX2_atWork_5 : decode cX2_atWork 5 = .ok (.iadd, 1) := by decide +kernel
theorem dX2_atWork_6 : decode cX2_atWork 6 = .ok (.iload_n 1, 1) := by decide +kernel
theorem dX2_atWork_7 : decode cX2_atWork 7 = .ok (.aload_n 0, 1) := by decide +kernel
theorem dX2_atWork_8 : decode cX2_atWork 8 = .ok (.getfield 34, 3) := by decide +kernel
theorem dX2_atWork_11 : decode cX2_atWork 11 = .ok (.if_icmp .lt 10, 3) := by decide +kernel
theorem dX2_atWork_14 : decode cX2_atWork 14 = .ok (.aload_n 0, 1) := by decide +kernel
theorem dX2_atWork_15 : decode cX2_atWork 15 = .ok (.getfield 37, 3) := by decide +kernel
theorem dX2_atWork_18 : decode cX2_atWork 18 = .ok (.goto 4, 3) := by decide +kernel
theorem dX2_atWork_21 : decode cX2_atWork 21 = .ok (.iconst 0, 1) := by decide +kernel
theorem dX2_atWork_22 : decode cX2_atWork 22 = .ok (.iadd, 1) := by decide +kernel
theorem dX2_atWork_23 : decode cX2_atWork 23 = .ok (.istore_n 2, 1) := by decide +kernel
theorem dX2_atWork_24 : decode cX2_atWork 24 = .ok (.iload_n 2, 1) := by decide +kernel
theorem dX2_atWork_25 : decode cX2_atWork 25 = .ok (.aload_n 0, 1) := by decide +kernel
theorem dX2_atWork_26 : decode cX2_atWork 26 = .ok (.getfield 19, 3) := by decide +kernel
theorem dX2_atWork_29 : decode cX2_atWork 29 = .ok (.isub, 1) := by decide +kernel
theorem dX2_atWork_30 : decode cX2_atWork 30 = .ok (.bipush 24, 2) := by decide +kernel
theorem dX2_atWork_32 : decode cX2_atWork 32 = .ok (.invokestatic 40, 3) := by decide +kernel
theorem dX2_atWork_35 : decode cX2_atWork 35 = .ok (.istore_n 3, 1) := by decide +kernel
theorem dX2_atWork_36 : decode cX2_atWork 36 = .ok (.iload_n 3, 1) := by decide +kernel
theorem dX2_atWork_37 : decode cX2_atWork 37 = .ok (.aload_n 0, 1) := by decide +kernel
theorem dX2_atWork_38 : decode cX2_atWork 38 = .ok (.getfield 22, 3) := by decide +kernel
theorem dX2_atWork_41 : decode cX2_atWork 41 = .ok (.if_icmp .lt 5, 3) := by decide +kernel
theorem dX2_atWork_44 : decode cX2_atWork 44 = .ok (.iconst 0, 1) := by decide +kernel
theorem dX2_atWork_45 : decode cX2_atWork 45 = .ok (.ireturn, 1) := by decide +kernel
theorem dX2_atWork_46 : decode cX2_atWork 46 = .ok (.iload_n 2, 1) := by decide +kernel
theorem dX2_atWork_47 : decode cX2_atWork 47 = .ok (.iload_n 3, 1) := by decide +kernel
theorem dX2_atWork_48 : decode cX2_atWork 48 = .ok (.isub, 1) := by decide +kernel
theorem dX2_atWork_49 : decode cX2_atWork 49 = .ok (.bipush 24, 2) := by decide +kernel
theorem dX2_atWork_51 : decode cX2_atWork 51 = .ok (.invokestatic 46, 3) := by decide +kernel
theorem dX2_atWork_54 : decode cX2_atWork 54 = .ok (.istore 4, 2) := by decide +kernel
theorem dX2_atWork_56 : decode cX2_atWork 56 = .ok (.iload 4, 2) := by decide +kernel
theorem dX2_atWork_58 : decode cX2_atWork 58 = .ok (.invokestatic 49, 3) := by decide +kernel
theorem dX2_atWork_61 : decode cX2_atWork 61 = .ok (.ifCond .eq 13, 3) := by decide +kernel
theorem dX2_atWork_64 : decode cX2_atWork 64 = .ok (.aload_n 0, 1) := by decide +kernel
theorem dX2_atWork_65 : decode cX2_atWork 65 = .ok (.getfield 9, 3) := by decide +kernel
theorem dX2_atWork_68 : decode cX2_atWork 68 = .ok (.iload 4, 2) := by decide +kernel
theorem dX2_atWork_70 : decode cX2_atWork 70 = .ok (.baload, 1) := by decide +kernel
theorem dX2_atWork_71 : decode cX2_atWork 71 = .ok (.ifCond .ne 7, 3) := by decide +kernel
theorem dX2_atWork_74 : decode cX2_atWork 74 = .ok (.iconst 1, 1) := by decide +kernel
theorem dX2_atWork_75 : decode cX2_atWork 75 = .ok (.goto 4, 3) := by decide +kernel
theorem dX2_atWork_78 : decode cX2_atWork 78 = .ok (.iconst 0, 1) := by decide +kernel
theorem dX2_atWork_79 : decode cX2_atWork 79 = .ok (.ireturn, 1) := by decide +kernel
theorem dX0_refresh_0 : decode cX0_refresh 0 = .ok (.iconst 1, 1) := by decide +kernel
theorem dX0_refresh_1 : decode cX0_refresh 1 = .ok (.iload_n 1, 1) := by decide +kernel
theorem dX0_refresh_2 : decode cX0_refresh 2 = .ok (.ishl, 1) := by decide +kernel
theorem dX0_refresh_3 : decode cX0_refresh 3 = .ok (.istore 4, 2) := by decide +kernel
theorem dX0_refresh_5 : decode cX0_refresh 5 = .ok (.iload_n 2, 1) := by decide +kernel
theorem dX0_refresh_6 : decode cX0_refresh 6 = .ok (.iconst 0, 1) := by decide +kernel
theorem dX0_refresh_7 : decode cX0_refresh 7 = .ok (.invokestatic 38, 3) := by decide +kernel
theorem dX0_refresh_10 : decode cX0_refresh 10 = .ok (.istore 5, 2) := by decide +kernel
theorem dX0_refresh_12 : decode cX0_refresh 12 = .ok (.iload 5, 2) := by decide +kernel
theorem dX0_refresh_14 : decode cX0_refresh 14 = .ok (.iload_n 3, 1) := by decide +kernel
theorem dX0_refresh_15 : decode cX0_refresh 15 = .ok (.if_icmp .ge 63, 3) := by decide +kernel
theorem dX0_refresh_18 : decode cX0_refresh 18 = .ok (.iload 5, 2) := by decide +kernel
theorem dX0_refresh_20 : decode cX0_refresh 20 = .ok (.sipush 2500, 3) := by decide +kernel
theorem dX0_refresh_23 : decode cX0_refresh 23 = .ok (.if_icmp .ge 55, 3) := by decide +kernel
theorem dX0_refresh_26 : decode cX0_refresh 26 = .ok (.aload_n 0, 1) := by decide +kernel
theorem dX0_refresh_27 : decode cX0_refresh 27 = .ok (.getfield 21, 3) := by decide +kernel
theorem dX0_refresh_30 : decode cX0_refresh 30 = .ok (.iload 5, 2) := by decide +kernel
theorem dX0_refresh_32 : decode cX0_refresh 32 = .ok (.aload_n 0, 1) := by decide +kernel
theorem dX0_refresh_33 : decode cX0_refresh 33 = .ok (.getfield 11, 3) := by decide +kernel
theorem dX0_refresh_36 : decode cX0_refresh 36 = .ok (.iload_n 1, 1) := by decide +kernel
theorem dX0_refresh_37 : decode cX0_refresh 37 = .ok (.aaload, 1) := by decide +kernel
theorem dX0_refresh_38 : decode cX0_refresh 38 = .ok (.iload 5, 2) := by decide +kernel
theorem dX0_refresh_40 : decode cX0_refresh 40 = .ok (.invokevirtual 44, 3) := by decide +kernel
theorem dX0_refresh_43 : decode cX0_refresh 43 = .ok (.ifCond .eq 16, 3) := by decide +kernel
theorem dX0_refresh_46 : decode cX0_refresh 46 = .ok (.aload_n 0, 1) := by decide +kernel
theorem dX0_refresh_47 : decode cX0_refresh 47 = .ok (.getfield 21, 3) := by decide +kernel
theorem dX0_refresh_50 : decode cX0_refresh 50 = .ok (.iload 5, 2) := by decide +kernel
theorem dX0_refresh_52 : decode cX0_refresh 52 = .ok (.iaload, 1) := by decide +kernel
theorem dX0_refresh_53 : decode cX0_refresh 53 = .ok (.iload 4, 2) := by decide +kernel
theorem dX0_refresh_55 : decode cX0_refresh 55 = .ok (.ior, 1) := by decide +kernel
theorem dX0_refresh_56 : decode cX0_refresh 56 = .ok (.goto 15, 3) := by decide +kernel
theorem dX0_refresh_59 : decode cX0_refresh 59 = .ok (.aload_n 0, 1) := by decide +kernel
theorem dX0_refresh_60 : decode cX0_refresh 60 = .ok (.getfield 21, 3) := by decide +kernel
theorem dX0_refresh_63 : decode cX0_refresh 63 = .ok (.iload 5, 2) := by decide +kernel
theorem dX0_refresh_65 : decode cX0_refresh 65 = .ok (.iaload, 1) := by decide +kernel
theorem dX0_refresh_66 : decode cX0_refresh 66 = .ok (.iload 4, 2) := by decide +kernel
theorem dX0_refresh_68 : decode cX0_refresh 68 = .ok (.iconst (-1), 1) := by decide +kernel
theorem dX0_refresh_69 : decode cX0_refresh 69 = .ok (.ixor, 1) := by decide +kernel
theorem dX0_refresh_70 : decode cX0_refresh 70 = .ok (.iand, 1) := by decide +kernel
theorem dX0_refresh_71 : decode cX0_refresh 71 = .ok (.iastore, 1) := by decide +kernel
theorem dX0_refresh_72 : decode cX0_refresh 72 = .ok (.iinc 5 1, 3) := by decide +kernel
theorem dX0_refresh_75 : decode cX0_refresh 75 = .ok (.goto (-63), 3) := by decide +kernel
theorem dX0_refresh_78 : decode cX0_refresh 78 = .ok (.iload_n 1, 1) := by decide +kernel
theorem dX0_refresh_79 : decode cX0_refresh 79 = .ok (.sipush 2500, 3) := by decide +kernel
theorem dX0_refresh_82 : decode cX0_refresh 82 = .ok (.imul, 1) := by decide +kernel
theorem dX0_refresh_83 : decode cX0_refresh 83 = .ok (.istore 5, 2) := by decide +kernel
theorem dX0_refresh_85 : decode cX0_refresh 85 = .ok (.iload_n 3, 1) := by decide +kernel
theorem dX0_refresh_86 : decode cX0_refresh 86 = .ok (.sipush 2500, 3) := by decide +kernel
theorem dX0_refresh_89 : decode cX0_refresh 89 = .ok (.invokestatic 48, 3) := by decide +kernel
theorem dX0_refresh_92 : decode cX0_refresh 92 = .ok (.iconst 1, 1) := by decide +kernel
theorem dX0_refresh_93 : decode cX0_refresh 93 = .ok (.isub, 1) := by decide +kernel
theorem dX0_refresh_94 : decode cX0_refresh 94 = .ok (.istore 6, 2) := by decide +kernel
theorem dX0_refresh_96 : decode cX0_refresh 96 = .ok (.iload 6, 2) := by decide +kernel
theorem dX0_refresh_98 : decode cX0_refresh 98 = .ok (.istore 7, 2) := by decide +kernel
theorem dX0_refresh_100 : decode cX0_refresh 100 = .ok (.iload 7, 2) := by decide +kernel
theorem dX0_refresh_102 : decode cX0_refresh 102 = .ok (.ifCond .lt 75, 3) := by decide +kernel
theorem dX0_refresh_105 : decode cX0_refresh 105 = .ok (.iload 7, 2) := by decide +kernel
theorem dX0_refresh_107 : decode cX0_refresh 107 = .ok (.iload_n 2, 1) := by decide +kernel
theorem dX0_refresh_108 : decode cX0_refresh 108 = .ok (.bipush 24, 2) := by decide +kernel
theorem dX0_refresh_110 : decode cX0_refresh 110 = .ok (.isub, 1) := by decide +kernel
theorem dX0_refresh_111 : decode cX0_refresh 111 = .ok (.if_icmp .le 66, 3) := by decide +kernel
theorem dX0_refresh_114 : decode cX0_refresh 114 = .ok (.iload 7, 2) := by decide +kernel
theorem dX0_refresh_116 : decode cX0_refresh 116 = .ok (.iconst 1, 1) := by decide +kernel
theorem dX0_refresh_117 : decode cX0_refresh 117 = .ok (.iadd, 1) := by decide +kernel
theorem dX0_refresh_118 : decode cX0_refresh 118 = .ok (.sipush 2500, 3) := by decide +kernel
theorem dX0_refresh_121 : decode cX0_refresh 121 = .ok (.if_icmp .ge 20, 3) := by decide +kernel
theorem dX0_refresh_124 : decode cX0_refresh 124 = .ok (.aload_n 0, 1) := by decide +kernel
theorem dX0_refresh_125 : decode cX0_refresh 125 = .ok (.getfield 24, 3) := by decide +kernel
theorem dX0_refresh_128 : decode cX0_refresh 128 = .ok (.iload 5, 2) := by decide +kernel
theorem dX0_refresh_130 : decode cX0_refresh 130 = .ok (.iload 7, 2) := by decide +kernel
theorem dX0_refresh_132 : decode cX0_refresh 132 = .ok (.iadd, 1) := by decide +kernel
theorem dX0_refresh_133 : decode cX0_refresh 133 = .ok (.iconst 1, 1) := by decide +kernel
theorem dX0_refresh_134 : decode cX0_refresh 134 = .ok (.iadd, 1) := by decide +kernel
theorem dX0_refresh_135 : decode cX0_refresh 135 = .ok (.iaload, 1) := by decide +kernel
theorem dX0_refresh_136 : decode cX0_refresh 136 = .ok (.iconst 1, 1) := by decide +kernel
theorem dX0_refresh_137 : decode cX0_refresh 137 = .ok (.ishl, 1) := by decide +kernel
theorem dX0_refresh_138 : decode cX0_refresh 138 = .ok (.goto 4, 3) := by decide +kernel
theorem dX0_refresh_141 : decode cX0_refresh 141 = .ok (.iconst 0, 1) := by decide +kernel
theorem dX0_refresh_142 : decode cX0_refresh 142 = .ok (.istore 8, 2) := by decide +kernel
theorem dX0_refresh_144 : decode cX0_refresh 144 = .ok (.aload_n 0, 1) := by decide +kernel
theorem dX0_refresh_145 : decode cX0_refresh 145 = .ok (.getfield 24, 3) := by decide +kernel
theorem dX0_refresh_148 : decode cX0_refresh 148 = .ok (.iload 5, 2) := by decide +kernel
theorem dX0_refresh_150 : decode cX0_refresh 150 = .ok (.iload 7, 2) := by decide +kernel
theorem dX0_refresh_152 : decode cX0_refresh 152 = .ok (.iadd, 1) := by decide +kernel
theorem dX0_refresh_153 : decode cX0_refresh 153 = .ok (.iload 8, 2) := by decide +kernel
theorem dX0_refresh_155 : decode cX0_refresh 155 = .ok (.ldc 51, 2) := by decide +kernel
theorem dX0_refresh_157 : decode cX0_refresh 157 = .ok (.iand, 1) := by decide +kernel
theorem dX0_refresh_158 : decode cX0_refresh 158 = .ok (.aload_n 0, 1) := by decide +kernel
theorem dX0_refresh_159 : decode cX0_refresh 159 = .ok (.getfield 21, 3) := by decide +kernel
theorem dX0_refresh_162 : decode cX0_refresh 162 = .ok (.iload 7, 2) := by decide +kernel
theorem dX0_refresh_164 : decode cX0_refresh 164 = .ok (.iaload, 1) := by decide +kernel
theorem dX0_refresh_165 : decode cX0_refresh 165 = .ok (.iload_n 1, 1) := by decide +kernel
theorem dX0_refresh_166 : decode cX0_refresh 166 = .ok (.ishr, 1) := by decide +kernel
theorem dX0_refresh_167 : decode cX0_refresh 167 = .ok (.iconst 1, 1) := by decide +kernel
theorem dX0_refresh_168 : decode cX0_refresh 168 = .ok (.iand, 1) := by decide +kernel
theorem dX0_refresh_169 : decode cX0_refresh 169 = .ok (.ior, 1) := by decide +kernel
theorem dX0_refresh_170 : decode cX0_refresh 170 = .ok (.iastore, 1) := by decide +kernel
theorem dX0_refresh_171 : decode cX0_refresh 171 = .ok (.iinc 7 (-1), 3) := by decide +kernel
theorem dX0_refresh_174 : decode cX0_refresh 174 = .ok (.goto (-74), 3) := by decide +kernel
theorem dX0_refresh_177 : decode cX0_refresh 177 = .ok (.return_, 1) := by decide +kernel
def f_X0_has (fu : Nat) (x1 : Int32) (m : hM) : Option (Int32 × hM) :=
  if x1 < 0 then (
some (0, m)) else (
if (gI m 1 4) ≤ x1 then (
some (0, m)) else (
some (1, m)))
set_option maxRecDepth 100000 in
set_option maxHeartbeats 4000000 in
theorem c_X0_has (G : hG) (fu : Nat) (x1 : Int32) (m : hM) : Mt vI G 1 yX0_has cX0_has 2 (some .boolean) [hA G 1, .int x1] m (f_X0_has fu x1 m) := by
  refine mt_of (by decide) (Nat.le_of_ble_eq_true rfl) (fun X C K => ?_)
  have C : Cx G X 1 cX0_has 2 RX0 (some .boolean) := C
  show Rf vI G X 0 [(0, hA G 1), (1, .int x1)] [] m _
  unfold f_X0_has
  refine rf_iload_n C (n := 1) (q := 1) dX0_has_0 rfl rfl rfl ?_
  refine rf_if_lt C (tgt := 16) (n := 4) dX0_has_1 (by decide) rfl (fun h1 => ?_) (fun h1 => ?_)
  · refine rf_iconst C (n := 17) (v := 0) dX0_has_16 rfl (by decide) ?_
    exact rf_zret C K (by decide) dX0_has_17
  · refine rf_iload_n C (n := 5) (q := 1) dX0_has_4 rfl rfl rfl ?_
    refine rf_aload_n C (n := 6) (q := 0) dX0_has_5 rfl rfl rfl ?_
    refine rf_getI C (n := 9) fl_RX0_27 ly_1 rfl dX0_has_6 rfl ?_
    refine rf_icmp_ge C (tgt := 16) (n := 12) dX0_has_9 (by decide) rfl (fun h2 => ?_) (fun h2 => ?_)
    · refine rf_iconst C (n := 17) (v := 0) dX0_has_16 rfl (by decide) ?_
      exact rf_zret C K (by decide) dX0_has_17
    · refine rf_iconst C (n := 13) (v := 1) dX0_has_12 rfl (by decide) ?_
      refine rf_goto C (n := 17) dX0_has_13 (by decide) ?_
      exact rf_zret C K (by decide) dX0_has_17
def f_J9_max_7cf53 (fu : Nat) (x0 : Int32) (x1 : Int32) (m : hM) : Option (Int32 × hM) :=
  if x0 < x1 then (
some (x1, m)) else (
some (x0, m))
set_option maxRecDepth 100000 in
set_option maxHeartbeats 4000000 in
theorem c_J9_max_7cf53 (G : hG) (fu : Nat) (x0 : Int32) (x1 : Int32) (m : hM) : Mt vI G 1 yJ9_max_7cf53 cJ9_max_7cf53 2 (some .int) [.int x0, .int x1] m (f_J9_max_7cf53 fu x0 x1 m) := by
  refine mt_of (by decide) (Nat.le_of_ble_eq_true rfl) (fun X C K => ?_)
  have C : Cx G X 1 cJ9_max_7cf53 2 RJ9 (some .int) := C
  show Rf vI G X 0 [(0, .int x0), (1, .int x1)] [] m _
  unfold f_J9_max_7cf53
  refine rf_iload_n C (n := 1) (q := 0) dJ9_max_7cf53_0 rfl rfl rfl ?_
  refine rf_iload_n C (n := 2) (q := 1) dJ9_max_7cf53_1 rfl rfl rfl ?_
  refine rf_icmp_lt C (tgt := 9) (n := 5) dJ9_max_7cf53_2 (by decide) rfl (fun h1 => ?_) (fun h1 => ?_)
  · refine rf_iload_n C (n := 10) (q := 1) dJ9_max_7cf53_9 rfl rfl rfl ?_
    exact rf_iret C K dJ9_max_7cf53_10
  · refine rf_iload_n C (n := 6) (q := 0) dJ9_max_7cf53_5 rfl rfl rfl ?_
    refine rf_goto C (n := 10) dJ9_max_7cf53_6 (by decide) ?_
    exact rf_iret C K dJ9_max_7cf53_10
def f_J9_min_7cf53 (fu : Nat) (x0 : Int32) (x1 : Int32) (m : hM) : Option (Int32 × hM) :=
  if x1 < x0 then (
some (x1, m)) else (
some (x0, m))
set_option maxRecDepth 100000 in
set_option maxHeartbeats 4000000 in
theorem c_J9_min_7cf53 (G : hG) (fu : Nat) (x0 : Int32) (x1 : Int32) (m : hM) : Mt vI G 1 yJ9_min_7cf53 cJ9_min_7cf53 2 (some .int) [.int x0, .int x1] m (f_J9_min_7cf53 fu x0 x1 m) := by
  refine mt_of (by decide) (Nat.le_of_ble_eq_true rfl) (fun X C K => ?_)
  have C : Cx G X 1 cJ9_min_7cf53 2 RJ9 (some .int) := C
  show Rf vI G X 0 [(0, .int x0), (1, .int x1)] [] m _
  unfold f_J9_min_7cf53
  refine rf_iload_n C (n := 1) (q := 0) dJ9_min_7cf53_0 rfl rfl rfl ?_
  refine rf_iload_n C (n := 2) (q := 1) dJ9_min_7cf53_1 rfl rfl rfl ?_
  refine rf_icmp_gt C (tgt := 9) (n := 5) dJ9_min_7cf53_2 (by decide) rfl (fun h1 => ?_) (fun h1 => ?_)
  · refine rf_iload_n C (n := 10) (q := 1) dJ9_min_7cf53_9 rfl rfl rfl ?_
    exact rf_iret C K dJ9_min_7cf53_10
  · refine rf_iload_n C (n := 6) (q := 0) dJ9_min_7cf53_5 rfl rfl rfl ?_
    refine rf_goto C (n := 10) dJ9_min_7cf53_6 (by decide) ?_
    exact rf_iret C K dJ9_min_7cf53_10
def f_J9_floorDiv_7cf53 (fu : Nat) (x0 : Int32) (x1 : Int32) (m : hM) : Option (Int32 × hM) :=
  if ¬ x1 = 0 then (
hLet (x0 / x1) fun y2 =>
if 0 ≤ (x0 ^^^ x1) then (
some (y2, m)) else (
if (y2 * x1) = x0 then (
some (y2, m)) else (
some (y2 - 1, m)))) else none
set_option maxRecDepth 100000 in
set_option maxHeartbeats 4000000 in
theorem c_J9_floorDiv_7cf53 (G : hG) (fu : Nat) (x0 : Int32) (x1 : Int32) (m : hM) : Mt vI G 1 yJ9_floorDiv_7cf53 cJ9_floorDiv_7cf53 3 (some .int) [.int x0, .int x1] m (f_J9_floorDiv_7cf53 fu x0 x1 m) := by
  refine mt_of (by decide) (Nat.le_of_ble_eq_true rfl) (fun X C K => ?_)
  have C : Cx G X 1 cJ9_floorDiv_7cf53 3 RJ9 (some .int) := C
  show Rf vI G X 0 [(0, .int x0), (1, .int x1)] [] m _
  unfold f_J9_floorDiv_7cf53
  refine rf_iload_n C (n := 1) (q := 0) dJ9_floorDiv_7cf53_0 rfl rfl rfl ?_
  refine rf_iload_n C (n := 2) (q := 1) dJ9_floorDiv_7cf53_1 rfl rfl rfl ?_
  refine rf_guard (fun h1 => ?_)
  refine rf_idiv C (n := 3) dJ9_floorDiv_7cf53_2 rfl h1 ?_
  refine rf_letI (fun y2 => ?_)
  refine rf_istore_n C (n := 4) [(2, .int y2), (0, .int x0), (1, .int x1)] dJ9_floorDiv_7cf53_3 rfl rfl (by decide) rfl ?_
  refine rf_iload_n C (n := 5) (q := 1) dJ9_floorDiv_7cf53_4 rfl rfl rfl ?_
  refine rf_iload_n C (n := 6) (q := 2) dJ9_floorDiv_7cf53_5 rfl rfl rfl ?_
  refine rf_ixor C (n := 7) dJ9_floorDiv_7cf53_6 rfl ?_
  refine rf_if_ge C (tgt := 21) (n := 10) dJ9_floorDiv_7cf53_7 (by decide) rfl (fun h3 => ?_) (fun h3 => ?_)
  · refine rf_iload_n C (n := 22) (q := 0) dJ9_floorDiv_7cf53_21 rfl rfl rfl ?_
    exact rf_iret C K dJ9_floorDiv_7cf53_22
  · refine rf_iload_n C (n := 11) (q := 0) dJ9_floorDiv_7cf53_10 rfl rfl rfl ?_
    refine rf_iload_n C (n := 12) (q := 2) dJ9_floorDiv_7cf53_11 rfl rfl rfl ?_
    refine rf_imul C (n := 13) dJ9_floorDiv_7cf53_12 rfl ?_
    refine rf_iload_n C (n := 14) (q := 1) dJ9_floorDiv_7cf53_13 rfl rfl rfl ?_
    refine rf_icmp_eq C (tgt := 21) (n := 17) dJ9_floorDiv_7cf53_14 (by decide) rfl (fun h4 => ?_) (fun h4 => ?_)
    · refine rf_iload_n C (n := 22) (q := 0) dJ9_floorDiv_7cf53_21 rfl rfl rfl ?_
      exact rf_iret C K dJ9_floorDiv_7cf53_22
    · refine rf_iload_n C (n := 18) (q := 0) dJ9_floorDiv_7cf53_17 rfl rfl rfl ?_
      refine rf_iconst C (n := 19) (v := 1) dJ9_floorDiv_7cf53_18 rfl (by decide) ?_
      refine rf_isub C (n := 20) dJ9_floorDiv_7cf53_19 rfl ?_
      exact rf_iret C K dJ9_floorDiv_7cf53_20
def f_J9_floorMod_7cf53 (fu : Nat) (x0 : Int32) (x1 : Int32) (m : hM) : Option (Int32 × hM) :=
  if ¬ x1 = 0 then (
hLet (x0 - x0 / x1 * x1) fun y2 =>
if 0 ≤ (x0 ^^^ x1) then (
some (y2, m)) else (
if y2 = 0 then (
some (y2, m)) else (
some (y2 + x1, m)))) else none
set_option maxRecDepth 100000 in
set_option maxHeartbeats 4000000 in
theorem c_J9_floorMod_7cf53 (G : hG) (fu : Nat) (x0 : Int32) (x1 : Int32) (m : hM) : Mt vI G 1 yJ9_floorMod_7cf53 cJ9_floorMod_7cf53 3 (some .int) [.int x0, .int x1] m (f_J9_floorMod_7cf53 fu x0 x1 m) := by
  refine mt_of (by decide) (Nat.le_of_ble_eq_true rfl) (fun X C K => ?_)
  have C : Cx G X 1 cJ9_floorMod_7cf53 3 RJ9 (some .int) := C
  show Rf vI G X 0 [(0, .int x0), (1, .int x1)] [] m _
  unfold f_J9_floorMod_7cf53
  refine rf_iload_n C (n := 1) (q := 0) dJ9_floorMod_7cf53_0 rfl rfl rfl ?_
  refine rf_iload_n C (n := 2) (q := 1) dJ9_floorMod_7cf53_1 rfl rfl rfl ?_
  refine rf_guard (fun h1 => ?_)
  refine rf_irem C (n := 3) dJ9_floorMod_7cf53_2 rfl h1 ?_
  refine rf_letI (fun y2 => ?_)
  refine rf_istore_n C (n := 4) [(2, .int y2), (0, .int x0), (1, .int x1)] dJ9_floorMod_7cf53_3 rfl rfl (by decide) rfl ?_
  refine rf_iload_n C (n := 5) (q := 1) dJ9_floorMod_7cf53_4 rfl rfl rfl ?_
  refine rf_iload_n C (n := 6) (q := 2) dJ9_floorMod_7cf53_5 rfl rfl rfl ?_
  refine rf_ixor C (n := 7) dJ9_floorMod_7cf53_6 rfl ?_
  refine rf_if_ge C (tgt := 18) (n := 10) dJ9_floorMod_7cf53_7 (by decide) rfl (fun h3 => ?_) (fun h3 => ?_)
  · refine rf_iload_n C (n := 19) (q := 0) dJ9_floorMod_7cf53_18 rfl rfl rfl ?_
    exact rf_iret C K dJ9_floorMod_7cf53_19
  · refine rf_iload_n C (n := 11) (q := 0) dJ9_floorMod_7cf53_10 rfl rfl rfl ?_
    refine rf_if_eq C (tgt := 18) (n := 14) dJ9_floorMod_7cf53_11 (by decide) rfl (fun h4 => ?_) (fun h4 => ?_)
    · refine rf_iload_n C (n := 19) (q := 0) dJ9_floorMod_7cf53_18 rfl rfl rfl ?_
      exact rf_iret C K dJ9_floorMod_7cf53_19
    · refine rf_iload_n C (n := 15) (q := 0) dJ9_floorMod_7cf53_14 rfl rfl rfl ?_
      refine rf_iload_n C (n := 16) (q := 2) dJ9_floorMod_7cf53_15 rfl rfl rfl ?_
      refine rf_iadd C (n := 17) dJ9_floorMod_7cf53_16 rfl ?_
      exact rf_iret C K dJ9_floorMod_7cf53_17
def f_X10_isDay (fu : Nat) (x0 : Int32) (m : hM) : Option (Int32 × hM) :=
  if x0 < 0 then (
some (0, m)) else (
if 100 ≤ x0 then (
some (0, m)) else (
some (1, m)))
set_option maxRecDepth 100000 in
set_option maxHeartbeats 4000000 in
theorem c_X10_isDay (G : hG) (fu : Nat) (x0 : Int32) (m : hM) : Mt vI G 1 yX10_isDay cX10_isDay 1 (some .boolean) [.int x0] m (f_X10_isDay fu x0 m) := by
  refine mt_of (by decide) (Nat.le_of_ble_eq_true rfl) (fun X C K => ?_)
  have C : Cx G X 1 cX10_isDay 1 RX10 (some .boolean) := C
  show Rf vI G X 0 [(0, .int x0)] [] m _
  unfold f_X10_isDay
  refine rf_iload_n C (n := 1) (q := 0) dX10_isDay_0 rfl rfl rfl ?_
  refine rf_if_lt C (tgt := 14) (n := 4) dX10_isDay_1 (by decide) rfl (fun h1 => ?_) (fun h1 => ?_)
  · refine rf_iconst C (n := 15) (v := 0) dX10_isDay_14 rfl (by decide) ?_
    exact rf_zret C K (by decide) dX10_isDay_15
  · refine rf_iload_n C (n := 5) (q := 0) dX10_isDay_4 rfl rfl rfl ?_
    refine rf_bipush C (n := 7) (v := 100) dX10_isDay_5 rfl (by decide) ?_
    refine rf_icmp_ge C (tgt := 14) (n := 10) dX10_isDay_7 (by decide) rfl (fun h2 => ?_) (fun h2 => ?_)
    · refine rf_iconst C (n := 15) (v := 0) dX10_isDay_14 rfl (by decide) ?_
      exact rf_zret C K (by decide) dX10_isDay_15
    · refine rf_iconst C (n := 11) (v := 1) dX10_isDay_10 rfl (by decide) ?_
      refine rf_goto C (n := 15) dX10_isDay_11 (by decide) ?_
      exact rf_zret C K (by decide) dX10_isDay_15
def f_X2_atWork_22 (fu : Nat) (a0 : Nat) (s0 : Int32) (s1 : Int32) (m : hM) : Option (Int32 × hM) :=
  hLet (s0 + s1) fun y2 =>
hBd (f_J9_floorMod_7cf53 fu (y2 - (gI m a0 1)) 24 m) fun y3 m4 =>
if y3 < (gI m4 a0 2) then (
hBd (f_J9_floorDiv_7cf53 fu (y2 - y3) 24 m4) fun y6 m7 =>
hBd (f_X10_isDay fu y6 m7) fun y8 m9 =>
if y8 = 0 then (
some (1, m9)) else (
if hIn y6 100 then (
if ¬ (gI m9 (a0 + 1) (Int32.toNatClampNeg y6)) = 0 then (
some (0, m9)) else (
some (1, m9))) else none)) else (
some (0, m4))
set_option maxRecDepth 100000 in
set_option maxHeartbeats 4000000 in
theorem r_X2_atWork_22 {G : hG} {X : hX} (C : Cx G X 2 cX2_atWork 5 RX2 (some .boolean)) (K : Cr G X) (fu : Nat) (a0 : Nat) (ha0 : a0 ∈ ofL) (s0 : Int32) (s1 : Int32) (m : hM) : Rf vI G X 22 [(0, hA G a0)] [.int s1, .int s0] m (f_X2_atWork_22 fu a0 s0 s1 m) := by
  unfold f_X2_atWork_22
  refine rf_iadd C (n := 23) dX2_atWork_22 rfl ?_
  refine rf_letI (fun y2 => ?_)
  refine rf_istore_n C (n := 24) [(2, .int y2), (0, hA G a0)] dX2_atWork_23 rfl rfl (by decide) rfl ?_
  refine rf_iload_n C (n := 25) (q := 0) dX2_atWork_24 rfl rfl rfl ?_
  refine rf_aload_n C (n := 26) (q := 1) dX2_atWork_25 rfl rfl rfl ?_
  refine rf_getI C (n := 29) fl_RX2_19 (pO_l ha0) rfl dX2_atWork_26 rfl ?_
  refine rf_isub C (n := 30) dX2_atWork_29 rfl ?_
  refine rf_bipush C (n := 32) (v := 24) dX2_atWork_30 rfl (by decide) ?_
  refine rf_callSi C (n := 35) (c_J9_floorMod_7cf53 G fu _ _ _) sw_RX2_40 ⟨by decide, by decide⟩ rfl (Nat.le_of_ble_eq_true rfl) rfl dX2_atWork_32 rfl (fun y3 m4 => ?_)
  refine rf_istore_n C (n := 36) [(3, .int y3), (2, .int y2), (0, hA G a0)] dX2_atWork_35 rfl rfl (by decide) rfl ?_
  refine rf_iload_n C (n := 37) (q := 0) dX2_atWork_36 rfl rfl rfl ?_
  refine rf_aload_n C (n := 38) (q := 2) dX2_atWork_37 rfl rfl rfl ?_
  refine rf_getI C (n := 41) fl_RX2_22 (pO_l ha0) rfl dX2_atWork_38 rfl ?_
  refine rf_icmp_lt C (tgt := 46) (n := 44) dX2_atWork_41 (by decide) rfl (fun h5 => ?_) (fun h5 => ?_)
  · refine rf_iload_n C (n := 47) (q := 1) dX2_atWork_46 rfl rfl rfl ?_
    refine rf_iload_n C (n := 48) (q := 0) dX2_atWork_47 rfl rfl rfl ?_
    refine rf_isub C (n := 49) dX2_atWork_48 rfl ?_
    refine rf_bipush C (n := 51) (v := 24) dX2_atWork_49 rfl (by decide) ?_
    refine rf_callSi C (n := 54) (c_J9_floorDiv_7cf53 G fu _ _ _) sw_RX2_46 ⟨by decide, by decide⟩ rfl (Nat.le_of_ble_eq_true rfl) rfl dX2_atWork_51 rfl (fun y6 m7 => ?_)
    refine rf_istore C (n := 56) [(4, .int y6), (3, .int y3), (2, .int y2), (0, hA G a0)] dX2_atWork_54 rfl (by decide) rfl ?_
    refine rf_iload C (n := 58) (q := 0) dX2_atWork_56 rfl rfl ?_
    refine rf_callNi C (n := 61) (c_X10_isDay G fu _ _) nw_RX2_49 ⟨by decide, by decide⟩ rfl (Nat.le_of_ble_eq_true rfl) rfl dX2_atWork_58 rfl (fun y8 m9 => ?_)
    refine rf_if_eq C (tgt := 74) (n := 64) dX2_atWork_61 (by decide) rfl (fun h10 => ?_) (fun h10 => ?_)
    · refine rf_iconst C (n := 75) (v := 1) dX2_atWork_74 rfl (by decide) ?_
      refine rf_goto C (n := 79) dX2_atWork_75 (by decide) ?_
      exact rf_zret C K (by decide) dX2_atWork_79
    · refine rf_aload_n C (n := 65) (q := 3) dX2_atWork_64 rfl rfl rfl ?_
      refine rf_getS C (n := 68) fl_RX2_9 (pO_l ha0) rfl dX2_atWork_65 rfl ?_
      refine rf_iload C (n := 70) (q := 0) dX2_atWork_68 rfl rfl ?_
      refine rf_guard (fun h11 => ?_)
      refine rf_zald C (n := 71) (of_a1 ha0) h11 rfl dX2_atWork_70 rfl ?_
      refine rf_if_ne C (tgt := 78) (n := 74) dX2_atWork_71 (by decide) rfl (fun h12 => ?_) (fun h12 => ?_)
      · refine rf_iconst C (n := 79) (v := 0) dX2_atWork_78 rfl (by decide) ?_
        exact rf_zret C K (by decide) dX2_atWork_79
      · refine rf_iconst C (n := 75) (v := 1) dX2_atWork_74 rfl (by decide) ?_
        refine rf_goto C (n := 79) dX2_atWork_75 (by decide) ?_
        exact rf_zret C K (by decide) dX2_atWork_79
  · refine rf_iconst C (n := 45) (v := 0) dX2_atWork_44 rfl (by decide) ?_
    exact rf_zret C K (by decide) dX2_atWork_45
def f_X2_atWork (fu : Nat) (a0 : Nat) (x1 : Int32) (m : hM) : Option (Int32 × hM) :=
  if a0 ∈ ofL then (if x1 < (gI m a0 6) then (
f_X2_atWork_22 fu a0 (x1 + (gI m a0 0)) 0 m) else (
f_X2_atWork_22 fu a0 (x1 + (gI m a0 0)) (gI m a0 7) m)) else none
set_option maxRecDepth 100000 in
set_option maxHeartbeats 4000000 in
theorem c_X2_atWork (G : hG) (fu : Nat) (a0 : Nat) (x1 : Int32) (m : hM) : Mt vI G 2 yX2_atWork cX2_atWork 5 (some .boolean) [hA G a0, .int x1] m (f_X2_atWork fu a0 x1 m) := by
  refine mt_of (by decide) (Nat.le_of_ble_eq_true rfl) (fun X C K => ?_)
  have C : Cx G X 2 cX2_atWork 5 RX2 (some .boolean) := C
  show Rf vI G X 0 [(0, hA G a0), (1, .int x1)] [] m _
  unfold f_X2_atWork
  refine rf_guard (fun ha0 => ?_)
  refine rf_iload_n C (n := 1) (q := 1) dX2_atWork_0 rfl rfl rfl ?_
  refine rf_aload_n C (n := 2) (q := 0) dX2_atWork_1 rfl rfl rfl ?_
  refine rf_getI C (n := 5) fl_RX2_15 (pO_l ha0) rfl dX2_atWork_2 rfl ?_
  refine rf_iadd C (n := 6) dX2_atWork_5 rfl ?_
  refine rf_iload_n C (n := 7) (q := 1) dX2_atWork_6 rfl rfl rfl ?_
  refine rf_aload_n C (n := 8) (q := 0) dX2_atWork_7 rfl rfl rfl ?_
  refine rf_getI C (n := 11) fl_RX2_34 (pO_l ha0) rfl dX2_atWork_8 rfl ?_
  refine rf_icmp_lt C (tgt := 21) (n := 14) dX2_atWork_11 (by decide) rfl (fun h1 => ?_) (fun h1 => ?_)
  · refine rf_iconst C (n := 22) (v := 0) dX2_atWork_21 rfl (by decide) ?_
    exact rf_lv _ [0] rfl (r_X2_atWork_22 C K fu _ ha0 _ _ _)
  · refine rf_aload_n C (n := 15) (q := 0) dX2_atWork_14 rfl rfl rfl ?_
    refine rf_getI C (n := 18) fl_RX2_37 (pO_l ha0) rfl dX2_atWork_15 rfl ?_
    refine rf_goto C (n := 22) dX2_atWork_18 (by decide) ?_
    exact rf_lv _ [0] rfl (r_X2_atWork_22 C K fu _ ha0 _ _ _)
def f_X0_refresh_142 (fu : Nat) (k100 : Int32 → Int32 → Int32 → Int32 → hM → Option (Unit × hM)) (x1 : Int32) (x2 : Int32) (x5 : Int32) (x7 : Int32) (s0 : Int32) (m : hM) : Option (Unit × hM) :=
  if hIn x7 2500 then (
if hIn (x5 + x7) 15000 then (
hLet (sI m 5 (Int32.toNatClampNeg (x5 + x7)) ((s0 &&& 16777215) ||| (((gI m 4 (Int32.toNatClampNeg x7)) >>> (x1 &&& 31)) &&& 1))) fun m14 =>
hLet (x7 + (-1)) fun y15 =>
k100 x1 x2 x5 y15 m14) else none) else none
set_option maxRecDepth 100000 in
set_option maxHeartbeats 4000000 in
theorem r_X0_refresh_142 {G : hG} {X : hX} (C : Cx G X 3 cX0_refresh 9 RX0 none) (K : Cr G X) (fu : Nat) (k100 : Int32 → Int32 → Int32 → Int32 → hM → Option (Unit × hM)) (hk100 : ∀ (x1 : Int32) (x2 : Int32) (x5 : Int32) (x7 : Int32) (m : hM), Rf vU G X 100 [(0, hA G 1), (1, .int x1), (2, .int x2), (5, .int x5), (7, .int x7)] [] m (k100 x1 x2 x5 x7 m)) (x1 : Int32) (x2 : Int32) (x5 : Int32) (x7 : Int32) (s0 : Int32) (m : hM) : Rf vU G X 142 [(0, hA G 1), (1, .int x1), (2, .int x2), (5, .int x5), (7, .int x7)] [.int s0] m (f_X0_refresh_142 fu k100 x1 x2 x5 x7 s0 m) := by
  unfold f_X0_refresh_142
  refine rf_istore C (n := 144) [(8, .int s0), (0, hA G 1), (1, .int x1), (2, .int x2), (5, .int x5), (7, .int x7)] dX0_refresh_142 rfl (by decide) rfl ?_
  refine rf_aload_n C (n := 145) (q := 1) dX0_refresh_144 rfl rfl rfl ?_
  refine rf_getS C (n := 148) fl_RX0_24 ly_1 rfl dX0_refresh_145 rfl ?_
  refine rf_iload C (n := 150) (q := 4) dX0_refresh_148 rfl rfl ?_
  refine rf_iload C (n := 152) (q := 5) dX0_refresh_150 rfl rfl ?_
  refine rf_iadd C (n := 153) dX0_refresh_152 rfl ?_
  refine rf_iload C (n := 155) (q := 0) dX0_refresh_153 rfl rfl ?_
  refine rf_ldc C (n := 157) dX0_refresh_155 rfl kc_RX0_51 ?_
  refine rf_iand C (n := 158) dX0_refresh_157 rfl ?_
  refine rf_aload_n C (n := 159) (q := 1) dX0_refresh_158 rfl rfl rfl ?_
  refine rf_getS C (n := 162) fl_RX0_21 ly_1 rfl dX0_refresh_159 rfl ?_
  refine rf_iload C (n := 164) (q := 5) dX0_refresh_162 rfl rfl ?_
  refine rf_guard (fun h12 => ?_)
  refine rf_iald C (n := 165) ly_4 h12 rfl dX0_refresh_164 rfl ?_
  refine rf_iload_n C (n := 166) (q := 2) dX0_refresh_165 rfl rfl rfl ?_
  refine rf_ishr C (n := 167) dX0_refresh_166 rfl ?_
  refine rf_iconst C (n := 168) (v := 1) dX0_refresh_167 rfl (by decide) ?_
  refine rf_iand C (n := 169) dX0_refresh_168 rfl ?_
  refine rf_ior C (n := 170) dX0_refresh_169 rfl ?_
  refine rf_guard (fun h13 => ?_)
  refine rf_iast C (n := 171) ly_5 h13 rfl dX0_refresh_170 rfl ?_
  refine rf_letM (fun m14 => ?_)
  refine rf_iinc2 C (n := 174) (q := 5) (fun y15 => [(7, .int y15), (8, .int s0), (0, hA G 1), (1, .int x1), (2, .int x2), (5, .int x5)]) dX0_refresh_171 rfl rfl (by decide) (by decide) (fun _ => rfl) (fun y15 => ?_)
  refine rf_goto C (n := 100) dX0_refresh_174 (by decide) ?_
  exact rf_lv _ [2, 3, 4, 5, 0] rfl (hk100 _ _ _ _ _)
def s_X0_refresh_100 (fu : Nat) (ih : Int32 → Int32 → Int32 → Int32 → hM → Option (Unit × hM)) (x1 : Int32) (x2 : Int32) (x5 : Int32) (x7 : Int32) (m : hM) : Option (Unit × hM) :=
  if x7 < 0 then (
some ((), m)) else (
if x7 ≤ (x2 - 24) then (
some ((), m)) else (
if 2500 ≤ (x7 + 1) then (
f_X0_refresh_142 fu ih x1 x2 x5 x7 0 m) else (
if hIn ((x5 + x7) + 1) 15000 then (
f_X0_refresh_142 fu ih x1 x2 x5 x7 ((gI m 5 (Int32.toNatClampNeg ((x5 + x7) + 1))) <<< (1 &&& 31)) m) else none)))
noncomputable def f_X0_refresh_100 (fu : Nat) (n : Nat) : Int32 → Int32 → Int32 → Int32 → hM → Option (Unit × hM) :=
  Nat.rec (motive := fun _ => Int32 → Int32 → Int32 → Int32 → hM → Option (Unit × hM)) (fun _ _ _ _ _ => none) (fun _ ih => s_X0_refresh_100 fu ih) n
theorem f_X0_refresh_100_s (fu : Nat) (n : Nat) (x1 : Int32) (x2 : Int32) (x5 : Int32) (x7 : Int32) (m : hM) : f_X0_refresh_100 fu (n + 1) x1 x2 x5 x7 m = s_X0_refresh_100 fu (f_X0_refresh_100 fu n) x1 x2 x5 x7 m := rfl
set_option maxRecDepth 100000 in
set_option maxHeartbeats 4000000 in
theorem r_X0_refresh_100 {G : hG} {X : hX} (C : Cx G X 3 cX0_refresh 9 RX0 none) (K : Cr G X) (fu : Nat) (n : Nat) : ∀ (x1 : Int32) (x2 : Int32) (x5 : Int32) (x7 : Int32) (m : hM), Rf vU G X 100 [(0, hA G 1), (1, .int x1), (2, .int x2), (5, .int x5), (7, .int x7)] [] m (f_X0_refresh_100 fu n x1 x2 x5 x7 m) := by
  induction n with
  | zero => intros; exact rf_none
  | succ n ih =>
    intro x1 x2 x5 x7 m
    show Rf vU G X 100 [(0, hA G 1), (1, .int x1), (2, .int x2), (5, .int x5), (7, .int x7)] [] m (s_X0_refresh_100 fu (f_X0_refresh_100 fu n) x1 x2 x5 x7 m)
    unfold s_X0_refresh_100
    refine rf_iload C (n := 102) (q := 4) dX0_refresh_100 rfl rfl ?_
    refine rf_if_lt C (tgt := 177) (n := 105) dX0_refresh_102 (by decide) rfl (fun h9 => ?_) (fun h9 => ?_)
    · exact rf_vret C K dX0_refresh_177
    · refine rf_iload C (n := 107) (q := 4) dX0_refresh_105 rfl rfl ?_
      refine rf_iload_n C (n := 108) (q := 2) dX0_refresh_107 rfl rfl rfl ?_
      refine rf_bipush C (n := 110) (v := 24) dX0_refresh_108 rfl (by decide) ?_
      refine rf_isub C (n := 111) dX0_refresh_110 rfl ?_
      refine rf_icmp_le C (tgt := 177) (n := 114) dX0_refresh_111 (by decide) rfl (fun h10 => ?_) (fun h10 => ?_)
      · exact rf_vret C K dX0_refresh_177
      · refine rf_iload C (n := 116) (q := 4) dX0_refresh_114 rfl rfl ?_
        refine rf_iconst C (n := 117) (v := 1) dX0_refresh_116 rfl (by decide) ?_
        refine rf_iadd C (n := 118) dX0_refresh_117 rfl ?_
        refine rf_sipush C (n := 121) (v := 2500) dX0_refresh_118 rfl (by decide) ?_
        refine rf_icmp_ge C (tgt := 141) (n := 124) dX0_refresh_121 (by decide) rfl (fun h11 => ?_) (fun h11 => ?_)
        · refine rf_iconst C (n := 142) (v := 0) dX0_refresh_141 rfl (by decide) ?_
          exact rf_lv _ [0, 1, 2, 3, 4] rfl (r_X0_refresh_142 C K fu _ ih _ _ _ _ _ _)
        · refine rf_aload_n C (n := 125) (q := 0) dX0_refresh_124 rfl rfl rfl ?_
          refine rf_getS C (n := 128) fl_RX0_24 ly_1 rfl dX0_refresh_125 rfl ?_
          refine rf_iload C (n := 130) (q := 3) dX0_refresh_128 rfl rfl ?_
          refine rf_iload C (n := 132) (q := 4) dX0_refresh_130 rfl rfl ?_
          refine rf_iadd C (n := 133) dX0_refresh_132 rfl ?_
          refine rf_iconst C (n := 134) (v := 1) dX0_refresh_133 rfl (by decide) ?_
          refine rf_iadd C (n := 135) dX0_refresh_134 rfl ?_
          refine rf_guard (fun h16 => ?_)
          refine rf_iald C (n := 136) ly_5 h16 rfl dX0_refresh_135 rfl ?_
          refine rf_iconst C (n := 137) (v := 1) dX0_refresh_136 rfl (by decide) ?_
          refine rf_ishl C (n := 138) dX0_refresh_137 rfl ?_
          refine rf_goto C (n := 142) dX0_refresh_138 (by decide) ?_
          exact rf_lv _ [0, 1, 2, 3, 4] rfl (r_X0_refresh_142 C K fu _ ih _ _ _ _ _ _)
def f_X0_refresh_78 (fu : Nat) (x1 : Int32) (x2 : Int32) (x3 : Int32) (m : hM) : Option (Unit × hM) :=
  hLet (x1 * 2500) fun y5 =>
hBd (f_J9_min_7cf53 fu x3 2500 m) fun y6 m7 =>
hLet (y6 - 1) fun y8 =>
f_X0_refresh_100 fu fu x1 x2 y5 y8 m7
set_option maxRecDepth 100000 in
set_option maxHeartbeats 4000000 in
theorem r_X0_refresh_78 {G : hG} {X : hX} (C : Cx G X 3 cX0_refresh 9 RX0 none) (K : Cr G X) (fu : Nat) (x1 : Int32) (x2 : Int32) (x3 : Int32) (m : hM) : Rf vU G X 78 [(0, hA G 1), (1, .int x1), (2, .int x2), (3, .int x3)] [] m (f_X0_refresh_78 fu x1 x2 x3 m) := by
  unfold f_X0_refresh_78
  refine rf_iload_n C (n := 79) (q := 1) dX0_refresh_78 rfl rfl rfl ?_
  refine rf_sipush C (n := 82) (v := 2500) dX0_refresh_79 rfl (by decide) ?_
  refine rf_imul C (n := 83) dX0_refresh_82 rfl ?_
  refine rf_letI (fun y5 => ?_)
  refine rf_istore C (n := 85) [(5, .int y5), (0, hA G 1), (1, .int x1), (2, .int x2), (3, .int x3)] dX0_refresh_83 rfl (by decide) rfl ?_
  refine rf_iload_n C (n := 86) (q := 4) dX0_refresh_85 rfl rfl rfl ?_
  refine rf_sipush C (n := 89) (v := 2500) dX0_refresh_86 rfl (by decide) ?_
  refine rf_callSi C (n := 92) (c_J9_min_7cf53 G fu _ _ _) sw_RX0_48 ⟨by decide, by decide⟩ rfl (Nat.le_of_ble_eq_true rfl) rfl dX0_refresh_89 rfl (fun y6 m7 => ?_)
  refine rf_iconst C (n := 93) (v := 1) dX0_refresh_92 rfl (by decide) ?_
  refine rf_isub C (n := 94) dX0_refresh_93 rfl ?_
  refine rf_letI (fun y8 => ?_)
  refine rf_istore C (n := 96) [(6, .int y8), (5, .int y5), (0, hA G 1), (1, .int x1), (2, .int x2), (3, .int x3)] dX0_refresh_94 rfl (by decide) rfl ?_
  refine rf_iload C (n := 98) (q := 0) dX0_refresh_96 rfl rfl ?_
  refine rf_istore C (n := 100) [(7, .int y8), (6, .int y8), (5, .int y5), (0, hA G 1), (1, .int x1), (2, .int x2), (3, .int x3)] dX0_refresh_98 rfl (by decide) rfl ?_
  exact rf_lv _ [3, 4, 5, 2, 0] rfl (r_X0_refresh_100 C K fu fu _ _ _ _ _)
def f_X0_refresh_71 (fu : Nat) (k12 : Int32 → Int32 → Int32 → Int32 → Int32 → hM → Option (Unit × hM)) (x1 : Int32) (x2 : Int32) (x3 : Int32) (x4 : Int32) (x5 : Int32) (s1 : Int32) (s2 : Int32) (m : hM) : Option (Unit × hM) :=
  if hIn s1 2500 then (
hLet (sI m 4 (Int32.toNatClampNeg s1) s2) fun m24 =>
hLet (x5 + 1) fun y25 =>
k12 x1 x2 x3 x4 y25 m24) else none
set_option maxRecDepth 100000 in
set_option maxHeartbeats 4000000 in
theorem r_X0_refresh_71 {G : hG} {X : hX} (C : Cx G X 3 cX0_refresh 9 RX0 none) (K : Cr G X) (fu : Nat) (k12 : Int32 → Int32 → Int32 → Int32 → Int32 → hM → Option (Unit × hM)) (hk12 : ∀ (x1 : Int32) (x2 : Int32) (x3 : Int32) (x4 : Int32) (x5 : Int32) (m : hM), Rf vU G X 12 [(0, hA G 1), (1, .int x1), (2, .int x2), (3, .int x3), (4, .int x4), (5, .int x5)] [] m (k12 x1 x2 x3 x4 x5 m)) (x1 : Int32) (x2 : Int32) (x3 : Int32) (x4 : Int32) (x5 : Int32) (s1 : Int32) (s2 : Int32) (m : hM) : Rf vU G X 71 [(0, hA G 1), (1, .int x1), (2, .int x2), (3, .int x3), (4, .int x4), (5, .int x5)] [.int s2, .int s1, hA G 4] m (f_X0_refresh_71 fu k12 x1 x2 x3 x4 x5 s1 s2 m) := by
  unfold f_X0_refresh_71
  refine rf_guard (fun h23 => ?_)
  refine rf_iast C (n := 72) ly_4 h23 rfl dX0_refresh_71 rfl ?_
  refine rf_letM (fun m24 => ?_)
  refine rf_iinc2 C (n := 75) (q := 5) (fun y25 => [(5, .int y25), (0, hA G 1), (1, .int x1), (2, .int x2), (3, .int x3), (4, .int x4)]) dX0_refresh_72 rfl rfl (by decide) (by decide) (fun _ => rfl) (fun y25 => ?_)
  refine rf_goto C (n := 12) dX0_refresh_75 (by decide) ?_
  exact rf_lv _ [1, 2, 3, 4, 5, 0] rfl (hk12 _ _ _ _ _ _)
def s_X0_refresh_12 (fu : Nat) (ih : Int32 → Int32 → Int32 → Int32 → Int32 → hM → Option (Unit × hM)) (x1 : Int32) (x2 : Int32) (x3 : Int32) (x4 : Int32) (x5 : Int32) (m : hM) : Option (Unit × hM) :=
  if x3 ≤ x5 then (
f_X0_refresh_78 fu x1 x2 x3 m) else (
if 2500 ≤ x5 then (
f_X0_refresh_78 fu x1 x2 x3 m) else (
if hIn x1 6 then (
hBd (f_X2_atWork fu (6 + 2 * (Int32.toNatClampNeg x1)) x5 m) fun y19 m20 =>
if y19 = 0 then (
if hIn x5 2500 then (
f_X0_refresh_71 fu ih x1 x2 x3 x4 x5 x5 ((gI m20 4 (Int32.toNatClampNeg x5)) &&& (x4 ^^^ (-1))) m20) else none) else (
if hIn x5 2500 then (
f_X0_refresh_71 fu ih x1 x2 x3 x4 x5 x5 ((gI m20 4 (Int32.toNatClampNeg x5)) ||| x4) m20) else none)) else none))
noncomputable def f_X0_refresh_12 (fu : Nat) (n : Nat) : Int32 → Int32 → Int32 → Int32 → Int32 → hM → Option (Unit × hM) :=
  Nat.rec (motive := fun _ => Int32 → Int32 → Int32 → Int32 → Int32 → hM → Option (Unit × hM)) (fun _ _ _ _ _ _ => none) (fun _ ih => s_X0_refresh_12 fu ih) n
theorem f_X0_refresh_12_s (fu : Nat) (n : Nat) (x1 : Int32) (x2 : Int32) (x3 : Int32) (x4 : Int32) (x5 : Int32) (m : hM) : f_X0_refresh_12 fu (n + 1) x1 x2 x3 x4 x5 m = s_X0_refresh_12 fu (f_X0_refresh_12 fu n) x1 x2 x3 x4 x5 m := rfl
set_option maxRecDepth 100000 in
set_option maxHeartbeats 4000000 in
theorem r_X0_refresh_12 {G : hG} {X : hX} (C : Cx G X 3 cX0_refresh 9 RX0 none) (K : Cr G X) (fu : Nat) (n : Nat) : ∀ (x1 : Int32) (x2 : Int32) (x3 : Int32) (x4 : Int32) (x5 : Int32) (m : hM), Rf vU G X 12 [(0, hA G 1), (1, .int x1), (2, .int x2), (3, .int x3), (4, .int x4), (5, .int x5)] [] m (f_X0_refresh_12 fu n x1 x2 x3 x4 x5 m) := by
  induction n with
  | zero => intros; exact rf_none
  | succ n ih =>
    intro x1 x2 x3 x4 x5 m
    show Rf vU G X 12 [(0, hA G 1), (1, .int x1), (2, .int x2), (3, .int x3), (4, .int x4), (5, .int x5)] [] m (s_X0_refresh_12 fu (f_X0_refresh_12 fu n) x1 x2 x3 x4 x5 m)
    unfold s_X0_refresh_12
    refine rf_iload C (n := 14) (q := 5) dX0_refresh_12 rfl rfl ?_
    refine rf_iload_n C (n := 15) (q := 3) dX0_refresh_14 rfl rfl rfl ?_
    refine rf_icmp_ge C (tgt := 78) (n := 18) dX0_refresh_15 (by decide) rfl (fun h4 => ?_) (fun h4 => ?_)
    · exact rf_lv _ [0, 1, 2, 3] rfl (r_X0_refresh_78 C K fu _ _ _ _)
    · refine rf_iload C (n := 20) (q := 5) dX0_refresh_18 rfl rfl ?_
      refine rf_sipush C (n := 23) (v := 2500) dX0_refresh_20 rfl (by decide) ?_
      refine rf_icmp_ge C (tgt := 78) (n := 26) dX0_refresh_23 (by decide) rfl (fun h17 => ?_) (fun h17 => ?_)
      · exact rf_lv _ [0, 1, 2, 3] rfl (r_X0_refresh_78 C K fu _ _ _ _)
      · refine rf_aload_n C (n := 27) (q := 0) dX0_refresh_26 rfl rfl rfl ?_
        refine rf_getS C (n := 30) fl_RX0_21 ly_1 rfl dX0_refresh_27 rfl ?_
        refine rf_iload C (n := 32) (q := 5) dX0_refresh_30 rfl rfl ?_
        refine rf_aload_n C (n := 33) (q := 0) dX0_refresh_32 rfl rfl rfl ?_
        refine rf_getS C (n := 36) fl_RX0_11 ly_1 rfl dX0_refresh_33 rfl ?_
        refine rf_iload_n C (n := 37) (q := 1) dX0_refresh_36 rfl rfl rfl ?_
        refine rf_guard (fun h18 => ?_)
        refine rf_aaldO C (n := 38) ly_2 h18 (of_r h18) dX0_refresh_37 rfl ?_
        refine rf_iload C (n := 40) (q := 5) dX0_refresh_38 rfl rfl ?_
        refine rf_callVi C (n := 43) (c_X2_atWork G fu _ _ _) mw_RX0_44 (pO_l (of_o h18)) rfl ⟨by decide, by decide⟩ rfl (Nat.le_of_ble_eq_true rfl) rfl dX0_refresh_40 rfl (fun y19 m20 => ?_)
        refine rf_if_eq C (tgt := 59) (n := 46) dX0_refresh_43 (by decide) rfl (fun h21 => ?_) (fun h21 => ?_)
        · refine rf_aload_n C (n := 60) (q := 0) dX0_refresh_59 rfl rfl rfl ?_
          refine rf_getS C (n := 63) fl_RX0_21 ly_1 rfl dX0_refresh_60 rfl ?_
          refine rf_iload C (n := 65) (q := 5) dX0_refresh_63 rfl rfl ?_
          refine rf_guard (fun h22 => ?_)
          refine rf_iald C (n := 66) ly_4 h22 rfl dX0_refresh_65 rfl ?_
          refine rf_iload C (n := 68) (q := 4) dX0_refresh_66 rfl rfl ?_
          refine rf_iconst C (n := 69) (v := (-1)) dX0_refresh_68 rfl (by decide) ?_
          refine rf_ixor C (n := 70) dX0_refresh_69 rfl ?_
          refine rf_iand C (n := 71) dX0_refresh_70 rfl ?_
          exact rf_lv _ [0, 1, 2, 3, 4, 5] rfl (r_X0_refresh_71 C K fu _ ih _ _ _ _ _ _ _ _)
        · refine rf_aload_n C (n := 47) (q := 0) dX0_refresh_46 rfl rfl rfl ?_
          refine rf_getS C (n := 50) fl_RX0_21 ly_1 rfl dX0_refresh_47 rfl ?_
          refine rf_iload C (n := 52) (q := 5) dX0_refresh_50 rfl rfl ?_
          refine rf_guard (fun h26 => ?_)
          refine rf_iald C (n := 53) ly_4 h26 rfl dX0_refresh_52 rfl ?_
          refine rf_iload C (n := 55) (q := 4) dX0_refresh_53 rfl rfl ?_
          refine rf_ior C (n := 56) dX0_refresh_55 rfl ?_
          refine rf_goto C (n := 71) dX0_refresh_56 (by decide) ?_
          exact rf_lv _ [0, 1, 2, 3, 4, 5] rfl (r_X0_refresh_71 C K fu _ ih _ _ _ _ _ _ _ _)
def f_X0_refresh (fu : Nat) (x1 : Int32) (x2 : Int32) (x3 : Int32) (m : hM) : Option (Unit × hM) :=
  hLet (1 <<< (x1 &&& 31)) fun y1 =>
hBd (f_J9_max_7cf53 fu x2 0 m) fun y2 m3 =>
f_X0_refresh_12 fu fu x1 x2 x3 y1 y2 m3
set_option maxRecDepth 100000 in
set_option maxHeartbeats 4000000 in
theorem c_X0_refresh (G : hG) (fu : Nat) (x1 : Int32) (x2 : Int32) (x3 : Int32) (m : hM) : Mt vU G 3 yX0_refresh cX0_refresh 9 none [hA G 1, .int x1, .int x2, .int x3] m (f_X0_refresh fu x1 x2 x3 m) := by
  refine mt_of (by decide) (Nat.le_of_ble_eq_true rfl) (fun X C K => ?_)
  have C : Cx G X 3 cX0_refresh 9 RX0 none := C
  show Rf vU G X 0 [(0, hA G 1), (1, .int x1), (2, .int x2), (3, .int x3)] [] m _
  unfold f_X0_refresh
  refine rf_iconst C (n := 1) (v := 1) dX0_refresh_0 rfl (by decide) ?_
  refine rf_iload_n C (n := 2) (q := 1) dX0_refresh_1 rfl rfl rfl ?_
  refine rf_ishl C (n := 3) dX0_refresh_2 rfl ?_
  refine rf_letI (fun y1 => ?_)
  refine rf_istore C (n := 5) [(4, .int y1), (0, hA G 1), (1, .int x1), (2, .int x2), (3, .int x3)] dX0_refresh_3 rfl (by decide) rfl ?_
  refine rf_iload_n C (n := 6) (q := 3) dX0_refresh_5 rfl rfl rfl ?_
  refine rf_iconst C (n := 7) (v := 0) dX0_refresh_6 rfl (by decide) ?_
  refine rf_callSi C (n := 10) (c_J9_max_7cf53 G fu _ _ _) sw_RX0_38 ⟨by decide, by decide⟩ rfl (Nat.le_of_ble_eq_true rfl) rfl dX0_refresh_7 rfl (fun y2 m3 => ?_)
  refine rf_istore C (n := 12) [(5, .int y2), (4, .int y1), (0, hA G 1), (1, .int x1), (2, .int x2), (3, .int x3)] dX0_refresh_10 rfl (by decide) rfl ?_
  exact rf_lv _ [2, 3, 4, 5, 1, 0] rfl (r_X0_refresh_12 C K fu fu _ _ _ _ _ _)
