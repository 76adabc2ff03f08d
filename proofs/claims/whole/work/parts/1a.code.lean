theorem dX0_has_0 : decode cX0_has 0 = .ok (.iload_n 1, 1) := by decide +kernel
theorem dX0_has_1 : decode cX0_has 1 = .ok (.ifCond .lt 15, 3) := by decide +kernel
theorem dX0_has_4 : decode cX0_has 4 = .ok (.iload_n 1, 1) := by decide +kernel
theorem dX0_has_5 : decode cX0_has 5 = .ok (.aload_n 0, 1) := by decide +kernel
theorem dX0_has_6 : decode cX0_has 6 = .ok (.getfield 28, 3) := by decide +kernel
theorem dX0_has_9 : decode cX0_has 9 = .ok (.if_icmp .ge 7, 3) := by decide +kernel
theorem dX0_has_12 : decode cX0_has 12 = .ok (.iconst 1, 1) := by decide +kernel
theorem dX0_has_13 : decode cX0_has 13 = .ok (.goto 4, 3) := by decide +kernel
theorem dX0_has_16 : decode cX0_has 16 = .ok (.iconst 0, 1) := by decide +kernel
theorem dX0_has_17 : decode cX0_has 17 = .ok (.ireturn, 1) := by decide +kernel
theorem dJ9_max_7cf53_0 : decode cJ9_max_7cf53 0 = .ok (.iload_n 0, 1) := by decide +kernel
theorem dJ9_max_7cf53_1 : decode cJ9_max_7cf53 1 = .ok (.iload_n 1, 1) := by decide +kernel
theorem dJ9_max_7cf53_2 : decode cJ9_max_7cf53 2 = .ok (.if_icmp .lt 7, 3) := by decide +kernel
theorem dJ9_max_7cf53_5 : decode cJ9_max_7cf53 5 = .ok (.iload_n 0, 1) := by decide +kernel
theorem dJ9_max_7cf53_6 : decode cJ9_max_7cf53 6 = .ok (.goto 4, 3) := by decide +kernel
theorem dJ9_max_7cf53_9 : decode cJ9_max_7cf53 9 = .ok (.iload_n 1, 1) := by decide +kernel
theorem dJ9_max_7cf53_10 : decode cJ9_max_7cf53 10 = .ok (.ireturn, 1) := by decide +kernel
theorem dJ9_floorDiv_7cf53_0 : decode cJ9_floorDiv_7cf53 0 = .ok (.iload_n 0, 1) := by decide +kernel
theorem dJ9_floorDiv_7cf53_1 : decode cJ9_floorDiv_7cf53 1 = .ok (.iload_n 1, 1) := by decide +kernel
theorem dJ9_floorDiv_7cf53_2 : decode cJ9_floorDiv_7cf53 2 = .ok (.idiv, 1) := by decide +kernel
theorem dJ9_floorDiv_7cf53_3 : decode cJ9_floorDiv_7cf53 3 = .ok (.istore_n 2, 1) := by decide +kernel
theorem dJ9_floorDiv_7cf53_4 : decode cJ9_floorDiv_7cf53 4 = .ok (.iload_n 0, 1) := by decide +kernel
theorem dJ9_floorDiv_7cf53_5 : decode cJ9_floorDiv_7cf53 5 = .ok (.iload_n 1, 1) := by decide +kernel
theorem dJ9_floorDiv_7cf53_6 : decode cJ9_floorDiv_7cf53 6 = .ok (.ixor, 1) := by decide +kernel
theorem dJ9_floorDiv_7cf53_7 : decode cJ9_floorDiv_7cf53 7 = .ok (.ifCond .ge 14, 3) := by decide +kernel
theorem dJ9_floorDiv_7cf53_10 : decode cJ9_floorDiv_7cf53 10 = .ok (.iload_n 2, 1) := by decide +kernel
theorem dJ9_floorDiv_7cf53_11 : decode cJ9_floorDiv_7cf53 11 = .ok (.iload_n 1, 1) := by decide +kernel
theorem dJ9_floorDiv_7cf53_12 : decode cJ9_floorDiv_7cf53 12 = .ok (.imul, 1) := by decide +kernel
theorem dJ9_floorDiv_7cf53_13 : decode cJ9_floorDiv_7cf53 13 = .ok (.iload_n 0, 1) := by decide +kernel
theorem dJ9_floorDiv_7cf53_14 : decode cJ9_floorDiv_7cf53 14 = .ok (.if_icmp .eq 7, 3) := by decide +kernel
theorem dJ9_floorDiv_7cf53_17 : decode cJ9_floorDiv_7cf53 17 = .ok (.iload_n 2, 1) := by decide +kernel
theorem dJ9_floorDiv_7cf53_18 : decode cJ9_floorDiv_7cf53 18 = .ok (.iconst 1, 1) := by decide +kernel
theorem dJ9_floorDiv_7cf53_19 : decode cJ9_floorDiv_7cf53 19 = .ok (.isub, 1) := by decide +kernel
theorem dJ9_floorDiv_7cf53_20 : decode cJ9_floorDiv_7cf53 20 = .ok (.ireturn, 1) := by decide +kernel
theorem dJ9_floorDiv_7cf53_21 : decode cJ9_floorDiv_7cf53 21 = .ok (.iload_n 2, 1) := by decide +kernel
theorem dJ9_floorDiv_7cf53_22 : decode cJ9_floorDiv_7cf53 22 = .ok (.ireturn, 1) := by decide +kernel
theorem dJ9_floorMod_7cf53_0 : decode cJ9_floorMod_7cf53 0 = .ok (.iload_n 0, 1) := by decide +kernel
theorem dJ9_floorMod_7cf53_1 : decode cJ9_floorMod_7cf53 1 = .ok (.iload_n 1, 1) := by decide +kernel
theorem dJ9_floorMod_7cf53_2 : decode cJ9_floorMod_7cf53 2 = .ok (.irem, 1) := by decide +kernel
theorem dJ9_floorMod_7cf53_3 : decode cJ9_floorMod_7cf53 3 = .ok (.istore_n 2, 1) := by decide +kernel
theorem dJ9_floorMod_7cf53_4 : decode cJ9_floorMod_7cf53 4 = .ok (.iload_n 0, 1) := by decide +kernel
theorem dJ9_floorMod_7cf53_5 : decode cJ9_floorMod_7cf53 5 = .ok (.iload_n 1, 1) := by decide +kernel
theorem dJ9_floorMod_7cf53_6 : decode cJ9_floorMod_7cf53 6 = .ok (.ixor, 1) := by decide +kernel
theorem dJ9_floorMod_7cf53_7 : decode cJ9_floorMod_7cf53 7 = .ok (.ifCond .ge 11, 3) := by decide +kernel
theorem dJ9_floorMod_7cf53_10 : decode cJ9_floorMod_7cf53 10 = .ok (.iload_n 2, 1) := by decide +kernel
theorem dJ9_floorMod_7cf53_11 : decode cJ9_floorMod_7cf53 11 = .ok (.ifCond .eq 7, 3) := by decide +kernel
theorem dJ9_floorMod_7cf53_14 : decode cJ9_floorMod_7cf53 14 = .ok (.iload_n 2, 1) := by decide +kernel
theorem dJ9_floorMod_7cf53_15 : decode cJ9_floorMod_7cf53 15 = .ok (.iload_n 1, 1) := by decide +kernel
theorem dJ9_floorMod_7cf53_16 : decode cJ9_floorMod_7cf53 16 = .ok (.iadd, 1) := by decide +kernel
theorem dJ9_floorMod_7cf53_17 : decode cJ9_floorMod_7cf53 17 = .ok (.ireturn, 1) := by decide +kernel
theorem dJ9_floorMod_7cf53_18 : decode cJ9_floorMod_7cf53 18 = .ok (.iload_n 2, 1) := by decide +kernel
theorem dJ9_floorMod_7cf53_19 : decode cJ9_floorMod_7cf53 19 = .ok (.ireturn, 1) := by decide +kernel
theorem dX10_isDay_0 : decode cX10_isDay 0 = .ok (.iload_n 0, 1) := by decide +kernel
theorem dX10_isDay_1 : decode cX10_isDay 1 = .ok (.ifCond .lt 13, 3) := by decide +kernel
theorem dX10_isDay_4 : decode cX10_isDay 4 = .ok (.iload_n 0, 1) := by decide +kernel
theorem dX10_isDay_5 : decode cX10_isDay 5 = .ok (.bipush 100, 2) := by decide +kernel
theorem dX10_isDay_7 : decode cX10_isDay 7 = .ok (.if_icmp .ge 7, 3) := by decide +kernel
theorem dX10_isDay_10 : decode cX10_isDay 10 = .ok (.iconst 1, 1) := by decide +kernel
theorem dX10_isDay_11 : decode cX10_isDay 11 = .ok (.goto 4, 3) := by decide +kernel
theorem dX10_isDay_14 : decode cX10_isDay 14 = .ok (.iconst 0, 1) := by decide +kernel
theorem dX10_isDay_15 : decode cX10_isDay 15 = .ok (.ireturn, 1) := by decide +kernel
theorem dX2_atWork_0 : decode cX2_atWork 0 = .ok (.iload_n 1, 1) := by decide +kernel
theorem dX2_atWork_1 : decode cX2_atWork 1 = .ok (.aload_n 0, 1) := by decide +kernel
theorem dX2_atWork_2 : decode cX2_atWork 2 = .ok (.getfield 15, 3) := by decide +kernel
theorem dX2_atWork_5 : decode cX2_atWork 5 = .ok (.iadd, 1) := by decide +kernel
theorem dX2_atWork_6 : decode cX2_atWork 6 = .ok (.iload_n 1, 1) := by decide +kernel
theorem dX2_atWork_7 : decode cX2_atWork 7 = .ok (.aload_n 0, 1) := by decide +kernel
theorem dX2_atWork_8 : decode cX2_atWork 8 = .ok (.getfield 34, 3) := by decide +kernel
theorem dX2_atWork_11 : decode cX2_atWork 11 = .ok (.if_icmp .lt 10, 3) := by decide +kernel
theorem dX2_atWork_14 : decode cX2_atWork 14 = .ok (.aload_n 0, 1) := by decide +kernel
theorem dX2_atWork_15 : decode cX2_atWork 15 = .ok (.getfield 37, 3) := by decide +kernel
theorem dX2_atWork_18 : decode cX2_atWork 18 = .ok (.goto 4, 3) := by decide +kernel
theorem dX2_atWork_21 : decode cX2_atWork 21 = .ok (.iconst 0, 1) := by decide +kernel
theorem dX2_atWork_22 : decode cX2_atWork 22 = .ok (.iadd, 1) := by decide +kernel
theorem dX2_atWork_23 : decode cX2_atWork 23 = .ok (.istore_n 2, 1) := by decide +kernel
theorem dX2_atWork_24 : decode cX2_atWork 24 = .ok (.iload_n 2, 1) := by decide +kernel
theorem dX2_atWork_25 : decode cX2_atWork 25 = .ok (.aload_n 0, 1) := by decide +kernel
theorem dX2_atWork_26 : decode cX2_atWork 26 = .ok (.getfield 19, 3) := by decide +kernel
theorem dX2_atWork_29 : decode cX2_atWork 29 = .ok (.isub, 1) := by decide +kernel
theorem dX2_atWork_30 : decode cX2_atWork 30 = .ok (.bipush 24, 2) := by decide +kernel
theorem dX2_atWork_32 : decode cX2_atWork 32 = .ok (.invokestatic 40, 3) := by decide +kernel
theorem dX2_atWork_35 : decode cX2_atWork 35 = .ok (.istore_n 3, 1) := by decide +kernel
theorem dX2_atWork_36 : decode cX2_atWork 36 = .ok (.iload_n 3, 1) := by decide +kernel
theorem dX2_atWork_37 : decode cX2_atWork 37 = .ok (.aload_n 0, 1) := by decide +kernel
theorem dX2_atWork_38 : decode cX2_atWork 38 = .ok (.getfield 22, 3) := by decide +kernel
theorem dX2_atWork_41 : decode cX2_atWork 41 = .ok (.if_icmp .lt 5, 3) := by decide +kernel
theorem dX2_atWork_44 : decode cX2_atWork 44 = .ok (.iconst 0, 1) := by decide +kernel
theorem dX2_atWork_45 : decode cX2_atWork 45 = .ok (.ireturn, 1) := by decide +kernel
theorem dX2_atWork_46 : decode cX2_atWork 46 = .ok (.iload_n 2, 1) := by decide +kernel
theorem dX2_atWork_47 : decode cX2_atWork 47 = .ok (.iload_n 3, 1) := by decide +kernel
theorem dX2_atWork_48 : decode cX2_atWork 48 = .ok (.isub, 1) := by decide +kernel
theorem dX2_atWork_49 : decode cX2_atWork 49 = .ok (.bipush 24, 2) := by decide +kernel
theorem dX2_atWork_51 : decode cX2_atWork 51 = .ok (.invokestatic 46, 3) := by decide +kernel
theorem dX2_atWork_54 : decode cX2_atWork 54 = .ok (.istore 4, 2) := by decide +kernel
theorem dX2_atWork_56 : decode cX2_atWork 56 = .ok (.iload 4, 2) := by decide +kernel
theorem dX2_atWork_58 : decode cX2_atWork 58 = .ok (.invokestatic 49, 3) := by decide +kernel
theorem dX2_atWork_61 : decode cX2_atWork 61 = .ok (.ifCond .eq 13, 3) := by decide +kernel
theorem dX2_atWork_64 : decode cX2_atWork 64 = .ok (.aload_n 0, 1) := by decide +kernel
theorem dX2_atWork_65 : decode cX2_atWork 65 = .ok (.getfield 9, 3) := by decide +kernel
theorem dX2_atWork_68 : decode cX2_atWork 68 = .ok (.iload 4, 2) := by decide +kernel
theorem dX2_atWork_70 : decode cX2_atWork 70 = .ok (.baload, 1) := by decide +kernel
theorem dX2_atWork_71 : decode cX2_atWork 71 = .ok (.ifCond .ne 7, 3) := by decide +kernel
theorem dX2_atWork_74 : decode cX2_atWork 74 = .ok (.iconst 1, 1) := by decide +kernel
theorem dX2_atWork_75 : decode cX2_atWork 75 = .ok (.goto 4, 3) := by decide +kernel
theorem dX2_atWork_78 : decode cX2_atWork 78 = .ok (.iconst 0, 1) := by decide +kernel
theorem dX2_atWork_79 : decode cX2_atWork 79 = .ok (.ireturn, 1) := by decide +kernel
theorem dX0_refresh_0 : decode cX0_refresh 0 = .ok (.iconst 1, 1) := by decide +kernel
theorem dX0_refresh_1 : decode cX0_refresh 1 = .ok (.iload_n 1, 1) := by decide +kernel
theorem dX0_refresh_2 : decode cX0_refresh 2 = .ok (.ishl, 1) := by decide +kernel
theorem dX0_refresh_3 : decode cX0_refresh 3 = .ok (.istore 4, 2) := by decide +kernel
theorem dX0_refresh_5 : decode cX0_refresh 5 = .ok (.iload_n 2, 1) := by decide +kernel
theorem dX0_refresh_6 : decode cX0_refresh 6 = .ok (.iconst 0, 1) := by decide +kernel
theorem dX0_refresh_7 : decode cX0_refresh 7 = .ok (.invokestatic 39, 3) := by decide +kernel
theorem dX0_refresh_10 : decode cX0_refresh 10 = .ok (.istore 5, 2) := by decide +kernel
theorem dX0_refresh_12 : decode cX0_refresh 12 = .ok (.iload 5, 2) := by decide +kernel
theorem dX0_refresh_14 : decode cX0_refresh 14 = .ok (.iload_n 3, 1) := by decide +kernel
theorem dX0_refresh_15 : decode cX0_refresh 15 = .ok (.if_icmp .ge 127, 3) := by decide +kernel
theorem dX0_refresh_18 : decode cX0_refresh 18 = .ok (.iload 5, 2) := by decide +kernel
theorem dX0_refresh_20 : decode cX0_refresh 20 = .ok (.sipush 2560, 3) := by decide +kernel
theorem dX0_refresh_23 : decode cX0_refresh 23 = .ok (.if_icmp .ge 119, 3) := by decide +kernel
theorem dX0_refresh_26 : decode cX0_refresh 26 = .ok (.iload_n 1, 1) := by decide +kernel
theorem dX0_refresh_27 : decode cX0_refresh 27 = .ok (.bipush 40, 2) := by decide +kernel
theorem dX0_refresh_29 : decode cX0_refresh 29 = .ok (.imul, 1) := by decide +kernel
theorem dX0_refresh_30 : decode cX0_refresh 30 = .ok (.iload 5, 2) := by decide +kernel
theorem dX0_refresh_32 : decode cX0_refresh 32 = .ok (.bipush 64, 2) := by decide +kernel
theorem dX0_refresh_34 : decode cX0_refresh 34 = .ok (.idiv, 1) := by decide +kernel
theorem dX0_refresh_35 : decode cX0_refresh 35 = .ok (.iadd, 1) := by decide +kernel
theorem dX0_refresh_36 : decode cX0_refresh 36 = .ok (.istore 6, 2) := by decide +kernel
theorem dX0_refresh_38 : decode cX0_refresh 38 = .ok (.lconst 1, 1) := by decide +kernel
theorem dX0_refresh_39 : decode cX0_refresh 39 = .ok (.iload 5, 2) := by decide +kernel
theorem dX0_refresh_41 : decode cX0_refresh 41 = .ok (.bipush 64, 2) := by decide +kernel
theorem dX0_refresh_43 : decode cX0_refresh 43 = .ok (.irem, 1) := by decide +kernel
theorem dX0_refresh_44 : decode cX0_refresh 44 = .ok (.lshl, 1) := by decide +kernel
theorem dX0_refresh_45 : decode cX0_refresh 45 = .ok (.lstore 7, 2) := by decide +kernel
theorem dX0_refresh_47 : decode cX0_refresh 47 = .ok (.aload_n 0, 1) := by decide +kernel
theorem dX0_refresh_48 : decode cX0_refresh 48 = .ok (.getfield 11, 3) := by decide +kernel
theorem dX0_refresh_51 : decode cX0_refresh 51 = .ok (.iload_n 1, 1) := by decide +kernel
theorem dX0_refresh_52 : decode cX0_refresh 52 = .ok (.aaload, 1) := by decide +kernel
theorem dX0_refresh_53 : decode cX0_refresh 53 = .ok (.iload 5, 2) := by decide +kernel
theorem dX0_refresh_55 : decode cX0_refresh 55 = .ok (.invokevirtual 45, 3) := by decide +kernel
theorem dX0_refresh_58 : decode cX0_refresh 58 = .ok (.istore 9, 2) := by decide +kernel
theorem dX0_refresh_60 : decode cX0_refresh 60 = .ok (.aload_n 0, 1) := by decide +kernel
theorem dX0_refresh_61 : decode cX0_refresh 61 = .ok (.getfield 21, 3) := by decide +kernel
theorem dX0_refresh_64 : decode cX0_refresh 64 = .ok (.iload 5, 2) := by decide +kernel
theorem dX0_refresh_66 : decode cX0_refresh 66 = .ok (.iload 9, 2) := by decide +kernel
theorem dX0_refresh_68 : decode cX0_refresh 68 = .ok (.ifCond .eq 16, 3) := by decide +kernel
theorem dX0_refresh_71 : decode cX0_refresh 71 = .ok (.aload_n 0, 1) := by decide +kernel
theorem dX0_refresh_72 : decode cX0_refresh 72 = .ok (.getfield 21, 3) := by decide +kernel
theorem dX0_refresh_75 : decode cX0_refresh 75 = .ok (.iload 5, 2) := by decide +kernel
theorem dX0_refresh_77 : decode cX0_refresh 77 = .ok (.iaload, 1) := by decide +kernel
theorem dX0_refresh_78 : decode cX0_refresh 78 = .ok (.iload 4, 2) := by decide +kernel
theorem dX0_refresh_80 : decode cX0_refresh 80 = .ok (.ior, 1) := by decide +kernel
theorem dX0_refresh_81 : decode cX0_refresh 81 = .ok (.goto 15, 3) := by decide +kernel
theorem dX0_refresh_84 : decode cX0_refresh 84 = .ok (.aload_n 0, 1) := by decide +kernel
theorem dX0_refresh_85 : decode cX0_refresh 85 = .ok (.getfield 21, 3) := by decide +kernel
theorem dX0_refresh_88 : decode cX0_refresh 88 = .ok (.iload 5, 2) := by decide +kernel
theorem dX0_refresh_90 : decode cX0_refresh 90 = .ok (.iaload, 1) := by decide +kernel
theorem dX0_refresh_91 : decode cX0_refresh 91 = .ok (.iload 4, 2) := by decide +kernel
theorem dX0_refresh_93 : decode cX0_refresh 93 = .ok (.iconst (-1), 1) := by decide +kernel
theorem dX0_refresh_94 : decode cX0_refresh 94 = .ok (.ixor, 1) := by decide +kernel
theorem dX0_refresh_95 : decode cX0_refresh 95 = .ok (.iand, 1) := by decide +kernel
theorem dX0_refresh_96 : decode cX0_refresh 96 = .ok (.iastore, 1) := by decide +kernel
theorem dX0_refresh_97 : decode cX0_refresh 97 = .ok (.aload_n 0, 1) := by decide +kernel
theorem dX0_refresh_98 : decode cX0_refresh 98 = .ok (.getfield 24, 3) := by decide +kernel
theorem dX0_refresh_101 : decode cX0_refresh 101 = .ok (.iload 6, 2) := by decide +kernel
theorem dX0_refresh_103 : decode cX0_refresh 103 = .ok (.iload 9, 2) := by decide +kernel
theorem dX0_refresh_105 : decode cX0_refresh 105 = .ok (.ifCond .eq 16, 3) := by decide +kernel
theorem dX0_refresh_108 : decode cX0_refresh 108 = .ok (.aload_n 0, 1) := by decide +kernel
theorem dX0_refresh_109 : decode cX0_refresh 109 = .ok (.getfield 24, 3) := by decide +kernel
theorem dX0_refresh_112 : decode cX0_refresh 112 = .ok (.iload 6, 2) := by decide +kernel
theorem dX0_refresh_114 : decode cX0_refresh 114 = .ok (.laload, 1) := by decide +kernel
theorem dX0_refresh_115 : decode cX0_refresh 115 = .ok (.lload 7, 2) := by decide +kernel
theorem dX0_refresh_117 : decode cX0_refresh 117 = .ok (.lor, 1) := by decide +kernel
theorem dX0_refresh_118 : decode cX0_refresh 118 = .ok (.goto 17, 3) := by decide +kernel
theorem dX0_refresh_121 : decode cX0_refresh 121 = .ok (.aload_n 0, 1) := by decide +kernel
theorem dX0_refresh_122 : decode cX0_refresh 122 = .ok (.getfield 24, 3) := by decide +kernel
theorem dX0_refresh_125 : decode cX0_refresh 125 = .ok (.iload 6, 2) := by decide +kernel
theorem dX0_refresh_127 : decode cX0_refresh 127 = .ok (.laload, 1) := by decide +kernel
theorem dX0_refresh_128 : decode cX0_refresh 128 = .ok (.lload 7, 2) := by decide +kernel
theorem dX0_refresh_130 : decode cX0_refresh 130 = .ok (.ldc2_w 49, 3) := by decide +kernel
theorem dX0_refresh_133 : decode cX0_refresh 133 = .ok (.lxor, 1) := by decide +kernel
theorem dX0_refresh_134 : decode cX0_refresh 134 = .ok (.land, 1) := by decide +kernel
theorem dX0_refresh_135 : decode cX0_refresh 135 = .ok (.lastore, 1) := by decide +kernel
theorem dX0_refresh_136 : decode cX0_refresh 136 = .ok (.iinc 5 1, 3) := by decide +kernel
theorem dX0_refresh_139 : decode cX0_refresh 139 = .ok (.goto (-127), 3) := by decide +kernel
theorem dX0_refresh_142 : decode cX0_refresh 142 = .ok (.return_, 1) := by decide +kernel
theorem dX0_bothFrom_0 : decode cX0_bothFrom 0 = .ok (.iload_n 3, 1) := by decide +kernel
theorem dX0_bothFrom_1 : decode cX0_bothFrom 1 = .ok (.bipush 64, 2) := by decide +kernel
theorem dX0_bothFrom_3 : decode cX0_bothFrom 3 = .ok (.idiv, 1) := by decide +kernel
theorem dX0_bothFrom_4 : decode cX0_bothFrom 4 = .ok (.istore 4, 2) := by decide +kernel
theorem dX0_bothFrom_6 : decode cX0_bothFrom 6 = .ok (.iload_n 3, 1) := by decide +kernel
theorem dX0_bothFrom_7 : decode cX0_bothFrom 7 = .ok (.bipush 64, 2) := by decide +kernel
theorem dX0_bothFrom_9 : decode cX0_bothFrom 9 = .ok (.irem, 1) := by decide +kernel
theorem dX0_bothFrom_10 : decode cX0_bothFrom 10 = .ok (.istore 5, 2) := by decide +kernel
theorem dX0_bothFrom_12 : decode cX0_bothFrom 12 = .ok (.iload_n 1, 1) := by decide +kernel
theorem dX0_bothFrom_13 : decode cX0_bothFrom 13 = .ok (.bipush 40, 2) := by decide +kernel
theorem dX0_bothFrom_15 : decode cX0_bothFrom 15 = .ok (.imul, 1) := by decide +kernel
theorem dX0_bothFrom_16 : decode cX0_bothFrom 16 = .ok (.iload 4, 2) := by decide +kernel
theorem dX0_bothFrom_18 : decode cX0_bothFrom 18 = .ok (.iadd, 1) := by decide +kernel
theorem dX0_bothFrom_19 : decode cX0_bothFrom 19 = .ok (.istore 6, 2) := by decide +kernel
theorem dX0_bothFrom_21 : decode cX0_bothFrom 21 = .ok (.iload_n 2, 1) := by decide +kernel
theorem dX0_bothFrom_22 : decode cX0_bothFrom 22 = .ok (.bipush 40, 2) := by decide +kernel
theorem dX0_bothFrom_24 : decode cX0_bothFrom 24 = .ok (.imul, 1) := by decide +kernel
theorem dX0_bothFrom_25 : decode cX0_bothFrom 25 = .ok (.iload 4, 2) := by decide +kernel
theorem dX0_bothFrom_27 : decode cX0_bothFrom 27 = .ok (.iadd, 1) := by decide +kernel
theorem dX0_bothFrom_28 : decode cX0_bothFrom 28 = .ok (.istore 7, 2) := by decide +kernel
theorem dX0_bothFrom_30 : decode cX0_bothFrom 30 = .ok (.aload_n 0, 1) := by decide +kernel
theorem dX0_bothFrom_31 : decode cX0_bothFrom 31 = .ok (.getfield 24, 3) := by decide +kernel
theorem dX0_bothFrom_34 : decode cX0_bothFrom 34 = .ok (.iload 6, 2) := by decide +kernel
theorem dX0_bothFrom_36 : decode cX0_bothFrom 36 = .ok (.laload, 1) := by decide +kernel
theorem dX0_bothFrom_37 : decode cX0_bothFrom 37 = .ok (.aload_n 0, 1) := by decide +kernel
theorem dX0_bothFrom_38 : decode cX0_bothFrom 38 = .ok (.getfield 24, 3) := by decide +kernel
theorem dX0_bothFrom_41 : decode cX0_bothFrom 41 = .ok (.iload 7, 2) := by decide +kernel
theorem dX0_bothFrom_43 : decode cX0_bothFrom 43 = .ok (.laload, 1) := by decide +kernel
theorem dX0_bothFrom_44 : decode cX0_bothFrom 44 = .ok (.land, 1) := by decide +kernel
theorem dX0_bothFrom_45 : decode cX0_bothFrom 45 = .ok (.iload 5, 2) := by decide +kernel
theorem dX0_bothFrom_47 : decode cX0_bothFrom 47 = .ok (.lushr, 1) := by decide +kernel
theorem dX0_bothFrom_48 : decode cX0_bothFrom 48 = .ok (.lstore 8, 2) := by decide +kernel
theorem dX0_bothFrom_50 : decode cX0_bothFrom 50 = .ok (.iload 5, 2) := by decide +kernel
theorem dX0_bothFrom_52 : decode cX0_bothFrom 52 = .ok (.bipush 40, 2) := by decide +kernel
theorem dX0_bothFrom_54 : decode cX0_bothFrom 54 = .ok (.if_icmp .le 42, 3) := by decide +kernel
theorem dX0_bothFrom_57 : decode cX0_bothFrom 57 = .ok (.iload 4, 2) := by decide +kernel
theorem dX0_bothFrom_59 : decode cX0_bothFrom 59 = .ok (.iconst 1, 1) := by decide +kernel
theorem dX0_bothFrom_60 : decode cX0_bothFrom 60 = .ok (.iadd, 1) := by decide +kernel
theorem dX0_bothFrom_61 : decode cX0_bothFrom 61 = .ok (.bipush 40, 2) := by decide +kernel
theorem dX0_bothFrom_63 : decode cX0_bothFrom 63 = .ok (.if_icmp .ge 33, 3) := by decide +kernel
theorem dX0_bothFrom_66 : decode cX0_bothFrom 66 = .ok (.lload 8, 2) := by decide +kernel
theorem dX0_bothFrom_68 : decode cX0_bothFrom 68 = .ok (.aload_n 0, 1) := by decide +kernel
theorem dX0_bothFrom_69 : decode cX0_bothFrom 69 = .ok (.getfield 24, 3) := by decide +kernel
theorem dX0_bothFrom_72 : decode cX0_bothFrom 72 = .ok (.iload 6, 2) := by decide +kernel
theorem dX0_bothFrom_74 : decode cX0_bothFrom 74 = .ok (.iconst 1, 1) := by decide +kernel
theorem dX0_bothFrom_75 : decode cX0_bothFrom 75 = .ok (.iadd, 1) := by decide +kernel
theorem dX0_bothFrom_76 : decode cX0_bothFrom 76 = .ok (.laload, 1) := by decide +kernel
theorem dX0_bothFrom_77 : decode cX0_bothFrom 77 = .ok (.aload_n 0, 1) := by decide +kernel
theorem dX0_bothFrom_78 : decode cX0_bothFrom 78 = .ok (.getfield 24, 3) := by decide +kernel
theorem dX0_bothFrom_81 : decode cX0_bothFrom 81 = .ok (.iload 7, 2) := by decide +kernel
theorem dX0_bothFrom_83 : decode cX0_bothFrom 83 = .ok (.iconst 1, 1) := by decide +kernel
theorem dX0_bothFrom_84 : decode cX0_bothFrom 84 = .ok (.iadd, 1) := by decide +kernel
theorem dX0_bothFrom_85 : decode cX0_bothFrom 85 = .ok (.laload, 1) := by decide +kernel
theorem dX0_bothFrom_86 : decode cX0_bothFrom 86 = .ok (.land, 1) := by decide +kernel
theorem dX0_bothFrom_87 : decode cX0_bothFrom 87 = .ok (.bipush 64, 2) := by decide +kernel
theorem dX0_bothFrom_89 : decode cX0_bothFrom 89 = .ok (.iload 5, 2) := by decide +kernel
theorem dX0_bothFrom_91 : decode cX0_bothFrom 91 = .ok (.isub, 1) := by decide +kernel
theorem dX0_bothFrom_92 : decode cX0_bothFrom 92 = .ok (.lshl, 1) := by decide +kernel
theorem dX0_bothFrom_93 : decode cX0_bothFrom 93 = .ok (.lor, 1) := by decide +kernel
theorem dX0_bothFrom_94 : decode cX0_bothFrom 94 = .ok (.lstore 8, 2) := by decide +kernel
theorem dX0_bothFrom_96 : decode cX0_bothFrom 96 = .ok (.lload 8, 2) := by decide +kernel
theorem dX0_bothFrom_98 : decode cX0_bothFrom 98 = .ok (.l2i, 1) := by decide +kernel
theorem dX0_bothFrom_99 : decode cX0_bothFrom 99 = .ok (.ldc 51, 2) := by decide +kernel
theorem dX0_bothFrom_101 : decode cX0_bothFrom 101 = .ok (.iand, 1) := by decide +kernel
theorem dX0_bothFrom_102 : decode cX0_bothFrom 102 = .ok (.ireturn, 1) := by decide +kernel
theorem dX0_putFeast_0 : decode cX0_putFeast 0 = .ok (.aload_n 0, 1) := by decide +kernel
theorem dX0_putFeast_1 : decode cX0_putFeast 1 = .ok (.getfield 11, 3) := by decide +kernel
theorem dX0_putFeast_4 : decode cX0_putFeast 4 = .ok (.iload_n 1, 1) := by decide +kernel
theorem dX0_putFeast_5 : decode cX0_putFeast 5 = .ok (.aaload, 1) := by decide +kernel
theorem dX0_putFeast_6 : decode cX0_putFeast 6 = .ok (.astore 4, 2) := by decide +kernel
theorem dX0_putFeast_8 : decode cX0_putFeast 8 = .ok (.aload 4, 2) := by decide +kernel
theorem dX0_putFeast_10 : decode cX0_putFeast 10 = .ok (.getfield 52, 3) := by decide +kernel
theorem dX0_putFeast_13 : decode cX0_putFeast 13 = .ok (.iload_n 2, 1) := by decide +kernel
theorem dX0_putFeast_14 : decode cX0_putFeast 14 = .ok (.iload_n 3, 1) := by decide +kernel
theorem dX0_putFeast_15 : decode cX0_putFeast 15 = .ok (.bastore, 1) := by decide +kernel
theorem dX0_putFeast_16 : decode cX0_putFeast 16 = .ok (.iload_n 2, 1) := by decide +kernel
theorem dX0_putFeast_17 : decode cX0_putFeast 17 = .ok (.bipush 24, 2) := by decide +kernel
theorem dX0_putFeast_19 : decode cX0_putFeast 19 = .ok (.imul, 1) := by decide +kernel
theorem dX0_putFeast_20 : decode cX0_putFeast 20 = .ok (.aload 4, 2) := by decide +kernel
theorem dX0_putFeast_22 : decode cX0_putFeast 22 = .ok (.getfield 56, 3) := by decide +kernel
theorem dX0_putFeast_25 : decode cX0_putFeast 25 = .ok (.iadd, 1) := by decide +kernel
theorem dX0_putFeast_26 : decode cX0_putFeast 26 = .ok (.aload 4, 2) := by decide +kernel
theorem dX0_putFeast_28 : decode cX0_putFeast 28 = .ok (.getfield 59, 3) := by decide +kernel
theorem dX0_putFeast_31 : decode cX0_putFeast 31 = .ok (.isub, 1) := by decide +kernel
theorem dX0_putFeast_32 : decode cX0_putFeast 32 = .ok (.istore 5, 2) := by decide +kernel
theorem dX0_putFeast_34 : decode cX0_putFeast 34 = .ok (.aload_n 0, 1) := by decide +kernel
theorem dX0_putFeast_35 : decode cX0_putFeast 35 = .ok (.iload_n 1, 1) := by decide +kernel
theorem dX0_putFeast_36 : decode cX0_putFeast 36 = .ok (.iload 5, 2) := by decide +kernel
theorem dX0_putFeast_38 : decode cX0_putFeast 38 = .ok (.iconst 1, 1) := by decide +kernel
theorem dX0_putFeast_39 : decode cX0_putFeast 39 = .ok (.isub, 1) := by decide +kernel
theorem dX0_putFeast_40 : decode cX0_putFeast 40 = .ok (.iload 5, 2) := by decide +kernel
theorem dX0_putFeast_42 : decode cX0_putFeast 42 = .ok (.aload 4, 2) := by decide +kernel
theorem dX0_putFeast_44 : decode cX0_putFeast 44 = .ok (.getfield 62, 3) := by decide +kernel
theorem dX0_putFeast_47 : decode cX0_putFeast 47 = .ok (.iadd, 1) := by decide +kernel
theorem dX0_putFeast_48 : decode cX0_putFeast 48 = .ok (.iconst 1, 1) := by decide +kernel
theorem dX0_putFeast_49 : decode cX0_putFeast 49 = .ok (.iadd, 1) := by decide +kernel
theorem dX0_putFeast_50 : decode cX0_putFeast 50 = .ok (.invokevirtual 65, 3) := by decide +kernel
theorem dX0_putFeast_53 : decode cX0_putFeast 53 = .ok (.return_, 1) := by decide +kernel
theorem dX0_putKnown_0 : decode cX0_putKnown 0 = .ok (.aload_n 0, 1) := by decide +kernel
theorem dX0_putKnown_1 : decode cX0_putKnown 1 = .ok (.getfield 17, 3) := by decide +kernel
theorem dX0_putKnown_4 : decode cX0_putKnown 4 = .ok (.iload_n 1, 1) := by decide +kernel
theorem dX0_putKnown_5 : decode cX0_putKnown 5 = .ok (.bipush 6, 2) := by decide +kernel
theorem dX0_putKnown_7 : decode cX0_putKnown 7 = .ok (.imul, 1) := by decide +kernel
theorem dX0_putKnown_8 : decode cX0_putKnown 8 = .ok (.iload_n 2, 1) := by decide +kernel
theorem dX0_putKnown_9 : decode cX0_putKnown 9 = .ok (.iadd, 1) := by decide +kernel
theorem dX0_putKnown_10 : decode cX0_putKnown 10 = .ok (.iload_n 3, 1) := by decide +kernel
theorem dX0_putKnown_11 : decode cX0_putKnown 11 = .ok (.iastore, 1) := by decide +kernel
theorem dX0_putKnown_12 : decode cX0_putKnown 12 = .ok (.aload_n 0, 1) := by decide +kernel
theorem dX0_putKnown_13 : decode cX0_putKnown 13 = .ok (.getfield 17, 3) := by decide +kernel
theorem dX0_putKnown_16 : decode cX0_putKnown 16 = .ok (.iload_n 2, 1) := by decide +kernel
theorem dX0_putKnown_17 : decode cX0_putKnown 17 = .ok (.bipush 6, 2) := by decide +kernel
theorem dX0_putKnown_19 : decode cX0_putKnown 19 = .ok (.imul, 1) := by decide +kernel
theorem dX0_putKnown_20 : decode cX0_putKnown 20 = .ok (.iload_n 1, 1) := by decide +kernel
theorem dX0_putKnown_21 : decode cX0_putKnown 21 = .ok (.iadd, 1) := by decide +kernel
theorem dX0_putKnown_22 : decode cX0_putKnown 22 = .ok (.iload_n 3, 1) := by decide +kernel
theorem dX0_putKnown_23 : decode cX0_putKnown 23 = .ok (.iastore, 1) := by decide +kernel
theorem dX0_putKnown_24 : decode cX0_putKnown 24 = .ok (.return_, 1) := by decide +kernel
theorem dX0_putKnownToAll_0 : decode cX0_putKnownToAll 0 = .ok (.iconst 0, 1) := by decide +kernel
theorem dX0_putKnownToAll_1 : decode cX0_putKnownToAll 1 = .ok (.istore_n 3, 1) := by decide +kernel
theorem dX0_putKnownToAll_2 : decode cX0_putKnownToAll 2 = .ok (.iload_n 3, 1) := by decide +kernel
theorem dX0_putKnownToAll_3 : decode cX0_putKnownToAll 3 = .ok (.aload_n 0, 1) := by decide +kernel
theorem dX0_putKnownToAll_4 : decode cX0_putKnownToAll 4 = .ok (.getfield 28, 3) := by decide +kernel
theorem dX0_putKnownToAll_7 : decode cX0_putKnownToAll 7 = .ok (.if_icmp .ge 21, 3) := by decide +kernel
theorem dX0_putKnownToAll_10 : decode cX0_putKnownToAll 10 = .ok (.iload_n 3, 1) := by decide +kernel
theorem dX0_putKnownToAll_11 : decode cX0_putKnownToAll 11 = .ok (.iload_n 1, 1) := by decide +kernel
theorem dX0_putKnownToAll_12 : decode cX0_putKnownToAll 12 = .ok (.if_icmp .eq 10, 3) := by decide +kernel
theorem dX0_putKnownToAll_15 : decode cX0_putKnownToAll 15 = .ok (.aload_n 0, 1) := by decide +kernel
theorem dX0_putKnownToAll_16 : decode cX0_putKnownToAll 16 = .ok (.iload_n 1, 1) := by decide +kernel
theorem dX0_putKnownToAll_17 : decode cX0_putKnownToAll 17 = .ok (.iload_n 3, 1) := by decide +kernel
theorem dX0_putKnownToAll_18 : decode cX0_putKnownToAll 18 = .ok (.iload_n 2, 1) := by decide +kernel
theorem dX0_putKnownToAll_19 : decode cX0_putKnownToAll 19 = .ok (.invokevirtual 69, 3) := by decide +kernel
theorem dX0_putKnownToAll_22 : decode cX0_putKnownToAll 22 = .ok (.iinc 3 1, 3) := by decide +kernel
theorem dX0_putKnownToAll_25 : decode cX0_putKnownToAll 25 = .ok (.goto (-23), 3) := by decide +kernel
theorem dX0_putKnownToAll_28 : decode cX0_putKnownToAll 28 = .ok (.return_, 1) := by decide +kernel
theorem dX0_officesWith_0 : decode cX0_officesWith 0 = .ok (.iconst 0, 1) := by decide +kernel
theorem dX0_officesWith_1 : decode cX0_officesWith 1 = .ok (.istore_n 2, 1) := by decide +kernel
theorem dX0_officesWith_2 : decode cX0_officesWith 2 = .ok (.iconst 0, 1) := by decide +kernel
theorem dX0_officesWith_3 : decode cX0_officesWith 3 = .ok (.istore_n 3, 1) := by decide +kernel
theorem dX0_officesWith_4 : decode cX0_officesWith 4 = .ok (.iload_n 3, 1) := by decide +kernel
theorem dX0_officesWith_5 : decode cX0_officesWith 5 = .ok (.aload_n 0, 1) := by decide +kernel
theorem dX0_officesWith_6 : decode cX0_officesWith 6 = .ok (.getfield 28, 3) := by decide +kernel
theorem dX0_officesWith_9 : decode cX0_officesWith 9 = .ok (.if_icmp .ge 27, 3) := by decide +kernel
theorem dX0_officesWith_12 : decode cX0_officesWith 12 = .ok (.iload_n 2, 1) := by decide +kernel
theorem dX0_officesWith_13 : decode cX0_officesWith 13 = .ok (.aload_n 0, 1) := by decide +kernel
theorem dX0_officesWith_14 : decode cX0_officesWith 14 = .ok (.getfield 11, 3) := by decide +kernel
theorem dX0_officesWith_17 : decode cX0_officesWith 17 = .ok (.iload_n 3, 1) := by decide +kernel
theorem dX0_officesWith_18 : decode cX0_officesWith 18 = .ok (.aaload, 1) := by decide +kernel
theorem dX0_officesWith_19 : decode cX0_officesWith 19 = .ok (.getfield 72, 3) := by decide +kernel
theorem dX0_officesWith_22 : decode cX0_officesWith 22 = .ok (.iload_n 1, 1) := by decide +kernel
theorem dX0_officesWith_23 : decode cX0_officesWith 23 = .ok (.ishr, 1) := by decide +kernel
theorem dX0_officesWith_24 : decode cX0_officesWith 24 = .ok (.iconst 1, 1) := by decide +kernel
theorem dX0_officesWith_25 : decode cX0_officesWith 25 = .ok (.iand, 1) := by decide +kernel
theorem dX0_officesWith_26 : decode cX0_officesWith 26 = .ok (.iload_n 3, 1) := by decide +kernel
theorem dX0_officesWith_27 : decode cX0_officesWith 27 = .ok (.ishl, 1) := by decide +kernel
theorem dX0_officesWith_28 : decode cX0_officesWith 28 = .ok (.ior, 1) := by decide +kernel
theorem dX0_officesWith_29 : decode cX0_officesWith 29 = .ok (.istore_n 2, 1) := by decide +kernel
theorem dX0_officesWith_30 : decode cX0_officesWith 30 = .ok (.iinc 3 1, 3) := by decide +kernel
theorem dX0_officesWith_33 : decode cX0_officesWith 33 = .ok (.goto (-29), 3) := by decide +kernel
theorem dX0_officesWith_36 : decode cX0_officesWith 36 = .ok (.iload_n 2, 1) := by decide +kernel
theorem dX0_officesWith_37 : decode cX0_officesWith 37 = .ok (.ireturn, 1) := by decide +kernel
theorem dX0_allPeople_0 : decode cX0_allPeople 0 = .ok (.iconst 0, 1) := by decide +kernel
theorem dX0_allPeople_1 : decode cX0_allPeople 1 = .ok (.istore_n 1, 1) := by decide +kernel
theorem dX0_allPeople_2 : decode cX0_allPeople 2 = .ok (.iconst 0, 1) := by decide +kernel
theorem dX0_allPeople_3 : decode cX0_allPeople 3 = .ok (.istore_n 2, 1) := by decide +kernel
theorem dX0_allPeople_4 : decode cX0_allPeople 4 = .ok (.iload_n 2, 1) := by decide +kernel
theorem dX0_allPeople_5 : decode cX0_allPeople 5 = .ok (.aload_n 0, 1) := by decide +kernel
theorem dX0_allPeople_6 : decode cX0_allPeople 6 = .ok (.getfield 28, 3) := by decide +kernel
theorem dX0_allPeople_9 : decode cX0_allPeople 9 = .ok (.if_icmp .ge 21, 3) := by decide +kernel
theorem dX0_allPeople_12 : decode cX0_allPeople 12 = .ok (.iload_n 1, 1) := by decide +kernel
theorem dX0_allPeople_13 : decode cX0_allPeople 13 = .ok (.aload_n 0, 1) := by decide +kernel
theorem dX0_allPeople_14 : decode cX0_allPeople 14 = .ok (.getfield 11, 3) := by decide +kernel
theorem dX0_allPeople_17 : decode cX0_allPeople 17 = .ok (.iload_n 2, 1) := by decide +kernel
theorem dX0_allPeople_18 : decode cX0_allPeople 18 = .ok (.aaload, 1) := by decide +kernel
theorem dX0_allPeople_19 : decode cX0_allPeople 19 = .ok (.getfield 75, 3) := by decide +kernel
theorem dX0_allPeople_22 : decode cX0_allPeople 22 = .ok (.iadd, 1) := by decide +kernel
theorem dX0_allPeople_23 : decode cX0_allPeople 23 = .ok (.istore_n 1, 1) := by decide +kernel
theorem dX0_allPeople_24 : decode cX0_allPeople 24 = .ok (.iinc 2 1, 3) := by decide +kernel
theorem dX0_allPeople_27 : decode cX0_allPeople 27 = .ok (.goto (-23), 3) := by decide +kernel
theorem dX0_allPeople_30 : decode cX0_allPeople 30 = .ok (.iload_n 1, 1) := by decide +kernel
theorem dX0_allPeople_31 : decode cX0_allPeople 31 = .ok (.ireturn, 1) := by decide +kernel
theorem dX0_lostBy_0 : decode cX0_lostBy 0 = .ok (.iload_n 1, 1) := by decide +kernel
theorem dX0_lostBy_1 : decode cX0_lostBy 1 = .ok (.iload_n 2, 1) := by decide +kernel
theorem dX0_lostBy_2 : decode cX0_lostBy 2 = .ok (.if_icmp .ne 5, 3) := by decide +kernel
theorem dX0_lostBy_5 : decode cX0_lostBy 5 = .ok (.iconst 0, 1) := by decide +kernel
theorem dX0_lostBy_6 : decode cX0_lostBy 6 = .ok (.ireturn, 1) := by decide +kernel
theorem dX0_lostBy_7 : decode cX0_lostBy 7 = .ok (.aload_n 0, 1) := by decide +kernel
theorem dX0_lostBy_8 : decode cX0_lostBy 8 = .ok (.getfield 32, 3) := by decide +kernel
theorem dX0_lostBy_11 : decode cX0_lostBy 11 = .ok (.aload_n 0, 1) := by decide +kernel
theorem dX0_lostBy_12 : decode cX0_lostBy 12 = .ok (.getfield 17, 3) := by decide +kernel
theorem dX0_lostBy_15 : decode cX0_lostBy 15 = .ok (.iload_n 1, 1) := by decide +kernel
theorem dX0_lostBy_16 : decode cX0_lostBy 16 = .ok (.bipush 6, 2) := by decide +kernel
theorem dX0_lostBy_18 : decode cX0_lostBy 18 = .ok (.imul, 1) := by decide +kernel
theorem dX0_lostBy_19 : decode cX0_lostBy 19 = .ok (.iload_n 2, 1) := by decide +kernel
theorem dX0_lostBy_20 : decode cX0_lostBy 20 = .ok (.iadd, 1) := by decide +kernel
theorem dX0_lostBy_21 : decode cX0_lostBy 21 = .ok (.iaload, 1) := by decide +kernel
theorem dX0_lostBy_22 : decode cX0_lostBy 22 = .ok (.isub, 1) := by decide +kernel
theorem dX0_lostBy_23 : decode cX0_lostBy 23 = .ok (.iconst 0, 1) := by decide +kernel
theorem dX0_lostBy_24 : decode cX0_lostBy 24 = .ok (.invokestatic 39, 3) := by decide +kernel
theorem dX0_lostBy_27 : decode cX0_lostBy 27 = .ok (.istore 4, 2) := by decide +kernel
theorem dX0_lostBy_29 : decode cX0_lostBy 29 = .ok (.iload_n 3, 1) := by decide +kernel
theorem dX0_lostBy_30 : decode cX0_lostBy 30 = .ok (.ifCond .ne 10, 3) := by decide +kernel
theorem dX0_lostBy_33 : decode cX0_lostBy 33 = .ok (.iload 4, 2) := by decide +kernel
theorem dX0_lostBy_35 : decode cX0_lostBy 35 = .ok (.iconst 2, 1) := by decide +kernel
theorem dX0_lostBy_36 : decode cX0_lostBy 36 = .ok (.iadd, 1) := by decide +kernel
theorem dX0_lostBy_37 : decode cX0_lostBy 37 = .ok (.goto 5, 3) := by decide +kernel
theorem dX0_lostBy_40 : decode cX0_lostBy 40 = .ok (.iload 4, 2) := by decide +kernel
theorem dX0_lostBy_42 : decode cX0_lostBy 42 = .ok (.ireturn, 1) := by decide +kernel
theorem dX0_wrongBetween_0 : decode cX0_wrongBetween 0 = .ok (.aload_n 0, 1) := by decide +kernel
theorem dX0_wrongBetween_1 : decode cX0_wrongBetween 1 = .ok (.getfield 35, 3) := by decide +kernel
theorem dX0_wrongBetween_4 : decode cX0_wrongBetween 4 = .ok (.bipush 10, 2) := by decide +kernel
theorem dX0_wrongBetween_6 : decode cX0_wrongBetween 6 = .ok (.aload_n 0, 1) := by decide +kernel
theorem dX0_wrongBetween_7 : decode cX0_wrongBetween 7 = .ok (.getfield 17, 3) := by decide +kernel
theorem dX0_wrongBetween_10 : decode cX0_wrongBetween 10 = .ok (.iload_n 1, 1) := by decide +kernel
theorem dX0_wrongBetween_11 : decode cX0_wrongBetween 11 = .ok (.bipush 6, 2) := by decide +kernel
theorem dX0_wrongBetween_13 : decode cX0_wrongBetween 13 = .ok (.imul, 1) := by decide +kernel
theorem dX0_wrongBetween_14 : decode cX0_wrongBetween 14 = .ok (.iload_n 2, 1) := by decide +kernel
theorem dX0_wrongBetween_15 : decode cX0_wrongBetween 15 = .ok (.iadd, 1) := by decide +kernel
theorem dX0_wrongBetween_16 : decode cX0_wrongBetween 16 = .ok (.iaload, 1) := by decide +kernel
theorem dX0_wrongBetween_17 : decode cX0_wrongBetween 17 = .ok (.isub, 1) := by decide +kernel
theorem dX0_wrongBetween_18 : decode cX0_wrongBetween 18 = .ok (.imul, 1) := by decide +kernel
theorem dX0_wrongBetween_19 : decode cX0_wrongBetween 19 = .ok (.bipush 10, 2) := by decide +kernel
theorem dX0_wrongBetween_21 : decode cX0_wrongBetween 21 = .ok (.idiv, 1) := by decide +kernel
theorem dX0_wrongBetween_22 : decode cX0_wrongBetween 22 = .ok (.ireturn, 1) := by decide +kernel
theorem dX0_nextWork_0 : decode cX0_nextWork 0 = .ok (.iconst 0, 1) := by decide +kernel
theorem dX0_nextWork_1 : decode cX0_nextWork 1 = .ok (.istore_n 3, 1) := by decide +kernel
theorem dX0_nextWork_2 : decode cX0_nextWork 2 = .ok (.iload_n 3, 1) := by decide +kernel
theorem dX0_nextWork_3 : decode cX0_nextWork 3 = .ok (.bipush 99, 2) := by decide +kernel
theorem dX0_nextWork_5 : decode cX0_nextWork 5 = .ok (.if_icmp .ge 36, 3) := by decide +kernel
theorem dX0_nextWork_8 : decode cX0_nextWork 8 = .ok (.iload_n 2, 1) := by decide +kernel
theorem dX0_nextWork_9 : decode cX0_nextWork 9 = .ok (.iload_n 3, 1) := by decide +kernel
theorem dX0_nextWork_10 : decode cX0_nextWork 10 = .ok (.iadd, 1) := by decide +kernel
theorem dX0_nextWork_11 : decode cX0_nextWork 11 = .ok (.sipush 2560, 3) := by decide +kernel
theorem dX0_nextWork_14 : decode cX0_nextWork 14 = .ok (.if_icmp .ge 27, 3) := by decide +kernel
theorem dX0_nextWork_17 : decode cX0_nextWork 17 = .ok (.aload_n 0, 1) := by decide +kernel
theorem dX0_nextWork_18 : decode cX0_nextWork 18 = .ok (.getfield 21, 3) := by decide +kernel
theorem dX0_nextWork_21 : decode cX0_nextWork 21 = .ok (.iload_n 2, 1) := by decide +kernel
theorem dX0_nextWork_22 : decode cX0_nextWork 22 = .ok (.iload_n 3, 1) := by decide +kernel
theorem dX0_nextWork_23 : decode cX0_nextWork 23 = .ok (.iadd, 1) := by decide +kernel
theorem dX0_nextWork_24 : decode cX0_nextWork 24 = .ok (.iaload, 1) := by decide +kernel
theorem dX0_nextWork_25 : decode cX0_nextWork 25 = .ok (.iload_n 1, 1) := by decide +kernel
theorem dX0_nextWork_26 : decode cX0_nextWork 26 = .ok (.ishr, 1) := by decide +kernel
theorem dX0_nextWork_27 : decode cX0_nextWork 27 = .ok (.iconst 1, 1) := by decide +kernel
theorem dX0_nextWork_28 : decode cX0_nextWork 28 = .ok (.iand, 1) := by decide +kernel
theorem dX0_nextWork_29 : decode cX0_nextWork 29 = .ok (.iconst 1, 1) := by decide +kernel
theorem dX0_nextWork_30 : decode cX0_nextWork 30 = .ok (.if_icmp .ne 5, 3) := by decide +kernel
theorem dX0_nextWork_33 : decode cX0_nextWork 33 = .ok (.iload_n 3, 1) := by decide +kernel
theorem dX0_nextWork_34 : decode cX0_nextWork 34 = .ok (.ireturn, 1) := by decide +kernel
theorem dX0_nextWork_35 : decode cX0_nextWork 35 = .ok (.iinc 3 1, 3) := by decide +kernel
theorem dX0_nextWork_38 : decode cX0_nextWork 38 = .ok (.goto (-36), 3) := by decide +kernel
theorem dX0_nextWork_41 : decode cX0_nextWork 41 = .ok (.bipush 99, 2) := by decide +kernel
theorem dX0_nextWork_43 : decode cX0_nextWork 43 = .ok (.ireturn, 1) := by decide +kernel
theorem dX1_clear_0 : decode cX1_clear 0 = .ok (.aload_n 0, 1) := by decide +kernel
theorem dX1_clear_1 : decode cX1_clear 1 = .ok (.iconst 0, 1) := by decide +kernel
theorem dX1_clear_2 : decode cX1_clear 2 = .ok (.putfield 15, 3) := by decide +kernel
theorem dX1_clear_5 : decode cX1_clear 5 = .ok (.return_, 1) := by decide +kernel
theorem dX1_tell_0 : decode cX1_tell 0 = .ok (.aload_n 0, 1) := by decide +kernel
theorem dX1_tell_1 : decode cX1_tell 1 = .ok (.getfield 15, 3) := by decide +kernel
theorem dX1_tell_4 : decode cX1_tell 4 = .ok (.aload_n 0, 1) := by decide +kernel
theorem dX1_tell_5 : decode cX1_tell 5 = .ok (.getfield 9, 3) := by decide +kernel
theorem dX1_tell_8 : decode cX1_tell 8 = .ok (.arraylength, 1) := by decide +kernel
theorem dX1_tell_9 : decode cX1_tell 9 = .ok (.if_icmp .ge 23, 3) := by decide +kernel
theorem dX1_tell_12 : decode cX1_tell 12 = .ok (.aload_n 0, 1) := by decide +kernel
theorem dX1_tell_13 : decode cX1_tell 13 = .ok (.getfield 9, 3) := by decide +kernel
theorem dX1_tell_16 : decode cX1_tell 16 = .ok (.aload_n 0, 1) := by decide +kernel
theorem dX1_tell_17 : decode cX1_tell 17 = .ok (.getfield 15, 3) := by decide +kernel
theorem dX1_tell_20 : decode cX1_tell 20 = .ok (.lload_n 1, 1) := by decide +kernel
theorem dX1_tell_21 : decode cX1_tell 21 = .ok (.lastore, 1) := by decide +kernel
theorem dX1_tell_22 : decode cX1_tell 22 = .ok (.aload_n 0, 1) := by decide +kernel
theorem dX1_tell_23 : decode cX1_tell 23 = .ok (.dup, 1) := by decide +kernel
theorem dX1_tell_24 : decode cX1_tell 24 = .ok (.getfield 15, 3) := by decide +kernel
theorem dX1_tell_27 : decode cX1_tell 27 = .ok (.iconst 1, 1) := by decide +kernel
theorem dX1_tell_28 : decode cX1_tell 28 = .ok (.iadd, 1) := by decide +kernel
theorem dX1_tell_29 : decode cX1_tell 29 = .ok (.putfield 15, 3) := by decide +kernel
theorem dX1_tell_32 : decode cX1_tell 32 = .ok (.return_, 1) := by decide +kernel
theorem dX1_tellFraction_0 : decode cX1_tellFraction 0 = .ok (.lload_n 1, 1) := by decide +kernel
theorem dX1_tellFraction_1 : decode cX1_tellFraction 1 = .ok (.lstore 5, 2) := by decide +kernel
theorem dX1_tellFraction_3 : decode cX1_tellFraction 3 = .ok (.lload_n 3, 1) := by decide +kernel
theorem dX1_tellFraction_4 : decode cX1_tellFraction 4 = .ok (.lstore 7, 2) := by decide +kernel
theorem dX1_tellFraction_6 : decode cX1_tellFraction 6 = .ok (.iconst 0, 1) := by decide +kernel
theorem dX1_tellFraction_7 : decode cX1_tellFraction 7 = .ok (.istore 9, 2) := by decide +kernel
theorem dX1_tellFraction_9 : decode cX1_tellFraction 9 = .ok (.iload 9, 2) := by decide +kernel
theorem dX1_tellFraction_11 : decode cX1_tellFraction 11 = .ok (.bipush 100, 2) := by decide +kernel
theorem dX1_tellFraction_13 : decode cX1_tellFraction 13 = .ok (.if_icmp .ge 31, 3) := by decide +kernel
theorem dX1_tellFraction_16 : decode cX1_tellFraction 16 = .ok (.lload 7, 2) := by decide +kernel
theorem dX1_tellFraction_18 : decode cX1_tellFraction 18 = .ok (.lconst 0, 1) := by decide +kernel
theorem dX1_tellFraction_19 : decode cX1_tellFraction 19 = .ok (.lcmp, 1) := by decide +kernel
theorem dX1_tellFraction_20 : decode cX1_tellFraction 20 = .ok (.ifCond .eq 24, 3) := by decide +kernel
theorem dX1_tellFraction_23 : decode cX1_tellFraction 23 = .ok (.lload 5, 2) := by decide +kernel
theorem dX1_tellFraction_25 : decode cX1_tellFraction 25 = .ok (.lload 7, 2) := by decide +kernel
theorem dX1_tellFraction_27 : decode cX1_tellFraction 27 = .ok (.lrem, 1) := by decide +kernel
theorem dX1_tellFraction_28 : decode cX1_tellFraction 28 = .ok (.lstore 10, 2) := by decide +kernel
theorem dX1_tellFraction_30 : decode cX1_tellFraction 30 = .ok (.lload 7, 2) := by decide +kernel
theorem dX1_tellFraction_32 : decode cX1_tellFraction 32 = .ok (.lstore 5, 2) := by decide +kernel
theorem dX1_tellFraction_34 : decode cX1_tellFraction 34 = .ok (.lload 10, 2) := by decide +kernel
theorem dX1_tellFraction_36 : decode cX1_tellFraction 36 = .ok (.lstore 7, 2) := by decide +kernel
theorem dX1_tellFraction_38 : decode cX1_tellFraction 38 = .ok (.iinc 9 1, 3) := by decide +kernel
theorem dX1_tellFraction_41 : decode cX1_tellFraction 41 = .ok (.goto (-32), 3) := by decide +kernel
theorem dX1_tellFraction_44 : decode cX1_tellFraction 44 = .ok (.lload 5, 2) := by decide +kernel
theorem dX1_tellFraction_46 : decode cX1_tellFraction 46 = .ok (.lconst 0, 1) := by decide +kernel
theorem dX1_tellFraction_47 : decode cX1_tellFraction 47 = .ok (.lcmp, 1) := by decide +kernel
theorem dX1_tellFraction_48 : decode cX1_tellFraction 48 = .ok (.ifCond .ne 6, 3) := by decide +kernel
theorem dX1_tellFraction_51 : decode cX1_tellFraction 51 = .ok (.lconst 1, 1) := by decide +kernel
theorem dX1_tellFraction_52 : decode cX1_tellFraction 52 = .ok (.lstore 5, 2) := by decide +kernel
theorem dX1_tellFraction_54 : decode cX1_tellFraction 54 = .ok (.aload_n 0, 1) := by decide +kernel
theorem dX1_tellFraction_55 : decode cX1_tellFraction 55 = .ok (.lload_n 1, 1) := by decide +kernel
theorem dX1_tellFraction_56 : decode cX1_tellFraction 56 = .ok (.lload 5, 2) := by decide +kernel
theorem dX1_tellFraction_58 : decode cX1_tellFraction 58 = .ok (.ldiv, 1) := by decide +kernel
theorem dX1_tellFraction_59 : decode cX1_tellFraction 59 = .ok (.invokevirtual 19, 3) := by decide +kernel
theorem dX1_tellFraction_62 : decode cX1_tellFraction 62 = .ok (.aload_n 0, 1) := by decide +kernel
theorem dX1_tellFraction_63 : decode cX1_tellFraction 63 = .ok (.lload_n 3, 1) := by decide +kernel
theorem dX1_tellFraction_64 : decode cX1_tellFraction 64 = .ok (.lload 5, 2) := by decide +kernel
theorem dX1_tellFraction_66 : decode cX1_tellFraction 66 = .ok (.ldiv, 1) := by decide +kernel
theorem dX1_tellFraction_67 : decode cX1_tellFraction 67 = .ok (.invokevirtual 19, 3) := by decide +kernel
theorem dX1_tellFraction_70 : decode cX1_tellFraction 70 = .ok (.return_, 1) := by decide +kernel
theorem dX2_settle_0 : decode cX2_settle 0 = .ok (.aload_n 0, 1) := by decide +kernel
theorem dX2_settle_1 : decode cX2_settle 1 = .ok (.iload_n 1, 1) := by decide +kernel
theorem dX2_settle_2 : decode cX2_settle 2 = .ok (.bipush 24, 2) := by decide +kernel
theorem dX2_settle_4 : decode cX2_settle 4 = .ok (.idiv, 1) := by decide +kernel
theorem dX2_settle_5 : decode cX2_settle 5 = .ok (.putfield 15, 3) := by decide +kernel
theorem dX2_settle_8 : decode cX2_settle 8 = .ok (.aload_n 0, 1) := by decide +kernel
theorem dX2_settle_9 : decode cX2_settle 9 = .ok (.iload_n 1, 1) := by decide +kernel
theorem dX2_settle_10 : decode cX2_settle 10 = .ok (.bipush 24, 2) := by decide +kernel
theorem dX2_settle_12 : decode cX2_settle 12 = .ok (.irem, 1) := by decide +kernel
theorem dX2_settle_13 : decode cX2_settle 13 = .ok (.putfield 19, 3) := by decide +kernel
theorem dX2_settle_16 : decode cX2_settle 16 = .ok (.aload_n 0, 1) := by decide +kernel
theorem dX2_settle_17 : decode cX2_settle 17 = .ok (.iload_n 2, 1) := by decide +kernel
theorem dX2_settle_18 : decode cX2_settle 18 = .ok (.putfield 22, 3) := by decide +kernel
theorem dX2_settle_21 : decode cX2_settle 21 = .ok (.aload_n 0, 1) := by decide +kernel
theorem dX2_settle_22 : decode cX2_settle 22 = .ok (.iload_n 3, 1) := by decide +kernel
theorem dX2_settle_23 : decode cX2_settle 23 = .ok (.putfield 25, 3) := by decide +kernel
theorem dX2_settle_26 : decode cX2_settle 26 = .ok (.aload_n 0, 1) := by decide +kernel
theorem dX2_settle_27 : decode cX2_settle 27 = .ok (.iload 4, 2) := by decide +kernel
theorem dX2_settle_29 : decode cX2_settle 29 = .ok (.bipush 64, 2) := by decide +kernel
theorem dX2_settle_31 : decode cX2_settle 31 = .ok (.idiv, 1) := by decide +kernel
theorem dX2_settle_32 : decode cX2_settle 32 = .ok (.putfield 28, 3) := by decide +kernel
theorem dX2_settle_35 : decode cX2_settle 35 = .ok (.aload_n 0, 1) := by decide +kernel
theorem dX2_settle_36 : decode cX2_settle 36 = .ok (.iload 4, 2) := by decide +kernel
theorem dX2_settle_38 : decode cX2_settle 38 = .ok (.bipush 63, 2) := by decide +kernel
theorem dX2_settle_40 : decode cX2_settle 40 = .ok (.iand, 1) := by decide +kernel
theorem dX2_settle_41 : decode cX2_settle 41 = .ok (.putfield 31, 3) := by decide +kernel
theorem dX2_settle_44 : decode cX2_settle 44 = .ok (.return_, 1) := by decide +kernel
theorem dX3_told_0 : decode cX3_told 0 = .ok (.iconst 0, 1) := by decide +kernel
theorem dX3_told_1 : decode cX3_told 1 = .ok (.istore_n 3, 1) := by decide +kernel
theorem dX3_told_2 : decode cX3_told 2 = .ok (.iload_n 3, 1) := by decide +kernel
theorem dX3_told_3 : decode cX3_told 3 = .ok (.aload_n 0, 1) := by decide +kernel
theorem dX3_told_4 : decode cX3_told 4 = .ok (.getfield 24, 3) := by decide +kernel
theorem dX3_told_7 : decode cX3_told 7 = .ok (.if_icmp .ge 51, 3) := by decide +kernel
theorem dX3_told_10 : decode cX3_told 10 = .ok (.aload_n 0, 1) := by decide +kernel
theorem dX3_told_11 : decode cX3_told 11 = .ok (.getfield 9, 3) := by decide +kernel
theorem dX3_told_14 : decode cX3_told 14 = .ok (.iload_n 3, 1) := by decide +kernel
theorem dX3_told_15 : decode cX3_told 15 = .ok (.iaload, 1) := by decide +kernel
theorem dX3_told_16 : decode cX3_told 16 = .ok (.iload_n 1, 1) := by decide +kernel
theorem dX3_told_17 : decode cX3_told 17 = .ok (.if_icmp .ne 13, 3) := by decide +kernel
theorem dX3_told_20 : decode cX3_told 20 = .ok (.aload_n 0, 1) := by decide +kernel
theorem dX3_told_21 : decode cX3_told 21 = .ok (.getfield 15, 3) := by decide +kernel
theorem dX3_told_24 : decode cX3_told 24 = .ok (.iload_n 3, 1) := by decide +kernel
theorem dX3_told_25 : decode cX3_told 25 = .ok (.iaload, 1) := by decide +kernel
theorem dX3_told_26 : decode cX3_told 26 = .ok (.iload_n 2, 1) := by decide +kernel
theorem dX3_told_27 : decode cX3_told 27 = .ok (.if_icmp .eq 23, 3) := by decide +kernel
theorem dX3_told_30 : decode cX3_told 30 = .ok (.aload_n 0, 1) := by decide +kernel
theorem dX3_told_31 : decode cX3_told 31 = .ok (.getfield 9, 3) := by decide +kernel
theorem dX3_told_34 : decode cX3_told 34 = .ok (.iload_n 3, 1) := by decide +kernel
theorem dX3_told_35 : decode cX3_told 35 = .ok (.iaload, 1) := by decide +kernel
theorem dX3_told_36 : decode cX3_told 36 = .ok (.iload_n 2, 1) := by decide +kernel
theorem dX3_told_37 : decode cX3_told 37 = .ok (.if_icmp .ne 15, 3) := by decide +kernel
theorem dX3_told_40 : decode cX3_told 40 = .ok (.aload_n 0, 1) := by decide +kernel
theorem dX3_told_41 : decode cX3_told 41 = .ok (.getfield 15, 3) := by decide +kernel
theorem dX3_told_44 : decode cX3_told 44 = .ok (.iload_n 3, 1) := by decide +kernel
theorem dX3_told_45 : decode cX3_told 45 = .ok (.iaload, 1) := by decide +kernel
theorem dX3_told_46 : decode cX3_told 46 = .ok (.iload_n 1, 1) := by decide +kernel
theorem dX3_told_47 : decode cX3_told 47 = .ok (.if_icmp .ne 5, 3) := by decide +kernel
theorem dX3_told_50 : decode cX3_told 50 = .ok (.iconst 1, 1) := by decide +kernel
theorem dX3_told_51 : decode cX3_told 51 = .ok (.ireturn, 1) := by decide +kernel
theorem dX3_told_52 : decode cX3_told 52 = .ok (.iinc 3 1, 3) := by decide +kernel
theorem dX3_told_55 : decode cX3_told 55 = .ok (.goto (-53), 3) := by decide +kernel
theorem dX3_told_58 : decode cX3_told 58 = .ok (.iconst 0, 1) := by decide +kernel
theorem dX3_told_59 : decode cX3_told 59 = .ok (.ireturn, 1) := by decide +kernel
theorem dX3_priceOf_0 : decode cX3_priceOf 0 = .ok (.iconst 0, 1) := by decide +kernel
theorem dX3_priceOf_1 : decode cX3_priceOf 1 = .ok (.istore_n 2, 1) := by decide +kernel
theorem dX3_priceOf_2 : decode cX3_priceOf 2 = .ok (.iconst 0, 1) := by decide +kernel
theorem dX3_priceOf_3 : decode cX3_priceOf 3 = .ok (.istore_n 3, 1) := by decide +kernel
theorem dX3_priceOf_4 : decode cX3_priceOf 4 = .ok (.iload_n 3, 1) := by decide +kernel
theorem dX3_priceOf_5 : decode cX3_priceOf 5 = .ok (.aload_n 0, 1) := by decide +kernel
theorem dX3_priceOf_6 : decode cX3_priceOf 6 = .ok (.getfield 24, 3) := by decide +kernel
theorem dX3_priceOf_9 : decode cX3_priceOf 9 = .ok (.if_icmp .ge 24, 3) := by decide +kernel
theorem dX3_priceOf_12 : decode cX3_priceOf 12 = .ok (.iload_n 2, 1) := by decide +kernel
theorem dX3_priceOf_13 : decode cX3_priceOf 13 = .ok (.iload_n 1, 1) := by decide +kernel
theorem dX3_priceOf_14 : decode cX3_priceOf 14 = .ok (.iload_n 3, 1) := by decide +kernel
theorem dX3_priceOf_15 : decode cX3_priceOf 15 = .ok (.ishr, 1) := by decide +kernel
theorem dX3_priceOf_16 : decode cX3_priceOf 16 = .ok (.iconst 1, 1) := by decide +kernel
theorem dX3_priceOf_17 : decode cX3_priceOf 17 = .ok (.iand, 1) := by decide +kernel
theorem dX3_priceOf_18 : decode cX3_priceOf 18 = .ok (.aload_n 0, 1) := by decide +kernel
theorem dX3_priceOf_19 : decode cX3_priceOf 19 = .ok (.getfield 18, 3) := by decide +kernel
theorem dX3_priceOf_22 : decode cX3_priceOf 22 = .ok (.iload_n 3, 1) := by decide +kernel
theorem dX3_priceOf_23 : decode cX3_priceOf 23 = .ok (.iaload, 1) := by decide +kernel
theorem dX3_priceOf_24 : decode cX3_priceOf 24 = .ok (.imul, 1) := by decide +kernel
theorem dX3_priceOf_25 : decode cX3_priceOf 25 = .ok (.iadd, 1) := by decide +kernel
theorem dX3_priceOf_26 : decode cX3_priceOf 26 = .ok (.istore_n 2, 1) := by decide +kernel
theorem dX3_priceOf_27 : decode cX3_priceOf 27 = .ok (.iinc 3 1, 3) := by decide +kernel
theorem dX3_priceOf_30 : decode cX3_priceOf 30 = .ok (.goto (-26), 3) := by decide +kernel
theorem dX3_priceOf_33 : decode cX3_priceOf 33 = .ok (.iload_n 2, 1) := by decide +kernel
theorem dX3_priceOf_34 : decode cX3_priceOf 34 = .ok (.ireturn, 1) := by decide +kernel
theorem dJ9_min_7cf53_0 : decode cJ9_min_7cf53 0 = .ok (.iload_n 0, 1) := by decide +kernel
theorem dJ9_min_7cf53_1 : decode cJ9_min_7cf53 1 = .ok (.iload_n 1, 1) := by decide +kernel
theorem dJ9_min_7cf53_2 : decode cJ9_min_7cf53 2 = .ok (.if_icmp .gt 7, 3) := by decide +kernel
theorem dJ9_min_7cf53_5 : decode cJ9_min_7cf53 5 = .ok (.iload_n 0, 1) := by decide +kernel
theorem dJ9_min_7cf53_6 : decode cJ9_min_7cf53 6 = .ok (.goto 4, 3) := by decide +kernel
theorem dJ9_min_7cf53_9 : decode cJ9_min_7cf53 9 = .ok (.iload_n 1, 1) := by decide +kernel
theorem dJ9_min_7cf53_10 : decode cJ9_min_7cf53 10 = .ok (.ireturn, 1) := by decide +kernel
theorem dX3_bringTogether_0 : decode cX3_bringTogether 0 = .ok (.iconst 0, 1) := by decide +kernel
theorem dX3_bringTogether_1 : decode cX3_bringTogether 1 = .ok (.istore_n 3, 1) := by decide +kernel
theorem dX3_bringTogether_2 : decode cX3_bringTogether 2 = .ok (.iload_n 3, 1) := by decide +kernel
theorem dX3_bringTogether_3 : decode cX3_bringTogether 3 = .ok (.aload_n 0, 1) := by decide +kernel
theorem dX3_bringTogether_4 : decode cX3_bringTogether 4 = .ok (.getfield 24, 3) := by decide +kernel
theorem dX3_bringTogether_7 : decode cX3_bringTogether 7 = .ok (.if_icmp .ge 74, 3) := by decide +kernel
theorem dX3_bringTogether_10 : decode cX3_bringTogether 10 = .ok (.aload_n 0, 1) := by decide +kernel
theorem dX3_bringTogether_11 : decode cX3_bringTogether 11 = .ok (.getfield 21, 3) := by decide +kernel
theorem dX3_bringTogether_14 : decode cX3_bringTogether 14 = .ok (.iload_n 3, 1) := by decide +kernel
theorem dX3_bringTogether_15 : decode cX3_bringTogether 15 = .ok (.aload_n 1, 1) := by decide +kernel
theorem dX3_bringTogether_16 : decode cX3_bringTogether 16 = .ok (.getfield 28, 3) := by decide +kernel
theorem dX3_bringTogether_19 : decode cX3_bringTogether 19 = .ok (.aload_n 0, 1) := by decide +kernel
theorem dX3_bringTogether_20 : decode cX3_bringTogether 20 = .ok (.getfield 9, 3) := by decide +kernel
theorem dX3_bringTogether_23 : decode cX3_bringTogether 23 = .ok (.iload_n 3, 1) := by decide +kernel
theorem dX3_bringTogether_24 : decode cX3_bringTogether 24 = .ok (.iaload, 1) := by decide +kernel
theorem dX3_bringTogether_25 : decode cX3_bringTogether 25 = .ok (.bipush 6, 2) := by decide +kernel
theorem dX3_bringTogether_27 : decode cX3_bringTogether 27 = .ok (.imul, 1) := by decide +kernel
theorem dX3_bringTogether_28 : decode cX3_bringTogether 28 = .ok (.aload_n 0, 1) := by decide +kernel
theorem dX3_bringTogether_29 : decode cX3_bringTogether 29 = .ok (.getfield 15, 3) := by decide +kernel
theorem dX3_bringTogether_32 : decode cX3_bringTogether 32 = .ok (.iload_n 3, 1) := by decide +kernel
theorem dX3_bringTogether_33 : decode cX3_bringTogether 33 = .ok (.iaload, 1) := by decide +kernel
theorem dX3_bringTogether_34 : decode cX3_bringTogether 34 = .ok (.iadd, 1) := by decide +kernel
theorem dX3_bringTogether_35 : decode cX3_bringTogether 35 = .ok (.iaload, 1) := by decide +kernel
theorem dX3_bringTogether_36 : decode cX3_bringTogether 36 = .ok (.iastore, 1) := by decide +kernel
theorem dX3_bringTogether_37 : decode cX3_bringTogether 37 = .ok (.iload_n 2, 1) := by decide +kernel
theorem dX3_bringTogether_38 : decode cX3_bringTogether 38 = .ok (.iload_n 3, 1) := by decide +kernel
theorem dX3_bringTogether_39 : decode cX3_bringTogether 39 = .ok (.ishr, 1) := by decide +kernel
theorem dX3_bringTogether_40 : decode cX3_bringTogether 40 = .ok (.iconst 1, 1) := by decide +kernel
theorem dX3_bringTogether_41 : decode cX3_bringTogether 41 = .ok (.iand, 1) := by decide +kernel
theorem dX3_bringTogether_42 : decode cX3_bringTogether 42 = .ok (.iconst 1, 1) := by decide +kernel
theorem dX3_bringTogether_43 : decode cX3_bringTogether 43 = .ok (.if_icmp .ne 32, 3) := by decide +kernel
theorem dX3_bringTogether_46 : decode cX3_bringTogether 46 = .ok (.aload_n 1, 1) := by decide +kernel
theorem dX3_bringTogether_47 : decode cX3_bringTogether 47 = .ok (.aload_n 0, 1) := by decide +kernel
theorem dX3_bringTogether_48 : decode cX3_bringTogether 48 = .ok (.getfield 9, 3) := by decide +kernel
theorem dX3_bringTogether_51 : decode cX3_bringTogether 51 = .ok (.iload_n 3, 1) := by decide +kernel
theorem dX3_bringTogether_52 : decode cX3_bringTogether 52 = .ok (.iaload, 1) := by decide +kernel
theorem dX3_bringTogether_53 : decode cX3_bringTogether 53 = .ok (.aload_n 0, 1) := by decide +kernel
theorem dX3_bringTogether_54 : decode cX3_bringTogether 54 = .ok (.getfield 15, 3) := by decide +kernel
theorem dX3_bringTogether_57 : decode cX3_bringTogether 57 = .ok (.iload_n 3, 1) := by decide +kernel
theorem dX3_bringTogether_58 : decode cX3_bringTogether 58 = .ok (.iaload, 1) := by decide +kernel
theorem dX3_bringTogether_59 : decode cX3_bringTogether 59 = .ok (.aload_n 0, 1) := by decide +kernel
theorem dX3_bringTogether_60 : decode cX3_bringTogether 60 = .ok (.getfield 21, 3) := by decide +kernel
theorem dX3_bringTogether_63 : decode cX3_bringTogether 63 = .ok (.iload_n 3, 1) := by decide +kernel
theorem dX3_bringTogether_64 : decode cX3_bringTogether 64 = .ok (.iaload, 1) := by decide +kernel
theorem dX3_bringTogether_65 : decode cX3_bringTogether 65 = .ok (.iconst 3, 1) := by decide +kernel
theorem dX3_bringTogether_66 : decode cX3_bringTogether 66 = .ok (.iadd, 1) := by decide +kernel
theorem dX3_bringTogether_67 : decode cX3_bringTogether 67 = .ok (.bipush 9, 2) := by decide +kernel
theorem dX3_bringTogether_69 : decode cX3_bringTogether 69 = .ok (.invokestatic 33, 3) := by decide +kernel
theorem dX3_bringTogether_72 : decode cX3_bringTogether 72 = .ok (.invokevirtual 39, 3) := by decide +kernel
theorem dX3_bringTogether_75 : decode cX3_bringTogether 75 = .ok (.iinc 3 1, 3) := by decide +kernel
theorem dX3_bringTogether_78 : decode cX3_bringTogether 78 = .ok (.goto (-76), 3) := by decide +kernel
theorem dX3_bringTogether_81 : decode cX3_bringTogether 81 = .ok (.return_, 1) := by decide +kernel
noncomputable def f_X0_has (fu : Nat) (x1 : Int32) (m : hM) : Option (Int32 × hM) :=
  if x1 < 0 then (
some (0, m)) else (
if (gI m 1 4) ≤ x1 then (
some (0, m)) else (
some (1, m)))
set_option maxRecDepth 100000 in
set_option maxHeartbeats 4000000 in
theorem c_X0_has (G : hG) (fu : Nat) (x1 : Int32) (m : hM) : Mt vI G 1 yX0_has cX0_has 2 (some .boolean) [hA G 1, .int x1] m (f_X0_has fu x1 m) := by
  refine mt_of (by decide +kernel) (Nat.le_of_ble_eq_true rfl) (fun X C K => ?_)
  have C : Cx G X 1 cX0_has 2 RX0 (some .boolean) := C
  show Rf vI G X 0 [(0, hA G 1), (1, .int x1)] [] m _
  unfold f_X0_has
  refine rf_iload_n C (n := 1) (q := 1) dX0_has_0 rfl rfl rfl ?_
  refine rf_if_lt C (tgt := 16) (n := 4) dX0_has_1 (by decide) rfl (fun h1 => ?_) (fun h1 => ?_)
  · refine rf_iconst C (n := 17) (v := 0) dX0_has_16 rfl (by decide) ?_
    exact rf_zret C K (by decide) dX0_has_17
  · refine rf_iload_n C (n := 5) (q := 1) dX0_has_4 rfl rfl rfl ?_
    refine rf_aload_n C (n := 6) (q := 0) dX0_has_5 rfl rfl rfl ?_
    refine rf_getI C (n := 9) fl_RX0_28 ly_1 rfl dX0_has_6 rfl ?_
    refine rf_icmp_ge C (tgt := 16) (n := 12) dX0_has_9 (by decide) rfl (fun h2 => ?_) (fun h2 => ?_)
    · refine rf_iconst C (n := 17) (v := 0) dX0_has_16 rfl (by decide) ?_
      exact rf_zret C K (by decide) dX0_has_17
    · refine rf_iconst C (n := 13) (v := 1) dX0_has_12 rfl (by decide) ?_
      refine rf_goto C (n := 17) dX0_has_13 (by decide) ?_
      exact rf_zret C K (by decide) dX0_has_17
noncomputable def f_J9_max_7cf53 (fu : Nat) (x0 : Int32) (x1 : Int32) (m : hM) : Option (Int32 × hM) :=
  if x0 < x1 then (
some (x1, m)) else (
some (x0, m))
set_option maxRecDepth 100000 in
set_option maxHeartbeats 4000000 in
theorem c_J9_max_7cf53 (G : hG) (fu : Nat) (x0 : Int32) (x1 : Int32) (m : hM) : Mt vI G 1 yJ9_max_7cf53 cJ9_max_7cf53 2 (some .int) [.int x0, .int x1] m (f_J9_max_7cf53 fu x0 x1 m) := by
  refine mt_of (by decide +kernel) (Nat.le_of_ble_eq_true rfl) (fun X C K => ?_)
  have C : Cx G X 1 cJ9_max_7cf53 2 RJ9 (some .int) := C
  show Rf vI G X 0 [(0, .int x0), (1, .int x1)] [] m _
  unfold f_J9_max_7cf53
  refine rf_iload_n C (n := 1) (q := 0) dJ9_max_7cf53_0 rfl rfl rfl ?_
  refine rf_iload_n C (n := 2) (q := 1) dJ9_max_7cf53_1 rfl rfl rfl ?_
  refine rf_icmp_lt C (tgt := 9) (n := 5) dJ9_max_7cf53_2 (by decide) rfl (fun h1 => ?_) (fun h1 => ?_)
  · refine rf_iload_n C (n := 10) (q := 1) dJ9_max_7cf53_9 rfl rfl rfl ?_
    exact rf_iret C K dJ9_max_7cf53_10
  · refine rf_iload_n C (n := 6) (q := 0) dJ9_max_7cf53_5 rfl rfl rfl ?_
    refine rf_goto C (n := 10) dJ9_max_7cf53_6 (by decide) ?_
    exact rf_iret C K dJ9_max_7cf53_10
noncomputable def f_J9_floorDiv_7cf53 (fu : Nat) (x0 : Int32) (x1 : Int32) (m : hM) : Option (Int32 × hM) :=
  if ¬ x1 = 0 then (
hLet (x0 / x1) fun y2 =>
if 0 ≤ (x0 ^^^ x1) then (
some (y2, m)) else (
if (y2 * x1) = x0 then (
some (y2, m)) else (
some (y2 - 1, m)))) else none
set_option maxRecDepth 100000 in
set_option maxHeartbeats 4000000 in
theorem c_J9_floorDiv_7cf53 (G : hG) (fu : Nat) (x0 : Int32) (x1 : Int32) (m : hM) : Mt vI G 1 yJ9_floorDiv_7cf53 cJ9_floorDiv_7cf53 3 (some .int) [.int x0, .int x1] m (f_J9_floorDiv_7cf53 fu x0 x1 m) := by
  refine mt_of (by decide +kernel) (Nat.le_of_ble_eq_true rfl) (fun X C K => ?_)
  have C : Cx G X 1 cJ9_floorDiv_7cf53 3 RJ9 (some .int) := C
  show Rf vI G X 0 [(0, .int x0), (1, .int x1)] [] m _
  unfold f_J9_floorDiv_7cf53
  refine rf_iload_n C (n := 1) (q := 0) dJ9_floorDiv_7cf53_0 rfl rfl rfl ?_
  refine rf_iload_n C (n := 2) (q := 1) dJ9_floorDiv_7cf53_1 rfl rfl rfl ?_
  refine rf_guard (fun h1 => ?_)
  refine rf_idiv C (n := 3) dJ9_floorDiv_7cf53_2 rfl h1 ?_
  refine rf_letI (fun y2 => ?_)
  refine rf_istore_n C (n := 4) [(2, .int y2), (0, .int x0), (1, .int x1)] dJ9_floorDiv_7cf53_3 rfl rfl (by decide) rfl ?_
  refine rf_iload_n C (n := 5) (q := 1) dJ9_floorDiv_7cf53_4 rfl rfl rfl ?_
  refine rf_iload_n C (n := 6) (q := 2) dJ9_floorDiv_7cf53_5 rfl rfl rfl ?_
  refine rf_ixor C (n := 7) dJ9_floorDiv_7cf53_6 rfl ?_
  refine rf_if_ge C (tgt := 21) (n := 10) dJ9_floorDiv_7cf53_7 (by decide) rfl (fun h3 => ?_) (fun h3 => ?_)
  · refine rf_iload_n C (n := 22) (q := 0) dJ9_floorDiv_7cf53_21 rfl rfl rfl ?_
    exact rf_iret C K dJ9_floorDiv_7cf53_22
  · refine rf_iload_n C (n := 11) (q := 0) dJ9_floorDiv_7cf53_10 rfl rfl rfl ?_
    refine rf_iload_n C (n := 12) (q := 2) dJ9_floorDiv_7cf53_11 rfl rfl rfl ?_
    refine rf_imul C (n := 13) dJ9_floorDiv_7cf53_12 rfl ?_
    refine rf_iload_n C (n := 14) (q := 1) dJ9_floorDiv_7cf53_13 rfl rfl rfl ?_
    refine rf_icmp_eq C (tgt := 21) (n := 17) dJ9_floorDiv_7cf53_14 (by decide) rfl (fun h4 => ?_) (fun h4 => ?_)
    · refine rf_iload_n C (n := 22) (q := 0) dJ9_floorDiv_7cf53_21 rfl rfl rfl ?_
      exact rf_iret C K dJ9_floorDiv_7cf53_22
    · refine rf_iload_n C (n := 18) (q := 0) dJ9_floorDiv_7cf53_17 rfl rfl rfl ?_
      refine rf_iconst C (n := 19) (v := 1) dJ9_floorDiv_7cf53_18 rfl (by decide) ?_
      refine rf_isub C (n := 20) dJ9_floorDiv_7cf53_19 rfl ?_
      exact rf_iret C K dJ9_floorDiv_7cf53_20
noncomputable def f_J9_floorMod_7cf53 (fu : Nat) (x0 : Int32) (x1 : Int32) (m : hM) : Option (Int32 × hM) :=
  if ¬ x1 = 0 then (
hLet (x0 - x0 / x1 * x1) fun y2 =>
if 0 ≤ (x0 ^^^ x1) then (
some (y2, m)) else (
if y2 = 0 then (
some (y2, m)) else (
some (y2 + x1, m)))) else none
set_option maxRecDepth 100000 in
set_option maxHeartbeats 4000000 in
theorem c_J9_floorMod_7cf53 (G : hG) (fu : Nat) (x0 : Int32) (x1 : Int32) (m : hM) : Mt vI G 1 yJ9_floorMod_7cf53 cJ9_floorMod_7cf53 3 (some .int) [.int x0, .int x1] m (f_J9_floorMod_7cf53 fu x0 x1 m) := by
  refine mt_of (by decide +kernel) (Nat.le_of_ble_eq_true rfl) (fun X C K => ?_)
  have C : Cx G X 1 cJ9_floorMod_7cf53 3 RJ9 (some .int) := C
  show Rf vI G X 0 [(0, .int x0), (1, .int x1)] [] m _
  unfold f_J9_floorMod_7cf53
  refine rf_iload_n C (n := 1) (q := 0) dJ9_floorMod_7cf53_0 rfl rfl rfl ?_
  refine rf_iload_n C (n := 2) (q := 1) dJ9_floorMod_7cf53_1 rfl rfl rfl ?_
  refine rf_guard (fun h1 => ?_)
  refine rf_irem C (n := 3) dJ9_floorMod_7cf53_2 rfl h1 ?_
  refine rf_letI (fun y2 => ?_)
  refine rf_istore_n C (n := 4) [(2, .int y2), (0, .int x0), (1, .int x1)] dJ9_floorMod_7cf53_3 rfl rfl (by decide) rfl ?_
  refine rf_iload_n C (n := 5) (q := 1) dJ9_floorMod_7cf53_4 rfl rfl rfl ?_
  refine rf_iload_n C (n := 6) (q := 2) dJ9_floorMod_7cf53_5 rfl rfl rfl ?_
  refine rf_ixor C (n := 7) dJ9_floorMod_7cf53_6 rfl ?_
  refine rf_if_ge C (tgt := 18) (n := 10) dJ9_floorMod_7cf53_7 (by decide) rfl (fun h3 => ?_) (fun h3 => ?_)
  · refine rf_iload_n C (n := 19) (q := 0) dJ9_floorMod_7cf53_18 rfl rfl rfl ?_
    exact rf_iret C K dJ9_floorMod_7cf53_19
  · refine rf_iload_n C (n := 11) (q := 0) dJ9_floorMod_7cf53_10 rfl rfl rfl ?_
    refine rf_if_eq C (tgt := 18) (n := 14) dJ9_floorMod_7cf53_11 (by decide) rfl (fun h4 => ?_) (fun h4 => ?_)
    · refine rf_iload_n C (n := 19) (q := 0) dJ9_floorMod_7cf53_18 rfl rfl rfl ?_
      exact rf_iret C K dJ9_floorMod_7cf53_19
    · refine rf_iload_n C (n := 15) (q := 0) dJ9_floorMod_7cf53_14 rfl rfl rfl ?_
      refine rf_iload_n C (n := 16) (q := 2) dJ9_floorMod_7cf53_15 rfl rfl rfl ?_
      refine rf_iadd C (n := 17) dJ9_floorMod_7cf53_16 rfl ?_
      exact rf_iret C K dJ9_floorMod_7cf53_17
noncomputable def f_X10_isDay (fu : Nat) (x0 : Int32) (m : hM) : Option (Int32 × hM) :=
  if x0 < 0 then (
some (0, m)) else (
if 100 ≤ x0 then (
some (0, m)) else (
some (1, m)))
set_option maxRecDepth 100000 in
set_option maxHeartbeats 4000000 in
theorem c_X10_isDay (G : hG) (fu : Nat) (x0 : Int32) (m : hM) : Mt vI G 1 yX10_isDay cX10_isDay 1 (some .boolean) [.int x0] m (f_X10_isDay fu x0 m) := by
  refine mt_of (by decide +kernel) (Nat.le_of_ble_eq_true rfl) (fun X C K => ?_)
  have C : Cx G X 1 cX10_isDay 1 RX10 (some .boolean) := C
  show Rf vI G X 0 [(0, .int x0)] [] m _
  unfold f_X10_isDay
  refine rf_iload_n C (n := 1) (q := 0) dX10_isDay_0 rfl rfl rfl ?_
  refine rf_if_lt C (tgt := 14) (n := 4) dX10_isDay_1 (by decide) rfl (fun h1 => ?_) (fun h1 => ?_)
  · refine rf_iconst C (n := 15) (v := 0) dX10_isDay_14 rfl (by decide) ?_
    exact rf_zret C K (by decide) dX10_isDay_15
  · refine rf_iload_n C (n := 5) (q := 0) dX10_isDay_4 rfl rfl rfl ?_
    refine rf_bipush C (n := 7) (v := 100) dX10_isDay_5 rfl (by decide) ?_
    refine rf_icmp_ge C (tgt := 14) (n := 10) dX10_isDay_7 (by decide) rfl (fun h2 => ?_) (fun h2 => ?_)
    · refine rf_iconst C (n := 15) (v := 0) dX10_isDay_14 rfl (by decide) ?_
      exact rf_zret C K (by decide) dX10_isDay_15
    · refine rf_iconst C (n := 11) (v := 1) dX10_isDay_10 rfl (by decide) ?_
      refine rf_goto C (n := 15) dX10_isDay_11 (by decide) ?_
      exact rf_zret C K (by decide) dX10_isDay_15
noncomputable def f_X2_atWork_22 (fu : Nat) (a0 : Nat) (s0 : Int32) (s1 : Int32) (m : hM) : Option (Int32 × hM) :=
  hLet (s0 + s1) fun y2 =>
hBd (f_J9_floorMod_7cf53 fu (y2 - (gI m a0 1)) 24 m) fun y3 m4 =>
if y3 < (gI m4 a0 2) then (
hBd (f_J9_floorDiv_7cf53 fu (y2 - y3) 24 m4) fun y6 m7 =>
hBd (f_X10_isDay fu y6 m7) fun y8 m9 =>
if y8 = 0 then (
some (1, m9)) else (
if hIn y6 100 then (
if ¬ (gI m9 (a0 + 1) (Int32.toNatClampNeg y6)) = 0 then (
some (0, m9)) else (
some (1, m9))) else none)) else (
some (0, m4))
set_option maxRecDepth 100000 in
set_option maxHeartbeats 4000000 in
theorem r_X2_atWork_22 {G : hG} {X : hX} (C : Cx G X 2 cX2_atWork 5 RX2 (some .boolean)) (K : Cr G X) (fu : Nat) (a0 : Nat) (ha0 : a0 ∈ ofL) (s0 : Int32) (s1 : Int32) (m : hM) : Rf vI G X 22 [(0, hA G a0)] [.int s1, .int s0] m (f_X2_atWork_22 fu a0 s0 s1 m) := by
  unfold f_X2_atWork_22
  refine rf_iadd C (n := 23) dX2_atWork_22 rfl ?_
  refine rf_letI (fun y2 => ?_)
  refine rf_istore_n C (n := 24) [(2, .int y2), (0, hA G a0)] dX2_atWork_23 rfl rfl (by decide) rfl ?_
  refine rf_iload_n C (n := 25) (q := 0) dX2_atWork_24 rfl rfl rfl ?_
  refine rf_aload_n C (n := 26) (q := 1) dX2_atWork_25 rfl rfl rfl ?_
  refine rf_getI C (n := 29) fl_RX2_19 (pO_l ha0) rfl dX2_atWork_26 rfl ?_
  refine rf_isub C (n := 30) dX2_atWork_29 rfl ?_
  refine rf_bipush C (n := 32) (v := 24) dX2_atWork_30 rfl (by decide) ?_
  refine rf_callSi C (n := 35) (c_J9_floorMod_7cf53 G fu _ _ _) sw_RX2_40 ⟨by decide, by decide⟩ rfl (Nat.le_of_ble_eq_true rfl) rfl dX2_atWork_32 rfl (fun y3 m4 => ?_)
  refine rf_istore_n C (n := 36) [(3, .int y3), (2, .int y2), (0, hA G a0)] dX2_atWork_35 rfl rfl (by decide) rfl ?_
  refine rf_iload_n C (n := 37) (q := 0) dX2_atWork_36 rfl rfl rfl ?_
  refine rf_aload_n C (n := 38) (q := 2) dX2_atWork_37 rfl rfl rfl ?_
  refine rf_getI C (n := 41) fl_RX2_22 (pO_l ha0) rfl dX2_atWork_38 rfl ?_
  refine rf_icmp_lt C (tgt := 46) (n := 44) dX2_atWork_41 (by decide) rfl (fun h5 => ?_) (fun h5 => ?_)
  · refine rf_iload_n C (n := 47) (q := 1) dX2_atWork_46 rfl rfl rfl ?_
    refine rf_iload_n C (n := 48) (q := 0) dX2_atWork_47 rfl rfl rfl ?_
    refine rf_isub C (n := 49) dX2_atWork_48 rfl ?_
    refine rf_bipush C (n := 51) (v := 24) dX2_atWork_49 rfl (by decide) ?_
    refine rf_callSi C (n := 54) (c_J9_floorDiv_7cf53 G fu _ _ _) sw_RX2_46 ⟨by decide, by decide⟩ rfl (Nat.le_of_ble_eq_true rfl) rfl dX2_atWork_51 rfl (fun y6 m7 => ?_)
    refine rf_istore C (n := 56) [(4, .int y6), (3, .int y3), (2, .int y2), (0, hA G a0)] dX2_atWork_54 rfl (by decide) rfl ?_
    refine rf_iload C (n := 58) (q := 0) dX2_atWork_56 rfl rfl ?_
    refine rf_callNi C (n := 61) (c_X10_isDay G fu _ _) nw_RX2_49 ⟨by decide, by decide⟩ rfl (Nat.le_of_ble_eq_true rfl) rfl dX2_atWork_58 rfl (fun y8 m9 => ?_)
    refine rf_if_eq C (tgt := 74) (n := 64) dX2_atWork_61 (by decide) rfl (fun h10 => ?_) (fun h10 => ?_)
    · refine rf_iconst C (n := 75) (v := 1) dX2_atWork_74 rfl (by decide) ?_
      refine rf_goto C (n := 79) dX2_atWork_75 (by decide) ?_
      exact rf_zret C K (by decide) dX2_atWork_79
    · refine rf_aload_n C (n := 65) (q := 3) dX2_atWork_64 rfl rfl rfl ?_
      refine rf_getS C (n := 68) fl_RX2_9 (pO_l ha0) rfl dX2_atWork_65 rfl ?_
      refine rf_iload C (n := 70) (q := 0) dX2_atWork_68 rfl rfl ?_
      refine rf_guard (fun h11 => ?_)
      refine rf_zald C (n := 71) (of_a1 ha0) h11 rfl dX2_atWork_70 rfl ?_
      refine rf_if_ne C (tgt := 78) (n := 74) dX2_atWork_71 (by decide) rfl (fun h12 => ?_) (fun h12 => ?_)
      · refine rf_iconst C (n := 79) (v := 0) dX2_atWork_78 rfl (by decide) ?_
        exact rf_zret C K (by decide) dX2_atWork_79
      · refine rf_iconst C (n := 75) (v := 1) dX2_atWork_74 rfl (by decide) ?_
        refine rf_goto C (n := 79) dX2_atWork_75 (by decide) ?_
        exact rf_zret C K (by decide) dX2_atWork_79
  · refine rf_iconst C (n := 45) (v := 0) dX2_atWork_44 rfl (by decide) ?_
    exact rf_zret C K (by decide) dX2_atWork_45
noncomputable def f_X2_atWork (fu : Nat) (a0 : Nat) (x1 : Int32) (m : hM) : Option (Int32 × hM) :=
  if a0 ∈ ofL then (if x1 < (gI m a0 6) then (
f_X2_atWork_22 fu a0 (x1 + (gI m a0 0)) 0 m) else (
f_X2_atWork_22 fu a0 (x1 + (gI m a0 0)) (gI m a0 7) m)) else none
set_option maxRecDepth 100000 in
set_option maxHeartbeats 4000000 in
theorem c_X2_atWork (G : hG) (fu : Nat) (a0 : Nat) (x1 : Int32) (m : hM) : Mt vI G 2 yX2_atWork cX2_atWork 5 (some .boolean) [hA G a0, .int x1] m (f_X2_atWork fu a0 x1 m) := by
  refine mt_of (by decide +kernel) (Nat.le_of_ble_eq_true rfl) (fun X C K => ?_)
  have C : Cx G X 2 cX2_atWork 5 RX2 (some .boolean) := C
  show Rf vI G X 0 [(0, hA G a0), (1, .int x1)] [] m _
  unfold f_X2_atWork
  refine rf_guard (fun ha0 => ?_)
  refine rf_iload_n C (n := 1) (q := 1) dX2_atWork_0 rfl rfl rfl ?_
  refine rf_aload_n C (n := 2) (q := 0) dX2_atWork_1 rfl rfl rfl ?_
  refine rf_getI C (n := 5) fl_RX2_15 (pO_l ha0) rfl dX2_atWork_2 rfl ?_
  refine rf_iadd C (n := 6) dX2_atWork_5 rfl ?_
  refine rf_iload_n C (n := 7) (q := 1) dX2_atWork_6 rfl rfl rfl ?_
  refine rf_aload_n C (n := 8) (q := 0) dX2_atWork_7 rfl rfl rfl ?_
  refine rf_getI C (n := 11) fl_RX2_34 (pO_l ha0) rfl dX2_atWork_8 rfl ?_
  refine rf_icmp_lt C (tgt := 21) (n := 14) dX2_atWork_11 (by decide) rfl (fun h1 => ?_) (fun h1 => ?_)
  · refine rf_iconst C (n := 22) (v := 0) dX2_atWork_21 rfl (by decide) ?_
    exact rf_lv _ [0] rfl (r_X2_atWork_22 C K fu _ ha0 _ _ _)
  · refine rf_aload_n C (n := 15) (q := 0) dX2_atWork_14 rfl rfl rfl ?_
    refine rf_getI C (n := 18) fl_RX2_37 (pO_l ha0) rfl dX2_atWork_15 rfl ?_
    refine rf_goto C (n := 22) dX2_atWork_18 (by decide) ?_
    exact rf_lv _ [0] rfl (r_X2_atWork_22 C K fu _ ha0 _ _ _)
noncomputable def f_X0_refresh_135 (fu : Nat) (k12 : Int32 → Int32 → Int32 → Int32 → hM → Option (Unit × hM)) (x1 : Int32) (x3 : Int32) (x4 : Int32) (x5 : Int32) (s1 : Int32) (s2 : Int64) (m : hM) : Option (Unit × hM) :=
  if hIn s1 240 then (
hLet (sH m 5 (Int32.toNatClampNeg s1) s2) fun m18 =>
hLet (x5 + 1) fun y19 =>
k12 x1 x3 x4 y19 m18) else none
set_option maxRecDepth 100000 in
set_option maxHeartbeats 4000000 in
theorem r_X0_refresh_135 {G : hG} {X : hX} (C : Cx G X 3 cX0_refresh 10 RX0 none) (K : Cr G X) (fu : Nat) (k12 : Int32 → Int32 → Int32 → Int32 → hM → Option (Unit × hM)) (hk12 : ∀ (x1 : Int32) (x3 : Int32) (x4 : Int32) (x5 : Int32) (m : hM), Rf vU G X 12 [(0, hA G 1), (1, .int x1), (3, .int x3), (4, .int x4), (5, .int x5)] [] m (k12 x1 x3 x4 x5 m)) (x1 : Int32) (x3 : Int32) (x4 : Int32) (x5 : Int32) (s1 : Int32) (s2 : Int64) (m : hM) : Rf vU G X 135 [(0, hA G 1), (1, .int x1), (3, .int x3), (4, .int x4), (5, .int x5)] [.long s2, .int s1, hA G 5] m (f_X0_refresh_135 fu k12 x1 x3 x4 x5 s1 s2 m) := by
  unfold f_X0_refresh_135
  refine rf_guard (fun h17 => ?_)
  refine rf_hast C (n := 136) ly_5 h17 rfl dX0_refresh_135 rfl ?_
  refine rf_letM (fun m18 => ?_)
  refine rf_iinc2 C (n := 139) (q := 4) (fun y19 => [(5, .int y19), (0, hA G 1), (1, .int x1), (3, .int x3), (4, .int x4)]) dX0_refresh_136 rfl rfl (by decide) (by decide) (fun _ => rfl) (fun y19 => ?_)
  refine rf_goto C (n := 12) dX0_refresh_139 (by decide) ?_
  exact rf_lv _ [1, 2, 3, 4, 0] rfl (hk12 _ _ _ _ _)
noncomputable def f_X0_refresh_96 (fu : Nat) (k12 : Int32 → Int32 → Int32 → Int32 → hM → Option (Unit × hM)) (x1 : Int32) (x3 : Int32) (x4 : Int32) (x5 : Int32) (x6 : Int32) (x7 : Int64) (x9 : Int32) (s1 : Int32) (s2 : Int32) (m : hM) : Option (Unit × hM) :=
  if hIn s1 2560 then (
hLet (sI m 4 (Int32.toNatClampNeg s1) s2) fun m14 =>
if x9 = 0 then (
if hIn x6 240 then (
f_X0_refresh_135 fu k12 x1 x3 x4 x5 x6 ((gH m14 5 (Int32.toNatClampNeg x6)) &&& (x7 ^^^ (-1))) m14) else none) else (
if hIn x6 240 then (
f_X0_refresh_135 fu k12 x1 x3 x4 x5 x6 ((gH m14 5 (Int32.toNatClampNeg x6)) ||| x7) m14) else none)) else none
set_option maxRecDepth 100000 in
set_option maxHeartbeats 4000000 in
theorem r_X0_refresh_96 {G : hG} {X : hX} (C : Cx G X 3 cX0_refresh 10 RX0 none) (K : Cr G X) (fu : Nat) (k12 : Int32 → Int32 → Int32 → Int32 → hM → Option (Unit × hM)) (hk12 : ∀ (x1 : Int32) (x3 : Int32) (x4 : Int32) (x5 : Int32) (m : hM), Rf vU G X 12 [(0, hA G 1), (1, .int x1), (3, .int x3), (4, .int x4), (5, .int x5)] [] m (k12 x1 x3 x4 x5 m)) (x1 : Int32) (x3 : Int32) (x4 : Int32) (x5 : Int32) (x6 : Int32) (x7 : Int64) (x9 : Int32) (s1 : Int32) (s2 : Int32) (m : hM) : Rf vU G X 96 [(0, hA G 1), (1, .int x1), (3, .int x3), (4, .int x4), (5, .int x5), (6, .int x6), (7, .long x7), (9, .int x9)] [.int s2, .int s1, hA G 4] m (f_X0_refresh_96 fu k12 x1 x3 x4 x5 x6 x7 x9 s1 s2 m) := by
  unfold f_X0_refresh_96
  refine rf_guard (fun h13 => ?_)
  refine rf_iast C (n := 97) ly_4 h13 rfl dX0_refresh_96 rfl ?_
  refine rf_letM (fun m14 => ?_)
  refine rf_aload_n C (n := 98) (q := 0) dX0_refresh_97 rfl rfl rfl ?_
  refine rf_getS C (n := 101) fl_RX0_24 ly_1 rfl dX0_refresh_98 rfl ?_
  refine rf_iload C (n := 103) (q := 5) dX0_refresh_101 rfl rfl ?_
  refine rf_iload C (n := 105) (q := 7) dX0_refresh_103 rfl rfl ?_
  refine rf_if_eq C (tgt := 121) (n := 108) dX0_refresh_105 (by decide) rfl (fun h15 => ?_) (fun h15 => ?_)
  · refine rf_aload_n C (n := 122) (q := 0) dX0_refresh_121 rfl rfl rfl ?_
    refine rf_getS C (n := 125) fl_RX0_24 ly_1 rfl dX0_refresh_122 rfl ?_
    refine rf_iload C (n := 127) (q := 5) dX0_refresh_125 rfl rfl ?_
    refine rf_guard (fun h16 => ?_)
    refine rf_hald C (n := 128) ly_5 h16 rfl dX0_refresh_127 rfl ?_
    refine rf_lload C (n := 130) (q := 6) dX0_refresh_128 rfl rfl ?_
    refine rf_ldc2 C (n := 133) dX0_refresh_130 rfl kl_RX0_49 ?_
    refine rf_lxor C (n := 134) dX0_refresh_133 rfl ?_
    refine rf_land C (n := 135) dX0_refresh_134 rfl ?_
    exact rf_lv _ [0, 1, 2, 3, 4] rfl (r_X0_refresh_135 C K fu _ hk12 _ _ _ _ _ _ _)
  · refine rf_aload_n C (n := 109) (q := 0) dX0_refresh_108 rfl rfl rfl ?_
    refine rf_getS C (n := 112) fl_RX0_24 ly_1 rfl dX0_refresh_109 rfl ?_
    refine rf_iload C (n := 114) (q := 5) dX0_refresh_112 rfl rfl ?_
    refine rf_guard (fun h20 => ?_)
    refine rf_hald C (n := 115) ly_5 h20 rfl dX0_refresh_114 rfl ?_
    refine rf_lload C (n := 117) (q := 6) dX0_refresh_115 rfl rfl ?_
    refine rf_lor C (n := 118) dX0_refresh_117 rfl ?_
    refine rf_goto C (n := 135) dX0_refresh_118 (by decide) ?_
    exact rf_lv _ [0, 1, 2, 3, 4] rfl (r_X0_refresh_135 C K fu _ hk12 _ _ _ _ _ _ _)
noncomputable def s_X0_refresh_12 (fu : Nat) (ih : Int32 → Int32 → Int32 → Int32 → hM → Option (Unit × hM)) (x1 : Int32) (x3 : Int32) (x4 : Int32) (x5 : Int32) (m : hM) : Option (Unit × hM) :=
  if x3 ≤ x5 then (
some ((), m)) else (
if 2560 ≤ x5 then (
some ((), m)) else (
hLet ((x1 * 40) + (x5 / 64)) fun y6 =>
hLet (1 <<< (Int32.toInt64 (x5 - x5 / 64 * 64) &&& 63)) fun y7 =>
if hIn x1 6 then (
hBd (f_X2_atWork fu (6 + 2 * (Int32.toNatClampNeg x1)) x5 m) fun y9 m10 =>
if y9 = 0 then (
if hIn x5 2560 then (
f_X0_refresh_96 fu ih x1 x3 x4 x5 y6 y7 y9 x5 ((gI m10 4 (Int32.toNatClampNeg x5)) &&& (x4 ^^^ (-1))) m10) else none) else (
if hIn x5 2560 then (
f_X0_refresh_96 fu ih x1 x3 x4 x5 y6 y7 y9 x5 ((gI m10 4 (Int32.toNatClampNeg x5)) ||| x4) m10) else none)) else none))
noncomputable def f_X0_refresh_12 (fu : Nat) (n : Nat) : Int32 → Int32 → Int32 → Int32 → hM → Option (Unit × hM) :=
  Nat.rec (motive := fun _ => Int32 → Int32 → Int32 → Int32 → hM → Option (Unit × hM)) (fun _ _ _ _ _ => none) (fun _ ih => s_X0_refresh_12 fu ih) n
theorem f_X0_refresh_12_s (fu : Nat) (n : Nat) (x1 : Int32) (x3 : Int32) (x4 : Int32) (x5 : Int32) (m : hM) : f_X0_refresh_12 fu (n + 1) x1 x3 x4 x5 m = s_X0_refresh_12 fu (f_X0_refresh_12 fu n) x1 x3 x4 x5 m := rfl
set_option maxRecDepth 100000 in
set_option maxHeartbeats 4000000 in
theorem r_X0_refresh_12 {G : hG} {X : hX} (C : Cx G X 3 cX0_refresh 10 RX0 none) (K : Cr G X) (fu : Nat) (n : Nat) : ∀ (x1 : Int32) (x3 : Int32) (x4 : Int32) (x5 : Int32) (m : hM), Rf vU G X 12 [(0, hA G 1), (1, .int x1), (3, .int x3), (4, .int x4), (5, .int x5)] [] m (f_X0_refresh_12 fu n x1 x3 x4 x5 m) := by
  induction n with
  | zero => intros; exact rf_none
  | succ n ih =>
    intro x1 x3 x4 x5 m
    show Rf vU G X 12 [(0, hA G 1), (1, .int x1), (3, .int x3), (4, .int x4), (5, .int x5)] [] m (s_X0_refresh_12 fu (f_X0_refresh_12 fu n) x1 x3 x4 x5 m)
    unfold s_X0_refresh_12
    refine rf_iload C (n := 14) (q := 4) dX0_refresh_12 rfl rfl ?_
    refine rf_iload_n C (n := 15) (q := 2) dX0_refresh_14 rfl rfl rfl ?_
    refine rf_icmp_ge C (tgt := 142) (n := 18) dX0_refresh_15 (by decide) rfl (fun h4 => ?_) (fun h4 => ?_)
    · exact rf_vret C K dX0_refresh_142
    · refine rf_iload C (n := 20) (q := 4) dX0_refresh_18 rfl rfl ?_
      refine rf_sipush C (n := 23) (v := 2560) dX0_refresh_20 rfl (by decide) ?_
      refine rf_icmp_ge C (tgt := 142) (n := 26) dX0_refresh_23 (by decide) rfl (fun h5 => ?_) (fun h5 => ?_)
      · exact rf_vret C K dX0_refresh_142
      · refine rf_iload_n C (n := 27) (q := 1) dX0_refresh_26 rfl rfl rfl ?_
        refine rf_bipush C (n := 29) (v := 40) dX0_refresh_27 rfl (by decide) ?_
        refine rf_imul C (n := 30) dX0_refresh_29 rfl ?_
        refine rf_iload C (n := 32) (q := 4) dX0_refresh_30 rfl rfl ?_
        refine rf_bipush C (n := 34) (v := 64) dX0_refresh_32 rfl (by decide) ?_
        refine rf_idiv C (n := 35) dX0_refresh_34 rfl (by decide) ?_
        refine rf_iadd C (n := 36) dX0_refresh_35 rfl ?_
        refine rf_letI (fun y6 => ?_)
        refine rf_istore C (n := 38) [(6, .int y6), (0, hA G 1), (1, .int x1), (3, .int x3), (4, .int x4), (5, .int x5)] dX0_refresh_36 rfl (by decide) rfl ?_
        refine rf_lconst C (n := 39) (v := 1) dX0_refresh_38 rfl (by decide) ?_
        refine rf_iload C (n := 41) (q := 5) dX0_refresh_39 rfl rfl ?_
        refine rf_bipush C (n := 43) (v := 64) dX0_refresh_41 rfl (by decide) ?_
        refine rf_irem C (n := 44) dX0_refresh_43 rfl (by decide) ?_
        refine rf_lshl C (n := 45) dX0_refresh_44 rfl ?_
        refine rf_letL (fun y7 => ?_)
        refine rf_lstore C (n := 47) [(7, .long y7), (6, .int y6), (0, hA G 1), (1, .int x1), (3, .int x3), (4, .int x4), (5, .int x5)] dX0_refresh_45 rfl (by decide) rfl ?_
        refine rf_aload_n C (n := 48) (q := 2) dX0_refresh_47 rfl rfl rfl ?_
        refine rf_getS C (n := 51) fl_RX0_11 ly_1 rfl dX0_refresh_48 rfl ?_
        refine rf_iload_n C (n := 52) (q := 3) dX0_refresh_51 rfl rfl rfl ?_
        refine rf_guard (fun h8 => ?_)
        refine rf_aaldO C (n := 53) ly_2 h8 (of_r h8) dX0_refresh_52 rfl ?_
        refine rf_iload C (n := 55) (q := 6) dX0_refresh_53 rfl rfl ?_
        refine rf_callVi C (n := 58) (c_X2_atWork G fu _ _ _) mw_RX0_45 (pO_l (of_o h8)) rfl ⟨by decide, by decide⟩ rfl (Nat.le_of_ble_eq_true rfl) rfl dX0_refresh_55 rfl (fun y9 m10 => ?_)
        refine rf_istore C (n := 60) [(9, .int y9), (7, .long y7), (6, .int y6), (0, hA G 1), (1, .int x1), (3, .int x3), (4, .int x4), (5, .int x5)] dX0_refresh_58 rfl (by decide) rfl ?_
        refine rf_aload_n C (n := 61) (q := 3) dX0_refresh_60 rfl rfl rfl ?_
        refine rf_getS C (n := 64) fl_RX0_21 ly_1 rfl dX0_refresh_61 rfl ?_
        refine rf_iload C (n := 66) (q := 7) dX0_refresh_64 rfl rfl ?_
        refine rf_iload C (n := 68) (q := 0) dX0_refresh_66 rfl rfl ?_
        refine rf_if_eq C (tgt := 84) (n := 71) dX0_refresh_68 (by decide) rfl (fun h11 => ?_) (fun h11 => ?_)
        · refine rf_aload_n C (n := 85) (q := 3) dX0_refresh_84 rfl rfl rfl ?_
          refine rf_getS C (n := 88) fl_RX0_21 ly_1 rfl dX0_refresh_85 rfl ?_
          refine rf_iload C (n := 90) (q := 7) dX0_refresh_88 rfl rfl ?_
          refine rf_guard (fun h12 => ?_)
          refine rf_iald C (n := 91) ly_4 h12 rfl dX0_refresh_90 rfl ?_
          refine rf_iload C (n := 93) (q := 6) dX0_refresh_91 rfl rfl ?_
          refine rf_iconst C (n := 94) (v := (-1)) dX0_refresh_93 rfl (by decide) ?_
          refine rf_ixor C (n := 95) dX0_refresh_94 rfl ?_
          refine rf_iand C (n := 96) dX0_refresh_95 rfl ?_
          exact rf_lv _ [3, 4, 5, 6, 7, 2, 1, 0] rfl (r_X0_refresh_96 C K fu _ ih _ _ _ _ _ _ _ _ _ _)
        · refine rf_aload_n C (n := 72) (q := 3) dX0_refresh_71 rfl rfl rfl ?_
          refine rf_getS C (n := 75) fl_RX0_21 ly_1 rfl dX0_refresh_72 rfl ?_
          refine rf_iload C (n := 77) (q := 7) dX0_refresh_75 rfl rfl ?_
          refine rf_guard (fun h21 => ?_)
          refine rf_iald C (n := 78) ly_4 h21 rfl dX0_refresh_77 rfl ?_
          refine rf_iload C (n := 80) (q := 6) dX0_refresh_78 rfl rfl ?_
          refine rf_ior C (n := 81) dX0_refresh_80 rfl ?_
          refine rf_goto C (n := 96) dX0_refresh_81 (by decide) ?_
          exact rf_lv _ [3, 4, 5, 6, 7, 2, 1, 0] rfl (r_X0_refresh_96 C K fu _ ih _ _ _ _ _ _ _ _ _ _)
noncomputable def f_X0_refresh (fu : Nat) (x1 : Int32) (x2 : Int32) (x3 : Int32) (m : hM) : Option (Unit × hM) :=
  hLet (1 <<< (x1 &&& 31)) fun y1 =>
hBd (f_J9_max_7cf53 fu x2 0 m) fun y2 m3 =>
f_X0_refresh_12 fu fu x1 x3 y1 y2 m3
set_option maxRecDepth 100000 in
set_option maxHeartbeats 4000000 in
theorem c_X0_refresh (G : hG) (fu : Nat) (x1 : Int32) (x2 : Int32) (x3 : Int32) (m : hM) : Mt vU G 3 yX0_refresh cX0_refresh 10 none [hA G 1, .int x1, .int x2, .int x3] m (f_X0_refresh fu x1 x2 x3 m) := by
  refine mt_of (by decide +kernel) (Nat.le_of_ble_eq_true rfl) (fun X C K => ?_)
  have C : Cx G X 3 cX0_refresh 10 RX0 none := C
  show Rf vU G X 0 [(0, hA G 1), (1, .int x1), (2, .int x2), (3, .int x3)] [] m _
  unfold f_X0_refresh
  refine rf_iconst C (n := 1) (v := 1) dX0_refresh_0 rfl (by decide) ?_
  refine rf_iload_n C (n := 2) (q := 1) dX0_refresh_1 rfl rfl rfl ?_
  refine rf_ishl C (n := 3) dX0_refresh_2 rfl ?_
  refine rf_letI (fun y1 => ?_)
  refine rf_istore C (n := 5) [(4, .int y1), (0, hA G 1), (1, .int x1), (2, .int x2), (3, .int x3)] dX0_refresh_3 rfl (by decide) rfl ?_
  refine rf_iload_n C (n := 6) (q := 3) dX0_refresh_5 rfl rfl rfl ?_
  refine rf_iconst C (n := 7) (v := 0) dX0_refresh_6 rfl (by decide) ?_
  refine rf_callSi C (n := 10) (c_J9_max_7cf53 G fu _ _ _) sw_RX0_39 ⟨by decide, by decide⟩ rfl (Nat.le_of_ble_eq_true rfl) rfl dX0_refresh_7 rfl (fun y2 m3 => ?_)
  refine rf_istore C (n := 12) [(5, .int y2), (4, .int y1), (0, hA G 1), (1, .int x1), (2, .int x2), (3, .int x3)] dX0_refresh_10 rfl (by decide) rfl ?_
  exact rf_lv _ [2, 3, 5, 1, 0] rfl (r_X0_refresh_12 C K fu fu _ _ _ _ _)
noncomputable def f_X0_bothFrom_96 (fu : Nat) (x8 : Int64) (m : hM) : Option (Int32 × hM) :=
  some ((Int64.toInt32 x8) &&& 16777215, m)
set_option maxRecDepth 100000 in
set_option maxHeartbeats 4000000 in
theorem r_X0_bothFrom_96 {G : hG} {X : hX} (C : Cx G X 1 cX0_bothFrom 10 RX0 (some .int)) (K : Cr G X) (fu : Nat) (x8 : Int64) (m : hM) : Rf vI G X 96 [(8, .long x8)] [] m (f_X0_bothFrom_96 fu x8 m) := by
  unfold f_X0_bothFrom_96
  refine rf_lload C (n := 98) (q := 0) dX0_bothFrom_96 rfl rfl ?_
  refine rf_l2i C (n := 99) dX0_bothFrom_98 rfl ?_
  refine rf_ldc C (n := 101) dX0_bothFrom_99 rfl kc_RX0_51 ?_
  refine rf_iand C (n := 102) dX0_bothFrom_101 rfl ?_
  exact rf_iret C K dX0_bothFrom_102
noncomputable def f_X0_bothFrom (fu : Nat) (x1 : Int32) (x2 : Int32) (x3 : Int32) (m : hM) : Option (Int32 × hM) :=
  hLet (x3 / 64) fun y1 =>
hLet (x3 - x3 / 64 * 64) fun y2 =>
hLet ((x1 * 40) + y1) fun y3 =>
hLet ((x2 * 40) + y1) fun y4 =>
if hIn y3 240 then (
if hIn y4 240 then (
hLet ((Int64.toUInt64 ((gH m 5 (Int32.toNatClampNeg y3)) &&& (gH m 5 (Int32.toNatClampNeg y4))) >>> (Int64.toUInt64 (Int32.toInt64 y2) &&& Int64.toUInt64 63)).toInt64) fun y7 =>
if y2 ≤ 40 then (
f_X0_bothFrom_96 fu y7 m) else (
if 40 ≤ (y1 + 1) then (
f_X0_bothFrom_96 fu y7 m) else (
if hIn (y3 + 1) 240 then (
if hIn (y4 + 1) 240 then (
hLet (y7 ||| (((gH m 5 (Int32.toNatClampNeg (y3 + 1))) &&& (gH m 5 (Int32.toNatClampNeg (y4 + 1)))) <<< (Int32.toInt64 (64 - y2) &&& 63))) fun y12 =>
f_X0_bothFrom_96 fu y12 m) else none) else none))) else none) else none
set_option maxRecDepth 100000 in
set_option maxHeartbeats 4000000 in
theorem c_X0_bothFrom (G : hG) (fu : Nat) (x1 : Int32) (x2 : Int32) (x3 : Int32) (m : hM) : Mt vI G 1 yX0_bothFrom cX0_bothFrom 10 (some .int) [hA G 1, .int x1, .int x2, .int x3] m (f_X0_bothFrom fu x1 x2 x3 m) := by
  refine mt_of (by decide +kernel) (Nat.le_of_ble_eq_true rfl) (fun X C K => ?_)
  have C : Cx G X 1 cX0_bothFrom 10 RX0 (some .int) := C
  show Rf vI G X 0 [(0, hA G 1), (1, .int x1), (2, .int x2), (3, .int x3)] [] m _
  unfold f_X0_bothFrom
  refine rf_iload_n C (n := 1) (q := 3) dX0_bothFrom_0 rfl rfl rfl ?_
  refine rf_bipush C (n := 3) (v := 64) dX0_bothFrom_1 rfl (by decide) ?_
  refine rf_idiv C (n := 4) dX0_bothFrom_3 rfl (by decide) ?_
  refine rf_letI (fun y1 => ?_)
  refine rf_istore C (n := 6) [(4, .int y1), (0, hA G 1), (1, .int x1), (2, .int x2), (3, .int x3)] dX0_bothFrom_4 rfl (by decide) rfl ?_
  refine rf_iload_n C (n := 7) (q := 4) dX0_bothFrom_6 rfl rfl rfl ?_
  refine rf_bipush C (n := 9) (v := 64) dX0_bothFrom_7 rfl (by decide) ?_
  refine rf_irem C (n := 10) dX0_bothFrom_9 rfl (by decide) ?_
  refine rf_letI (fun y2 => ?_)
  refine rf_istore C (n := 12) [(5, .int y2), (4, .int y1), (0, hA G 1), (1, .int x1), (2, .int x2), (3, .int x3)] dX0_bothFrom_10 rfl (by decide) rfl ?_
  refine rf_iload_n C (n := 13) (q := 3) dX0_bothFrom_12 rfl rfl rfl ?_
  refine rf_bipush C (n := 15) (v := 40) dX0_bothFrom_13 rfl (by decide) ?_
  refine rf_imul C (n := 16) dX0_bothFrom_15 rfl ?_
  refine rf_iload C (n := 18) (q := 1) dX0_bothFrom_16 rfl rfl ?_
  refine rf_iadd C (n := 19) dX0_bothFrom_18 rfl ?_
  refine rf_letI (fun y3 => ?_)
  refine rf_istore C (n := 21) [(6, .int y3), (5, .int y2), (4, .int y1), (0, hA G 1), (1, .int x1), (2, .int x2), (3, .int x3)] dX0_bothFrom_19 rfl (by decide) rfl ?_
  refine rf_iload_n C (n := 22) (q := 5) dX0_bothFrom_21 rfl rfl rfl ?_
  refine rf_bipush C (n := 24) (v := 40) dX0_bothFrom_22 rfl (by decide) ?_
  refine rf_imul C (n := 25) dX0_bothFrom_24 rfl ?_
  refine rf_iload C (n := 27) (q := 2) dX0_bothFrom_25 rfl rfl ?_
  refine rf_iadd C (n := 28) dX0_bothFrom_27 rfl ?_
  refine rf_letI (fun y4 => ?_)
  refine rf_istore C (n := 30) [(7, .int y4), (6, .int y3), (5, .int y2), (4, .int y1), (0, hA G 1), (1, .int x1), (2, .int x2), (3, .int x3)] dX0_bothFrom_28 rfl (by decide) rfl ?_
  refine rf_aload_n C (n := 31) (q := 4) dX0_bothFrom_30 rfl rfl rfl ?_
  refine rf_getS C (n := 34) fl_RX0_24 ly_1 rfl dX0_bothFrom_31 rfl ?_
  refine rf_iload C (n := 36) (q := 1) dX0_bothFrom_34 rfl rfl ?_
  refine rf_guard (fun h5 => ?_)
  refine rf_hald C (n := 37) ly_5 h5 rfl dX0_bothFrom_36 rfl ?_
  refine rf_aload_n C (n := 38) (q := 4) dX0_bothFrom_37 rfl rfl rfl ?_
  refine rf_getS C (n := 41) fl_RX0_24 ly_1 rfl dX0_bothFrom_38 rfl ?_
  refine rf_iload C (n := 43) (q := 0) dX0_bothFrom_41 rfl rfl ?_
  refine rf_guard (fun h6 => ?_)
  refine rf_hald C (n := 44) ly_5 h6 rfl dX0_bothFrom_43 rfl ?_
  refine rf_land C (n := 45) dX0_bothFrom_44 rfl ?_
  refine rf_iload C (n := 47) (q := 2) dX0_bothFrom_45 rfl rfl ?_
  refine rf_lushr C (n := 48) dX0_bothFrom_47 rfl ?_
  refine rf_letL (fun y7 => ?_)
  refine rf_lstore C (n := 50) [(8, .long y7), (7, .int y4), (6, .int y3), (5, .int y2), (4, .int y1), (0, hA G 1), (1, .int x1), (2, .int x2), (3, .int x3)] dX0_bothFrom_48 rfl (by decide) rfl ?_
  refine rf_iload C (n := 52) (q := 3) dX0_bothFrom_50 rfl rfl ?_
  refine rf_bipush C (n := 54) (v := 40) dX0_bothFrom_52 rfl (by decide) ?_
  refine rf_icmp_le C (tgt := 96) (n := 57) dX0_bothFrom_54 (by decide) rfl (fun h8 => ?_) (fun h8 => ?_)
  · exact rf_lv _ [0] rfl (r_X0_bothFrom_96 C K fu _ _)
  · refine rf_iload C (n := 59) (q := 4) dX0_bothFrom_57 rfl rfl ?_
    refine rf_iconst C (n := 60) (v := 1) dX0_bothFrom_59 rfl (by decide) ?_
    refine rf_iadd C (n := 61) dX0_bothFrom_60 rfl ?_
    refine rf_bipush C (n := 63) (v := 40) dX0_bothFrom_61 rfl (by decide) ?_
    refine rf_icmp_ge C (tgt := 96) (n := 66) dX0_bothFrom_63 (by decide) rfl (fun h9 => ?_) (fun h9 => ?_)
    · exact rf_lv _ [0] rfl (r_X0_bothFrom_96 C K fu _ _)
    · refine rf_lload C (n := 68) (q := 0) dX0_bothFrom_66 rfl rfl ?_
      refine rf_aload_n C (n := 69) (q := 5) dX0_bothFrom_68 rfl rfl rfl ?_
      refine rf_getS C (n := 72) fl_RX0_24 ly_1 rfl dX0_bothFrom_69 rfl ?_
      refine rf_iload C (n := 74) (q := 2) dX0_bothFrom_72 rfl rfl ?_
      refine rf_iconst C (n := 75) (v := 1) dX0_bothFrom_74 rfl (by decide) ?_
      refine rf_iadd C (n := 76) dX0_bothFrom_75 rfl ?_
      refine rf_guard (fun h10 => ?_)
      refine rf_hald C (n := 77) ly_5 h10 rfl dX0_bothFrom_76 rfl ?_
      refine rf_aload_n C (n := 78) (q := 5) dX0_bothFrom_77 rfl rfl rfl ?_
      refine rf_getS C (n := 81) fl_RX0_24 ly_1 rfl dX0_bothFrom_78 rfl ?_
      refine rf_iload C (n := 83) (q := 1) dX0_bothFrom_81 rfl rfl ?_
      refine rf_iconst C (n := 84) (v := 1) dX0_bothFrom_83 rfl (by decide) ?_
      refine rf_iadd C (n := 85) dX0_bothFrom_84 rfl ?_
      refine rf_guard (fun h11 => ?_)
      refine rf_hald C (n := 86) ly_5 h11 rfl dX0_bothFrom_85 rfl ?_
      refine rf_land C (n := 87) dX0_bothFrom_86 rfl ?_
      refine rf_bipush C (n := 89) (v := 64) dX0_bothFrom_87 rfl (by decide) ?_
      refine rf_iload C (n := 91) (q := 3) dX0_bothFrom_89 rfl rfl ?_
      refine rf_isub C (n := 92) dX0_bothFrom_91 rfl ?_
      refine rf_lshl C (n := 93) dX0_bothFrom_92 rfl ?_
      refine rf_lor C (n := 94) dX0_bothFrom_93 rfl ?_
      refine rf_letL (fun y12 => ?_)
      refine rf_lstore C (n := 96) [(8, .long y12), (7, .int y4), (6, .int y3), (5, .int y2), (4, .int y1), (0, hA G 1), (1, .int x1), (2, .int x2), (3, .int x3)] dX0_bothFrom_94 rfl (by decide) rfl ?_
      exact rf_lv _ [0] rfl (r_X0_bothFrom_96 C K fu _ _)
noncomputable def f_X0_putFeast (fu : Nat) (x1 : Int32) (x2 : Int32) (x3 : Int32) (m : hM) : Option (Unit × hM) :=
  if hIn x1 6 then (
if hIn x2 100 then (
hLet (sI m (6 + 2 * (Int32.toNatClampNeg x1) + 1) (Int32.toNatClampNeg x2) (vp_nar .boolean x3)) fun m3 =>
hLet (((x2 * 24) + (gI m3 (6 + 2 * (Int32.toNatClampNeg x1)) 1)) - (gI m3 (6 + 2 * (Int32.toNatClampNeg x1)) 0)) fun y4 =>
hBd (f_X0_refresh fu x1 (y4 - 1) ((y4 + (gI m3 (6 + 2 * (Int32.toNatClampNeg x1)) 2)) + 1) m3) fun _ m5 =>
some ((), m5)) else none) else none
set_option maxRecDepth 100000 in
set_option maxHeartbeats 4000000 in
theorem c_X0_putFeast (G : hG) (fu : Nat) (x1 : Int32) (x2 : Int32) (x3 : Int32) (m : hM) : Mt vU G 4 yX0_putFeast cX0_putFeast 6 none [hA G 1, .int x1, .int x2, .int x3] m (f_X0_putFeast fu x1 x2 x3 m) := by
  refine mt_of (by decide +kernel) (Nat.le_of_ble_eq_true rfl) (fun X C K => ?_)
  have C : Cx G X 4 cX0_putFeast 6 RX0 none := C
  show Rf vU G X 0 [(0, hA G 1), (1, .int x1), (2, .int x2), (3, .int x3)] [] m _
  unfold f_X0_putFeast
  refine rf_aload_n C (n := 1) (q := 0) dX0_putFeast_0 rfl rfl rfl ?_
  refine rf_getS C (n := 4) fl_RX0_11 ly_1 rfl dX0_putFeast_1 rfl ?_
  refine rf_iload_n C (n := 5) (q := 1) dX0_putFeast_4 rfl rfl rfl ?_
  refine rf_guard (fun h1 => ?_)
  refine rf_aaldO C (n := 6) ly_2 h1 (of_r h1) dX0_putFeast_5 rfl ?_
  refine rf_astore C (n := 8) [(4, hA G (6 + 2 * (Int32.toNatClampNeg x1))), (0, hA G 1), (1, .int x1), (2, .int x2), (3, .int x3)] dX0_putFeast_6 rfl (by decide) rfl ?_
  refine rf_aload C (n := 10) (q := 0) dX0_putFeast_8 rfl rfl ?_
  refine rf_getS C (n := 13) fl_RX0_52 (pO_l (of_o h1)) rfl dX0_putFeast_10 rfl ?_
  refine rf_iload_n C (n := 14) (q := 3) dX0_putFeast_13 rfl rfl rfl ?_
  refine rf_iload_n C (n := 15) (q := 4) dX0_putFeast_14 rfl rfl rfl ?_
  refine rf_guard (fun h2 => ?_)
  refine rf_zast C (n := 16) (of_a1 (of_o h1)) h2 rfl dX0_putFeast_15 rfl ?_
  refine rf_letM (fun m3 => ?_)
  refine rf_iload_n C (n := 17) (q := 3) dX0_putFeast_16 rfl rfl rfl ?_
  refine rf_bipush C (n := 19) (v := 24) dX0_putFeast_17 rfl (by decide) ?_
  refine rf_imul C (n := 20) dX0_putFeast_19 rfl ?_
  refine rf_aload C (n := 22) (q := 0) dX0_putFeast_20 rfl rfl ?_
  refine rf_getI C (n := 25) fl_RX0_56 (pO_l (of_o h1)) rfl dX0_putFeast_22 rfl ?_
  refine rf_iadd C (n := 26) dX0_putFeast_25 rfl ?_
  refine rf_aload C (n := 28) (q := 0) dX0_putFeast_26 rfl rfl ?_
  refine rf_getI C (n := 31) fl_RX0_59 (pO_l (of_o h1)) rfl dX0_putFeast_28 rfl ?_
  refine rf_isub C (n := 32) dX0_putFeast_31 rfl ?_
  refine rf_letI (fun y4 => ?_)
  refine rf_istore C (n := 34) [(5, .int y4), (4, hA G (6 + 2 * (Int32.toNatClampNeg x1))), (0, hA G 1), (1, .int x1), (2, .int x2), (3, .int x3)] dX0_putFeast_32 rfl (by decide) rfl ?_
  refine rf_aload_n C (n := 35) (q := 2) dX0_putFeast_34 rfl rfl rfl ?_
  refine rf_iload_n C (n := 36) (q := 3) dX0_putFeast_35 rfl rfl rfl ?_
  refine rf_iload C (n := 38) (q := 0) dX0_putFeast_36 rfl rfl ?_
  refine rf_iconst C (n := 39) (v := 1) dX0_putFeast_38 rfl (by decide) ?_
  refine rf_isub C (n := 40) dX0_putFeast_39 rfl ?_
  refine rf_iload C (n := 42) (q := 0) dX0_putFeast_40 rfl rfl ?_
  refine rf_aload C (n := 44) (q := 1) dX0_putFeast_42 rfl rfl ?_
  refine rf_getI C (n := 47) fl_RX0_62 (pO_l (of_o h1)) rfl dX0_putFeast_44 rfl ?_
  refine rf_iadd C (n := 48) dX0_putFeast_47 rfl ?_
  refine rf_iconst C (n := 49) (v := 1) dX0_putFeast_48 rfl (by decide) ?_
  refine rf_iadd C (n := 50) dX0_putFeast_49 rfl ?_
  refine rf_callVv C (n := 53) (c_X0_refresh G fu _ _ _ _) mw_RX0_65 ly_1 rfl ⟨by decide, by decide⟩ rfl (Nat.le_of_ble_eq_true rfl) rfl dX0_putFeast_50 rfl (fun _ m5 => ?_)
  exact rf_vret C K dX0_putFeast_53
noncomputable def f_X0_putKnown (fu : Nat) (x1 : Int32) (x2 : Int32) (x3 : Int32) (m : hM) : Option (Unit × hM) :=
  if hIn ((x1 * 6) + x2) 36 then (
hLet (sI m 3 (Int32.toNatClampNeg ((x1 * 6) + x2)) x3) fun m2 =>
if hIn ((x2 * 6) + x1) 36 then (
hLet (sI m2 3 (Int32.toNatClampNeg ((x2 * 6) + x1)) x3) fun m4 =>
some ((), m4)) else none) else none
set_option maxRecDepth 100000 in
set_option maxHeartbeats 4000000 in
theorem c_X0_putKnown (G : hG) (fu : Nat) (x1 : Int32) (x2 : Int32) (x3 : Int32) (m : hM) : Mt vU G 1 yX0_putKnown cX0_putKnown 4 none [hA G 1, .int x1, .int x2, .int x3] m (f_X0_putKnown fu x1 x2 x3 m) := by
  refine mt_of (by decide +kernel) (Nat.le_of_ble_eq_true rfl) (fun X C K => ?_)
  have C : Cx G X 1 cX0_putKnown 4 RX0 none := C
  show Rf vU G X 0 [(0, hA G 1), (1, .int x1), (2, .int x2), (3, .int x3)] [] m _
  unfold f_X0_putKnown
  refine rf_aload_n C (n := 1) (q := 0) dX0_putKnown_0 rfl rfl rfl ?_
  refine rf_getS C (n := 4) fl_RX0_17 ly_1 rfl dX0_putKnown_1 rfl ?_
  refine rf_iload_n C (n := 5) (q := 1) dX0_putKnown_4 rfl rfl rfl ?_
  refine rf_bipush C (n := 7) (v := 6) dX0_putKnown_5 rfl (by decide) ?_
  refine rf_imul C (n := 8) dX0_putKnown_7 rfl ?_
  refine rf_iload_n C (n := 9) (q := 2) dX0_putKnown_8 rfl rfl rfl ?_
  refine rf_iadd C (n := 10) dX0_putKnown_9 rfl ?_
  refine rf_iload_n C (n := 11) (q := 3) dX0_putKnown_10 rfl rfl rfl ?_
  refine rf_guard (fun h1 => ?_)
  refine rf_iast C (n := 12) ly_3 h1 rfl dX0_putKnown_11 rfl ?_
  refine rf_letM (fun m2 => ?_)
  refine rf_aload_n C (n := 13) (q := 0) dX0_putKnown_12 rfl rfl rfl ?_
  refine rf_getS C (n := 16) fl_RX0_17 ly_1 rfl dX0_putKnown_13 rfl ?_
  refine rf_iload_n C (n := 17) (q := 2) dX0_putKnown_16 rfl rfl rfl ?_
  refine rf_bipush C (n := 19) (v := 6) dX0_putKnown_17 rfl (by decide) ?_
  refine rf_imul C (n := 20) dX0_putKnown_19 rfl ?_
  refine rf_iload_n C (n := 21) (q := 1) dX0_putKnown_20 rfl rfl rfl ?_
  refine rf_iadd C (n := 22) dX0_putKnown_21 rfl ?_
  refine rf_iload_n C (n := 23) (q := 3) dX0_putKnown_22 rfl rfl rfl ?_
  refine rf_guard (fun h3 => ?_)
  refine rf_iast C (n := 24) ly_3 h3 rfl dX0_putKnown_23 rfl ?_
  refine rf_letM (fun m4 => ?_)
  exact rf_vret C K dX0_putKnown_24
noncomputable def f_X0_putKnownToAll_22 (fu : Nat) (k2 : Int32 → Int32 → Int32 → hM → Option (Unit × hM)) (x1 : Int32) (x2 : Int32) (x3 : Int32) (m : hM) : Option (Unit × hM) :=
  hLet (x3 + 1) fun y3 =>
k2 x1 x2 y3 m
set_option maxRecDepth 100000 in
set_option maxHeartbeats 4000000 in
theorem r_X0_putKnownToAll_22 {G : hG} {X : hX} (C : Cx G X 2 cX0_putKnownToAll 4 RX0 none) (K : Cr G X) (fu : Nat) (k2 : Int32 → Int32 → Int32 → hM → Option (Unit × hM)) (hk2 : ∀ (x1 : Int32) (x2 : Int32) (x3 : Int32) (m : hM), Rf vU G X 2 [(0, hA G 1), (1, .int x1), (2, .int x2), (3, .int x3)] [] m (k2 x1 x2 x3 m)) (x1 : Int32) (x2 : Int32) (x3 : Int32) (m : hM) : Rf vU G X 22 [(0, hA G 1), (1, .int x1), (2, .int x2), (3, .int x3)] [] m (f_X0_putKnownToAll_22 fu k2 x1 x2 x3 m) := by
  unfold f_X0_putKnownToAll_22
  refine rf_iinc2 C (n := 25) (q := 3) (fun y3 => [(3, .int y3), (0, hA G 1), (1, .int x1), (2, .int x2)]) dX0_putKnownToAll_22 rfl rfl (by decide) (by decide) (fun _ => rfl) (fun y3 => ?_)
  refine rf_goto C (n := 2) dX0_putKnownToAll_25 (by decide) ?_
  exact rf_lv _ [1, 2, 3, 0] rfl (hk2 _ _ _ _)
noncomputable def s_X0_putKnownToAll_2 (fu : Nat) (ih : Int32 → Int32 → Int32 → hM → Option (Unit × hM)) (x1 : Int32) (x2 : Int32) (x3 : Int32) (m : hM) : Option (Unit × hM) :=
  if (gI m 1 4) ≤ x3 then (
some ((), m)) else (
if x3 = x1 then (
f_X0_putKnownToAll_22 fu ih x1 x2 x3 m) else (
hBd (f_X0_putKnown fu x1 x3 x2 m) fun _ m4 =>
f_X0_putKnownToAll_22 fu ih x1 x2 x3 m4))
noncomputable def f_X0_putKnownToAll_2 (fu : Nat) (n : Nat) : Int32 → Int32 → Int32 → hM → Option (Unit × hM) :=
  Nat.rec (motive := fun _ => Int32 → Int32 → Int32 → hM → Option (Unit × hM)) (fun _ _ _ _ => none) (fun _ ih => s_X0_putKnownToAll_2 fu ih) n
theorem f_X0_putKnownToAll_2_s (fu : Nat) (n : Nat) (x1 : Int32) (x2 : Int32) (x3 : Int32) (m : hM) : f_X0_putKnownToAll_2 fu (n + 1) x1 x2 x3 m = s_X0_putKnownToAll_2 fu (f_X0_putKnownToAll_2 fu n) x1 x2 x3 m := rfl
set_option maxRecDepth 100000 in
set_option maxHeartbeats 4000000 in
theorem r_X0_putKnownToAll_2 {G : hG} {X : hX} (C : Cx G X 2 cX0_putKnownToAll 4 RX0 none) (K : Cr G X) (fu : Nat) (n : Nat) : ∀ (x1 : Int32) (x2 : Int32) (x3 : Int32) (m : hM), Rf vU G X 2 [(0, hA G 1), (1, .int x1), (2, .int x2), (3, .int x3)] [] m (f_X0_putKnownToAll_2 fu n x1 x2 x3 m) := by
  induction n with
  | zero => intros; exact rf_none
  | succ n ih =>
    intro x1 x2 x3 m
    show Rf vU G X 2 [(0, hA G 1), (1, .int x1), (2, .int x2), (3, .int x3)] [] m (s_X0_putKnownToAll_2 fu (f_X0_putKnownToAll_2 fu n) x1 x2 x3 m)
    unfold s_X0_putKnownToAll_2
    refine rf_iload_n C (n := 3) (q := 3) dX0_putKnownToAll_2 rfl rfl rfl ?_
    refine rf_aload_n C (n := 4) (q := 0) dX0_putKnownToAll_3 rfl rfl rfl ?_
    refine rf_getI C (n := 7) fl_RX0_28 ly_1 rfl dX0_putKnownToAll_4 rfl ?_
    refine rf_icmp_ge C (tgt := 28) (n := 10) dX0_putKnownToAll_7 (by decide) rfl (fun h1 => ?_) (fun h1 => ?_)
    · exact rf_vret C K dX0_putKnownToAll_28
    · refine rf_iload_n C (n := 11) (q := 3) dX0_putKnownToAll_10 rfl rfl rfl ?_
      refine rf_iload_n C (n := 12) (q := 1) dX0_putKnownToAll_11 rfl rfl rfl ?_
      refine rf_icmp_eq C (tgt := 22) (n := 15) dX0_putKnownToAll_12 (by decide) rfl (fun h2 => ?_) (fun h2 => ?_)
      · exact rf_lv _ [0, 1, 2, 3] rfl (r_X0_putKnownToAll_22 C K fu _ ih _ _ _ _)
      · refine rf_aload_n C (n := 16) (q := 0) dX0_putKnownToAll_15 rfl rfl rfl ?_
        refine rf_iload_n C (n := 17) (q := 1) dX0_putKnownToAll_16 rfl rfl rfl ?_
        refine rf_iload_n C (n := 18) (q := 3) dX0_putKnownToAll_17 rfl rfl rfl ?_
        refine rf_iload_n C (n := 19) (q := 2) dX0_putKnownToAll_18 rfl rfl rfl ?_
        refine rf_callVv C (n := 22) (c_X0_putKnown G fu _ _ _ _) mw_RX0_69 ly_1 rfl ⟨by decide, by decide⟩ rfl (Nat.le_of_ble_eq_true rfl) rfl dX0_putKnownToAll_19 rfl (fun _ m4 => ?_)
        exact rf_lv _ [0, 1, 2, 3] rfl (r_X0_putKnownToAll_22 C K fu _ ih _ _ _ _)
noncomputable def f_X0_putKnownToAll (fu : Nat) (x1 : Int32) (x2 : Int32) (m : hM) : Option (Unit × hM) :=
  f_X0_putKnownToAll_2 fu fu x1 x2 0 m
set_option maxRecDepth 100000 in
set_option maxHeartbeats 4000000 in
theorem c_X0_putKnownToAll (G : hG) (fu : Nat) (x1 : Int32) (x2 : Int32) (m : hM) : Mt vU G 2 yX0_putKnownToAll cX0_putKnownToAll 4 none [hA G 1, .int x1, .int x2] m (f_X0_putKnownToAll fu x1 x2 m) := by
  refine mt_of (by decide +kernel) (Nat.le_of_ble_eq_true rfl) (fun X C K => ?_)
  have C : Cx G X 2 cX0_putKnownToAll 4 RX0 none := C
  show Rf vU G X 0 [(0, hA G 1), (1, .int x1), (2, .int x2)] [] m _
  unfold f_X0_putKnownToAll
  refine rf_iconst C (n := 1) (v := 0) dX0_putKnownToAll_0 rfl (by decide) ?_
  refine rf_istore_n C (n := 2) [(3, .int 0), (0, hA G 1), (1, .int x1), (2, .int x2)] dX0_putKnownToAll_1 rfl rfl (by decide) rfl ?_
  exact rf_lv _ [1, 2, 3, 0] rfl (r_X0_putKnownToAll_2 C K fu fu _ _ _ _)
noncomputable def s_X0_officesWith_4 (fu : Nat) (ih : Int32 → Int32 → Int32 → hM → Option (Int32 × hM)) (x1 : Int32) (x2 : Int32) (x3 : Int32) (m : hM) : Option (Int32 × hM) :=
  if (gI m 1 4) ≤ x3 then (
some (x2, m)) else (
if hIn x3 6 then (
hLet (x2 ||| ((((gI m (6 + 2 * (Int32.toNatClampNeg x3)) 5) >>> (x1 &&& 31)) &&& 1) <<< (x3 &&& 31))) fun y3 =>
hLet (x3 + 1) fun y4 =>
ih x1 y3 y4 m) else none)
noncomputable def f_X0_officesWith_4 (fu : Nat) (n : Nat) : Int32 → Int32 → Int32 → hM → Option (Int32 × hM) :=
  Nat.rec (motive := fun _ => Int32 → Int32 → Int32 → hM → Option (Int32 × hM)) (fun _ _ _ _ => none) (fun _ ih => s_X0_officesWith_4 fu ih) n
theorem f_X0_officesWith_4_s (fu : Nat) (n : Nat) (x1 : Int32) (x2 : Int32) (x3 : Int32) (m : hM) : f_X0_officesWith_4 fu (n + 1) x1 x2 x3 m = s_X0_officesWith_4 fu (f_X0_officesWith_4 fu n) x1 x2 x3 m := rfl
set_option maxRecDepth 100000 in
set_option maxHeartbeats 4000000 in
theorem r_X0_officesWith_4 {G : hG} {X : hX} (C : Cx G X 1 cX0_officesWith 4 RX0 (some .int)) (K : Cr G X) (fu : Nat) (n : Nat) : ∀ (x1 : Int32) (x2 : Int32) (x3 : Int32) (m : hM), Rf vI G X 4 [(0, hA G 1), (1, .int x1), (2, .int x2), (3, .int x3)] [] m (f_X0_officesWith_4 fu n x1 x2 x3 m) := by
  induction n with
  | zero => intros; exact rf_none
  | succ n ih =>
    intro x1 x2 x3 m
    show Rf vI G X 4 [(0, hA G 1), (1, .int x1), (2, .int x2), (3, .int x3)] [] m (s_X0_officesWith_4 fu (f_X0_officesWith_4 fu n) x1 x2 x3 m)
    unfold s_X0_officesWith_4
    refine rf_iload_n C (n := 5) (q := 3) dX0_officesWith_4 rfl rfl rfl ?_
    refine rf_aload_n C (n := 6) (q := 0) dX0_officesWith_5 rfl rfl rfl ?_
    refine rf_getI C (n := 9) fl_RX0_28 ly_1 rfl dX0_officesWith_6 rfl ?_
    refine rf_icmp_ge C (tgt := 36) (n := 12) dX0_officesWith_9 (by decide) rfl (fun h1 => ?_) (fun h1 => ?_)
    · refine rf_iload_n C (n := 37) (q := 2) dX0_officesWith_36 rfl rfl rfl ?_
      exact rf_iret C K dX0_officesWith_37
    · refine rf_iload_n C (n := 13) (q := 2) dX0_officesWith_12 rfl rfl rfl ?_
      refine rf_aload_n C (n := 14) (q := 0) dX0_officesWith_13 rfl rfl rfl ?_
      refine rf_getS C (n := 17) fl_RX0_11 ly_1 rfl dX0_officesWith_14 rfl ?_
      refine rf_iload_n C (n := 18) (q := 3) dX0_officesWith_17 rfl rfl rfl ?_
      refine rf_guard (fun h2 => ?_)
      refine rf_aaldO C (n := 19) ly_2 h2 (of_r h2) dX0_officesWith_18 rfl ?_
      refine rf_getI C (n := 22) fl_RX0_72 (pO_l (of_o h2)) rfl dX0_officesWith_19 rfl ?_
      refine rf_iload_n C (n := 23) (q := 1) dX0_officesWith_22 rfl rfl rfl ?_
      refine rf_ishr C (n := 24) dX0_officesWith_23 rfl ?_
      refine rf_iconst C (n := 25) (v := 1) dX0_officesWith_24 rfl (by decide) ?_
      refine rf_iand C (n := 26) dX0_officesWith_25 rfl ?_
      refine rf_iload_n C (n := 27) (q := 3) dX0_officesWith_26 rfl rfl rfl ?_
      refine rf_ishl C (n := 28) dX0_officesWith_27 rfl ?_
      refine rf_ior C (n := 29) dX0_officesWith_28 rfl ?_
      refine rf_letI (fun y3 => ?_)
      refine rf_istore_n C (n := 30) [(2, .int y3), (0, hA G 1), (1, .int x1), (3, .int x3)] dX0_officesWith_29 rfl rfl (by decide) rfl ?_
      refine rf_iinc2 C (n := 33) (q := 3) (fun y4 => [(3, .int y4), (2, .int y3), (0, hA G 1), (1, .int x1)]) dX0_officesWith_30 rfl rfl (by decide) (by decide) (fun _ => rfl) (fun y4 => ?_)
      refine rf_goto C (n := 4) dX0_officesWith_33 (by decide) ?_
      exact rf_lv _ [2, 3, 1, 0] rfl (ih _ _ _ _)
noncomputable def f_X0_officesWith (fu : Nat) (x1 : Int32) (m : hM) : Option (Int32 × hM) :=
  f_X0_officesWith_4 fu fu x1 0 0 m
set_option maxRecDepth 100000 in
set_option maxHeartbeats 4000000 in
theorem c_X0_officesWith (G : hG) (fu : Nat) (x1 : Int32) (m : hM) : Mt vI G 1 yX0_officesWith cX0_officesWith 4 (some .int) [hA G 1, .int x1] m (f_X0_officesWith fu x1 m) := by
  refine mt_of (by decide +kernel) (Nat.le_of_ble_eq_true rfl) (fun X C K => ?_)
  have C : Cx G X 1 cX0_officesWith 4 RX0 (some .int) := C
  show Rf vI G X 0 [(0, hA G 1), (1, .int x1)] [] m _
  unfold f_X0_officesWith
  refine rf_iconst C (n := 1) (v := 0) dX0_officesWith_0 rfl (by decide) ?_
  refine rf_istore_n C (n := 2) [(2, .int 0), (0, hA G 1), (1, .int x1)] dX0_officesWith_1 rfl rfl (by decide) rfl ?_
  refine rf_iconst C (n := 3) (v := 0) dX0_officesWith_2 rfl (by decide) ?_
  refine rf_istore_n C (n := 4) [(3, .int 0), (2, .int 0), (0, hA G 1), (1, .int x1)] dX0_officesWith_3 rfl rfl (by decide) rfl ?_
  exact rf_lv _ [2, 3, 1, 0] rfl (r_X0_officesWith_4 C K fu fu _ _ _ _)
noncomputable def s_X0_allPeople_4 (fu : Nat) (ih : Int32 → Int32 → hM → Option (Int32 × hM)) (x1 : Int32) (x2 : Int32) (m : hM) : Option (Int32 × hM) :=
  if (gI m 1 4) ≤ x2 then (
some (x1, m)) else (
if hIn x2 6 then (
hLet (x1 + (gI m (6 + 2 * (Int32.toNatClampNeg x2)) 4)) fun y3 =>
hLet (x2 + 1) fun y4 =>
ih y3 y4 m) else none)
noncomputable def f_X0_allPeople_4 (fu : Nat) (n : Nat) : Int32 → Int32 → hM → Option (Int32 × hM) :=
  Nat.rec (motive := fun _ => Int32 → Int32 → hM → Option (Int32 × hM)) (fun _ _ _ => none) (fun _ ih => s_X0_allPeople_4 fu ih) n
theorem f_X0_allPeople_4_s (fu : Nat) (n : Nat) (x1 : Int32) (x2 : Int32) (m : hM) : f_X0_allPeople_4 fu (n + 1) x1 x2 m = s_X0_allPeople_4 fu (f_X0_allPeople_4 fu n) x1 x2 m := rfl
set_option maxRecDepth 100000 in
set_option maxHeartbeats 4000000 in
theorem r_X0_allPeople_4 {G : hG} {X : hX} (C : Cx G X 1 cX0_allPeople 3 RX0 (some .int)) (K : Cr G X) (fu : Nat) (n : Nat) : ∀ (x1 : Int32) (x2 : Int32) (m : hM), Rf vI G X 4 [(0, hA G 1), (1, .int x1), (2, .int x2)] [] m (f_X0_allPeople_4 fu n x1 x2 m) := by
  induction n with
  | zero => intros; exact rf_none
  | succ n ih =>
    intro x1 x2 m
    show Rf vI G X 4 [(0, hA G 1), (1, .int x1), (2, .int x2)] [] m (s_X0_allPeople_4 fu (f_X0_allPeople_4 fu n) x1 x2 m)
    unfold s_X0_allPeople_4
    refine rf_iload_n C (n := 5) (q := 2) dX0_allPeople_4 rfl rfl rfl ?_
    refine rf_aload_n C (n := 6) (q := 0) dX0_allPeople_5 rfl rfl rfl ?_
    refine rf_getI C (n := 9) fl_RX0_28 ly_1 rfl dX0_allPeople_6 rfl ?_
    refine rf_icmp_ge C (tgt := 30) (n := 12) dX0_allPeople_9 (by decide) rfl (fun h1 => ?_) (fun h1 => ?_)
    · refine rf_iload_n C (n := 31) (q := 1) dX0_allPeople_30 rfl rfl rfl ?_
      exact rf_iret C K dX0_allPeople_31
    · refine rf_iload_n C (n := 13) (q := 1) dX0_allPeople_12 rfl rfl rfl ?_
      refine rf_aload_n C (n := 14) (q := 0) dX0_allPeople_13 rfl rfl rfl ?_
      refine rf_getS C (n := 17) fl_RX0_11 ly_1 rfl dX0_allPeople_14 rfl ?_
      refine rf_iload_n C (n := 18) (q := 2) dX0_allPeople_17 rfl rfl rfl ?_
      refine rf_guard (fun h2 => ?_)
      refine rf_aaldO C (n := 19) ly_2 h2 (of_r h2) dX0_allPeople_18 rfl ?_
      refine rf_getI C (n := 22) fl_RX0_75 (pO_l (of_o h2)) rfl dX0_allPeople_19 rfl ?_
      refine rf_iadd C (n := 23) dX0_allPeople_22 rfl ?_
      refine rf_letI (fun y3 => ?_)
      refine rf_istore_n C (n := 24) [(1, .int y3), (0, hA G 1), (2, .int x2)] dX0_allPeople_23 rfl rfl (by decide) rfl ?_
      refine rf_iinc2 C (n := 27) (q := 2) (fun y4 => [(2, .int y4), (1, .int y3), (0, hA G 1)]) dX0_allPeople_24 rfl rfl (by decide) (by decide) (fun _ => rfl) (fun y4 => ?_)
      refine rf_goto C (n := 4) dX0_allPeople_27 (by decide) ?_
      exact rf_lv _ [2, 1, 0] rfl (ih _ _ _)
noncomputable def f_X0_allPeople (fu : Nat) (m : hM) : Option (Int32 × hM) :=
  f_X0_allPeople_4 fu fu 0 0 m
set_option maxRecDepth 100000 in
set_option maxHeartbeats 4000000 in
theorem c_X0_allPeople (G : hG) (fu : Nat) (m : hM) : Mt vI G 1 yX0_allPeople cX0_allPeople 3 (some .int) [hA G 1] m (f_X0_allPeople fu m) := by
  refine mt_of (by decide +kernel) (Nat.le_of_ble_eq_true rfl) (fun X C K => ?_)
  have C : Cx G X 1 cX0_allPeople 3 RX0 (some .int) := C
  show Rf vI G X 0 [(0, hA G 1)] [] m _
  unfold f_X0_allPeople
  refine rf_iconst C (n := 1) (v := 0) dX0_allPeople_0 rfl (by decide) ?_
  refine rf_istore_n C (n := 2) [(1, .int 0), (0, hA G 1)] dX0_allPeople_1 rfl rfl (by decide) rfl ?_
  refine rf_iconst C (n := 3) (v := 0) dX0_allPeople_2 rfl (by decide) ?_
  refine rf_istore_n C (n := 4) [(2, .int 0), (1, .int 0), (0, hA G 1)] dX0_allPeople_3 rfl rfl (by decide) rfl ?_
  exact rf_lv _ [2, 1, 0] rfl (r_X0_allPeople_4 C K fu fu _ _ _)
noncomputable def f_X0_lostBy (fu : Nat) (x1 : Int32) (x2 : Int32) (x3 : Int32) (m : hM) : Option (Int32 × hM) :=
  if ¬ x1 = x2 then (
if hIn ((x1 * 6) + x2) 36 then (
hBd (f_J9_max_7cf53 fu ((gI m 1 5) - (gI m 3 (Int32.toNatClampNeg ((x1 * 6) + x2)))) 0 m) fun y3 m4 =>
if ¬ x3 = 0 then (
some (y3, m4)) else (
some (y3 + 2, m4))) else none) else (
some (0, m))
set_option maxRecDepth 100000 in
set_option maxHeartbeats 4000000 in
theorem c_X0_lostBy (G : hG) (fu : Nat) (x1 : Int32) (x2 : Int32) (x3 : Int32) (m : hM) : Mt vI G 2 yX0_lostBy cX0_lostBy 5 (some .int) [hA G 1, .int x1, .int x2, .int x3] m (f_X0_lostBy fu x1 x2 x3 m) := by
  refine mt_of (by decide +kernel) (Nat.le_of_ble_eq_true rfl) (fun X C K => ?_)
  have C : Cx G X 2 cX0_lostBy 5 RX0 (some .int) := C
  show Rf vI G X 0 [(0, hA G 1), (1, .int x1), (2, .int x2), (3, .int x3)] [] m _
  unfold f_X0_lostBy
  refine rf_iload_n C (n := 1) (q := 1) dX0_lostBy_0 rfl rfl rfl ?_
  refine rf_iload_n C (n := 2) (q := 2) dX0_lostBy_1 rfl rfl rfl ?_
  refine rf_icmp_ne C (tgt := 7) (n := 5) dX0_lostBy_2 (by decide) rfl (fun h1 => ?_) (fun h1 => ?_)
  · refine rf_aload_n C (n := 8) (q := 0) dX0_lostBy_7 rfl rfl rfl ?_
    refine rf_getI C (n := 11) fl_RX0_32 ly_1 rfl dX0_lostBy_8 rfl ?_
    refine rf_aload_n C (n := 12) (q := 0) dX0_lostBy_11 rfl rfl rfl ?_
    refine rf_getS C (n := 15) fl_RX0_17 ly_1 rfl dX0_lostBy_12 rfl ?_
    refine rf_iload_n C (n := 16) (q := 1) dX0_lostBy_15 rfl rfl rfl ?_
    refine rf_bipush C (n := 18) (v := 6) dX0_lostBy_16 rfl (by decide) ?_
    refine rf_imul C (n := 19) dX0_lostBy_18 rfl ?_
    refine rf_iload_n C (n := 20) (q := 2) dX0_lostBy_19 rfl rfl rfl ?_
    refine rf_iadd C (n := 21) dX0_lostBy_20 rfl ?_
    refine rf_guard (fun h2 => ?_)
    refine rf_iald C (n := 22) ly_3 h2 rfl dX0_lostBy_21 rfl ?_
    refine rf_isub C (n := 23) dX0_lostBy_22 rfl ?_
    refine rf_iconst C (n := 24) (v := 0) dX0_lostBy_23 rfl (by decide) ?_
    refine rf_callSi C (n := 27) (c_J9_max_7cf53 G fu _ _ _) sw_RX0_39 ⟨by decide, by decide⟩ rfl (Nat.le_of_ble_eq_true rfl) rfl dX0_lostBy_24 rfl (fun y3 m4 => ?_)
    refine rf_istore C (n := 29) [(4, .int y3), (0, hA G 1), (1, .int x1), (2, .int x2), (3, .int x3)] dX0_lostBy_27 rfl (by decide) rfl ?_
    refine rf_iload_n C (n := 30) (q := 4) dX0_lostBy_29 rfl rfl rfl ?_
    refine rf_if_ne C (tgt := 40) (n := 33) dX0_lostBy_30 (by decide) rfl (fun h5 => ?_) (fun h5 => ?_)
    · refine rf_iload C (n := 42) (q := 0) dX0_lostBy_40 rfl rfl ?_
      exact rf_iret C K dX0_lostBy_42
    · refine rf_iload C (n := 35) (q := 0) dX0_lostBy_33 rfl rfl ?_
      refine rf_iconst C (n := 36) (v := 2) dX0_lostBy_35 rfl (by decide) ?_
      refine rf_iadd C (n := 37) dX0_lostBy_36 rfl ?_
      refine rf_goto C (n := 42) dX0_lostBy_37 (by decide) ?_
      exact rf_iret C K dX0_lostBy_42
  · refine rf_iconst C (n := 6) (v := 0) dX0_lostBy_5 rfl (by decide) ?_
    exact rf_iret C K dX0_lostBy_6
noncomputable def f_X0_wrongBetween (fu : Nat) (x1 : Int32) (x2 : Int32) (m : hM) : Option (Int32 × hM) :=
  if hIn ((x1 * 6) + x2) 36 then (
some (((gI m 1 6) * (10 - (gI m 3 (Int32.toNatClampNeg ((x1 * 6) + x2))))) / 10, m)) else none
set_option maxRecDepth 100000 in
set_option maxHeartbeats 4000000 in
theorem c_X0_wrongBetween (G : hG) (fu : Nat) (x1 : Int32) (x2 : Int32) (m : hM) : Mt vI G 1 yX0_wrongBetween cX0_wrongBetween 3 (some .int) [hA G 1, .int x1, .int x2] m (f_X0_wrongBetween fu x1 x2 m) := by
  refine mt_of (by decide +kernel) (Nat.le_of_ble_eq_true rfl) (fun X C K => ?_)
  have C : Cx G X 1 cX0_wrongBetween 3 RX0 (some .int) := C
  show Rf vI G X 0 [(0, hA G 1), (1, .int x1), (2, .int x2)] [] m _
  unfold f_X0_wrongBetween
  refine rf_aload_n C (n := 1) (q := 0) dX0_wrongBetween_0 rfl rfl rfl ?_
  refine rf_getI C (n := 4) fl_RX0_35 ly_1 rfl dX0_wrongBetween_1 rfl ?_
  refine rf_bipush C (n := 6) (v := 10) dX0_wrongBetween_4 rfl (by decide) ?_
  refine rf_aload_n C (n := 7) (q := 0) dX0_wrongBetween_6 rfl rfl rfl ?_
  refine rf_getS C (n := 10) fl_RX0_17 ly_1 rfl dX0_wrongBetween_7 rfl ?_
  refine rf_iload_n C (n := 11) (q := 1) dX0_wrongBetween_10 rfl rfl rfl ?_
  refine rf_bipush C (n := 13) (v := 6) dX0_wrongBetween_11 rfl (by decide) ?_
  refine rf_imul C (n := 14) dX0_wrongBetween_13 rfl ?_
  refine rf_iload_n C (n := 15) (q := 2) dX0_wrongBetween_14 rfl rfl rfl ?_
  refine rf_iadd C (n := 16) dX0_wrongBetween_15 rfl ?_
  refine rf_guard (fun h1 => ?_)
  refine rf_iald C (n := 17) ly_3 h1 rfl dX0_wrongBetween_16 rfl ?_
  refine rf_isub C (n := 18) dX0_wrongBetween_17 rfl ?_
  refine rf_imul C (n := 19) dX0_wrongBetween_18 rfl ?_
  refine rf_bipush C (n := 21) (v := 10) dX0_wrongBetween_19 rfl (by decide) ?_
  refine rf_idiv C (n := 22) dX0_wrongBetween_21 rfl (by decide) ?_
  exact rf_iret C K dX0_wrongBetween_22
noncomputable def s_X0_nextWork_2 (fu : Nat) (ih : Int32 → Int32 → Int32 → hM → Option (Int32 × hM)) (x1 : Int32) (x2 : Int32) (x3 : Int32) (m : hM) : Option (Int32 × hM) :=
  if 99 ≤ x3 then (
some (99, m)) else (
if 2560 ≤ (x2 + x3) then (
some (99, m)) else (
if hIn (x2 + x3) 2560 then (
if ¬ (((gI m 4 (Int32.toNatClampNeg (x2 + x3))) >>> (x1 &&& 31)) &&& 1) = 1 then (
hLet (x3 + 1) fun y5 =>
ih x1 x2 y5 m) else (
some (x3, m))) else none))
noncomputable def f_X0_nextWork_2 (fu : Nat) (n : Nat) : Int32 → Int32 → Int32 → hM → Option (Int32 × hM) :=
  Nat.rec (motive := fun _ => Int32 → Int32 → Int32 → hM → Option (Int32 × hM)) (fun _ _ _ _ => none) (fun _ ih => s_X0_nextWork_2 fu ih) n
theorem f_X0_nextWork_2_s (fu : Nat) (n : Nat) (x1 : Int32) (x2 : Int32) (x3 : Int32) (m : hM) : f_X0_nextWork_2 fu (n + 1) x1 x2 x3 m = s_X0_nextWork_2 fu (f_X0_nextWork_2 fu n) x1 x2 x3 m := rfl
set_option maxRecDepth 100000 in
set_option maxHeartbeats 4000000 in
theorem r_X0_nextWork_2 {G : hG} {X : hX} (C : Cx G X 1 cX0_nextWork 4 RX0 (some .int)) (K : Cr G X) (fu : Nat) (n : Nat) : ∀ (x1 : Int32) (x2 : Int32) (x3 : Int32) (m : hM), Rf vI G X 2 [(0, hA G 1), (1, .int x1), (2, .int x2), (3, .int x3)] [] m (f_X0_nextWork_2 fu n x1 x2 x3 m) := by
  induction n with
  | zero => intros; exact rf_none
  | succ n ih =>
    intro x1 x2 x3 m
    show Rf vI G X 2 [(0, hA G 1), (1, .int x1), (2, .int x2), (3, .int x3)] [] m (s_X0_nextWork_2 fu (f_X0_nextWork_2 fu n) x1 x2 x3 m)
    unfold s_X0_nextWork_2
    refine rf_iload_n C (n := 3) (q := 3) dX0_nextWork_2 rfl rfl rfl ?_
    refine rf_bipush C (n := 5) (v := 99) dX0_nextWork_3 rfl (by decide) ?_
    refine rf_icmp_ge C (tgt := 41) (n := 8) dX0_nextWork_5 (by decide) rfl (fun h1 => ?_) (fun h1 => ?_)
    · refine rf_bipush C (n := 43) (v := 99) dX0_nextWork_41 rfl (by decide) ?_
      exact rf_iret C K dX0_nextWork_43
    · refine rf_iload_n C (n := 9) (q := 2) dX0_nextWork_8 rfl rfl rfl ?_
      refine rf_iload_n C (n := 10) (q := 3) dX0_nextWork_9 rfl rfl rfl ?_
      refine rf_iadd C (n := 11) dX0_nextWork_10 rfl ?_
      refine rf_sipush C (n := 14) (v := 2560) dX0_nextWork_11 rfl (by decide) ?_
      refine rf_icmp_ge C (tgt := 41) (n := 17) dX0_nextWork_14 (by decide) rfl (fun h2 => ?_) (fun h2 => ?_)
      · refine rf_bipush C (n := 43) (v := 99) dX0_nextWork_41 rfl (by decide) ?_
        exact rf_iret C K dX0_nextWork_43
      · refine rf_aload_n C (n := 18) (q := 0) dX0_nextWork_17 rfl rfl rfl ?_
        refine rf_getS C (n := 21) fl_RX0_21 ly_1 rfl dX0_nextWork_18 rfl ?_
        refine rf_iload_n C (n := 22) (q := 2) dX0_nextWork_21 rfl rfl rfl ?_
        refine rf_iload_n C (n := 23) (q := 3) dX0_nextWork_22 rfl rfl rfl ?_
        refine rf_iadd C (n := 24) dX0_nextWork_23 rfl ?_
        refine rf_guard (fun h3 => ?_)
        refine rf_iald C (n := 25) ly_4 h3 rfl dX0_nextWork_24 rfl ?_
        refine rf_iload_n C (n := 26) (q := 1) dX0_nextWork_25 rfl rfl rfl ?_
        refine rf_ishr C (n := 27) dX0_nextWork_26 rfl ?_
        refine rf_iconst C (n := 28) (v := 1) dX0_nextWork_27 rfl (by decide) ?_
        refine rf_iand C (n := 29) dX0_nextWork_28 rfl ?_
        refine rf_iconst C (n := 30) (v := 1) dX0_nextWork_29 rfl (by decide) ?_
        refine rf_icmp_ne C (tgt := 35) (n := 33) dX0_nextWork_30 (by decide) rfl (fun h4 => ?_) (fun h4 => ?_)
        · refine rf_iinc2 C (n := 38) (q := 3) (fun y5 => [(3, .int y5), (0, hA G 1), (1, .int x1), (2, .int x2)]) dX0_nextWork_35 rfl rfl (by decide) (by decide) (fun _ => rfl) (fun y5 => ?_)
          refine rf_goto C (n := 2) dX0_nextWork_38 (by decide) ?_
          exact rf_lv _ [1, 2, 3, 0] rfl (ih _ _ _ _)
        · refine rf_iload_n C (n := 34) (q := 3) dX0_nextWork_33 rfl rfl rfl ?_
          exact rf_iret C K dX0_nextWork_34
noncomputable def f_X0_nextWork (fu : Nat) (x1 : Int32) (x2 : Int32) (m : hM) : Option (Int32 × hM) :=
  f_X0_nextWork_2 fu fu x1 x2 0 m
set_option maxRecDepth 100000 in
set_option maxHeartbeats 4000000 in
theorem c_X0_nextWork (G : hG) (fu : Nat) (x1 : Int32) (x2 : Int32) (m : hM) : Mt vI G 1 yX0_nextWork cX0_nextWork 4 (some .int) [hA G 1, .int x1, .int x2] m (f_X0_nextWork fu x1 x2 m) := by
  refine mt_of (by decide +kernel) (Nat.le_of_ble_eq_true rfl) (fun X C K => ?_)
  have C : Cx G X 1 cX0_nextWork 4 RX0 (some .int) := C
  show Rf vI G X 0 [(0, hA G 1), (1, .int x1), (2, .int x2)] [] m _
  unfold f_X0_nextWork
  refine rf_iconst C (n := 1) (v := 0) dX0_nextWork_0 rfl (by decide) ?_
  refine rf_istore_n C (n := 2) [(3, .int 0), (0, hA G 1), (1, .int x1), (2, .int x2)] dX0_nextWork_1 rfl rfl (by decide) rfl ?_
  exact rf_lv _ [1, 2, 3, 0] rfl (r_X0_nextWork_2 C K fu fu _ _ _ _)
noncomputable def f_X1_clear (fu : Nat) (m : hM) : Option (Unit × hM) :=
  hLet (sI m 66 1 0) fun m1 =>
some ((), m1)
set_option maxRecDepth 100000 in
set_option maxHeartbeats 4000000 in
theorem c_X1_clear (G : hG) (fu : Nat) (m : hM) : Mt vU G 1 yX1_clear cX1_clear 1 none [hA G 66] m (f_X1_clear fu m) := by
  refine mt_of (by decide +kernel) (Nat.le_of_ble_eq_true rfl) (fun X C K => ?_)
  have C : Cx G X 1 cX1_clear 1 RX1 none := C
  show Rf vU G X 0 [(0, hA G 66)] [] m _
  unfold f_X1_clear
  refine rf_aload_n C (n := 1) (q := 0) dX1_clear_0 rfl rfl rfl ?_
  refine rf_iconst C (n := 2) (v := 0) dX1_clear_1 rfl (by decide) ?_
  refine rf_putI C (n := 5) pl_RX1_15 ly_66 rfl ⟨rfl, rfl⟩ dX1_clear_2 rfl ?_
  refine rf_letM (fun m1 => ?_)
  exact rf_vret C K dX1_clear_5
noncomputable def f_X1_tell (fu : Nat) (x1 : Int64) (m : hM) : Option (Unit × hM) :=
  if 11 ≤ (gI m 66 1) then (
some ((), m)) else (
if hIn (gI m 66 1) 11 then (
hLet (sL m 67 (Int32.toNatClampNeg (gI m 66 1)) x1) fun m3 =>
hLet (sI m3 66 1 ((gI m3 66 1) + 1)) fun m4 =>
some ((), m4)) else none)
set_option maxRecDepth 100000 in
set_option maxHeartbeats 4000000 in
theorem c_X1_tell (G : hG) (fu : Nat) (x1 : Int64) (m : hM) : Mt vU G 1 yX1_tell cX1_tell 3 none [hA G 66, .long x1] m (f_X1_tell fu x1 m) := by
  refine mt_of (by decide +kernel) (Nat.le_of_ble_eq_true rfl) (fun X C K => ?_)
  have C : Cx G X 1 cX1_tell 3 RX1 none := C
  show Rf vU G X 0 [(0, hA G 66), (1, .long x1)] [] m _
  unfold f_X1_tell
  refine rf_aload_n C (n := 1) (q := 0) dX1_tell_0 rfl rfl rfl ?_
  refine rf_getI C (n := 4) fl_RX1_15 ly_66 rfl dX1_tell_1 rfl ?_
  refine rf_aload_n C (n := 5) (q := 0) dX1_tell_4 rfl rfl rfl ?_
  refine rf_getS C (n := 8) fl_RX1_9 ly_66 rfl dX1_tell_5 rfl ?_
  refine rf_alen C (n := 9) (v := 11) ly_67 (by decide) (by decide) dX1_tell_8 rfl ?_
  refine rf_icmp_ge C (tgt := 32) (n := 12) dX1_tell_9 (by decide) rfl (fun h1 => ?_) (fun h1 => ?_)
  · exact rf_vret C K dX1_tell_32
  · refine rf_aload_n C (n := 13) (q := 0) dX1_tell_12 rfl rfl rfl ?_
    refine rf_getS C (n := 16) fl_RX1_9 ly_66 rfl dX1_tell_13 rfl ?_
    refine rf_aload_n C (n := 17) (q := 0) dX1_tell_16 rfl rfl rfl ?_
    refine rf_getI C (n := 20) fl_RX1_15 ly_66 rfl dX1_tell_17 rfl ?_
    refine rf_lload_n C (n := 21) (q := 1) dX1_tell_20 rfl rfl rfl ?_
    refine rf_guard (fun h2 => ?_)
    refine rf_last C (n := 22) ly_67 h2 rfl dX1_tell_21 rfl ?_
    refine rf_letM (fun m3 => ?_)
    refine rf_aload_n C (n := 23) (q := 0) dX1_tell_22 rfl rfl rfl ?_
    refine rf_dup C (n := 24) dX1_tell_23 rfl rfl ?_
    refine rf_getI C (n := 27) fl_RX1_15 ly_66 rfl dX1_tell_24 rfl ?_
    refine rf_iconst C (n := 28) (v := 1) dX1_tell_27 rfl (by decide) ?_
    refine rf_iadd C (n := 29) dX1_tell_28 rfl ?_
    refine rf_putI C (n := 32) pl_RX1_15 ly_66 rfl ⟨rfl, rfl⟩ dX1_tell_29 rfl ?_
    refine rf_letM (fun m4 => ?_)
    exact rf_vret C K dX1_tell_32
noncomputable def f_X1_tellFraction_54 (fu : Nat) (x1 : Int64) (x3 : Int64) (x5 : Int64) (m : hM) : Option (Unit × hM) :=
  if ¬ x5 = 0 then (
hBd (f_X1_tell fu (x1 / x5) m) fun _ m4 =>
if ¬ x5 = 0 then (
hBd (f_X1_tell fu (x3 / x5) m4) fun _ m6 =>
some ((), m6)) else none) else none
set_option maxRecDepth 100000 in
set_option maxHeartbeats 4000000 in
theorem r_X1_tellFraction_54 {G : hG} {X : hX} (C : Cx G X 2 cX1_tellFraction 12 RX1 none) (K : Cr G X) (fu : Nat) (x1 : Int64) (x3 : Int64) (x5 : Int64) (m : hM) : Rf vU G X 54 [(0, hA G 66), (1, .long x1), (3, .long x3), (5, .long x5)] [] m (f_X1_tellFraction_54 fu x1 x3 x5 m) := by
  unfold f_X1_tellFraction_54
  refine rf_aload_n C (n := 55) (q := 0) dX1_tellFraction_54 rfl rfl rfl ?_
  refine rf_lload_n C (n := 56) (q := 1) dX1_tellFraction_55 rfl rfl rfl ?_
  refine rf_lload C (n := 58) (q := 3) dX1_tellFraction_56 rfl rfl ?_
  refine rf_guard (fun h3 => ?_)
  refine rf_ldiv C (n := 59) dX1_tellFraction_58 rfl h3 ?_
  refine rf_callVv C (n := 62) (c_X1_tell G fu _ _) mw_RX1_19 ly_66 rfl ⟨by decide, by decide⟩ rfl (Nat.le_of_ble_eq_true rfl) rfl dX1_tellFraction_59 rfl (fun _ m4 => ?_)
  refine rf_aload_n C (n := 63) (q := 0) dX1_tellFraction_62 rfl rfl rfl ?_
  refine rf_lload_n C (n := 64) (q := 2) dX1_tellFraction_63 rfl rfl rfl ?_
  refine rf_lload C (n := 66) (q := 3) dX1_tellFraction_64 rfl rfl ?_
  refine rf_guard (fun h5 => ?_)
  refine rf_ldiv C (n := 67) dX1_tellFraction_66 rfl h5 ?_
  refine rf_callVv C (n := 70) (c_X1_tell G fu _ _) mw_RX1_19 ly_66 rfl ⟨by decide, by decide⟩ rfl (Nat.le_of_ble_eq_true rfl) rfl dX1_tellFraction_67 rfl (fun _ m6 => ?_)
  exact rf_vret C K dX1_tellFraction_70
noncomputable def f_X1_tellFraction_44 (fu : Nat) (x1 : Int64) (x3 : Int64) (x5 : Int64) (m : hM) : Option (Unit × hM) :=
  if ¬ (lg_cmp x5 0) = 0 then (
f_X1_tellFraction_54 fu x1 x3 x5 m) else (
f_X1_tellFraction_54 fu x1 x3 1 m)
set_option maxRecDepth 100000 in
set_option maxHeartbeats 4000000 in
theorem r_X1_tellFraction_44 {G : hG} {X : hX} (C : Cx G X 2 cX1_tellFraction 12 RX1 none) (K : Cr G X) (fu : Nat) (x1 : Int64) (x3 : Int64) (x5 : Int64) (m : hM) : Rf vU G X 44 [(0, hA G 66), (1, .long x1), (3, .long x3), (5, .long x5)] [] m (f_X1_tellFraction_44 fu x1 x3 x5 m) := by
  unfold f_X1_tellFraction_44
  refine rf_lload C (n := 46) (q := 3) dX1_tellFraction_44 rfl rfl ?_
  refine rf_lconst C (n := 47) (v := 0) dX1_tellFraction_46 rfl (by decide) ?_
  refine rf_lcmp C (n := 48) dX1_tellFraction_47 rfl ?_
  refine rf_if_ne C (tgt := 54) (n := 51) dX1_tellFraction_48 (by decide) rfl (fun h2 => ?_) (fun h2 => ?_)
  · exact rf_lv _ [0, 1, 2, 3] rfl (r_X1_tellFraction_54 C K fu _ _ _ _)
  · refine rf_lconst C (n := 52) (v := 1) dX1_tellFraction_51 rfl (by decide) ?_
    refine rf_lstore C (n := 54) [(5, .long 1), (0, hA G 66), (1, .long x1), (3, .long x3)] dX1_tellFraction_52 rfl (by decide) rfl ?_
    exact rf_lv _ [1, 2, 3, 0] rfl (r_X1_tellFraction_54 C K fu _ _ _ _)
noncomputable def s_X1_tellFraction_9 (fu : Nat) (ih : Int64 → Int64 → Int64 → Int64 → Int32 → hM → Option (Unit × hM)) (x1 : Int64) (x3 : Int64) (x5 : Int64) (x7 : Int64) (x9 : Int32) (m : hM) : Option (Unit × hM) :=
  if 100 ≤ x9 then (
f_X1_tellFraction_44 fu x1 x3 x5 m) else (
if (lg_cmp x7 0) = 0 then (
f_X1_tellFraction_44 fu x1 x3 x5 m) else (
if ¬ x7 = 0 then (
hLet (x5 - x5 / x7 * x7) fun y9 =>
hLet (x9 + 1) fun y10 =>
ih x1 x3 x7 y9 y10 m) else none))
noncomputable def f_X1_tellFraction_9 (fu : Nat) (n : Nat) : Int64 → Int64 → Int64 → Int64 → Int32 → hM → Option (Unit × hM) :=
  Nat.rec (motive := fun _ => Int64 → Int64 → Int64 → Int64 → Int32 → hM → Option (Unit × hM)) (fun _ _ _ _ _ _ => none) (fun _ ih => s_X1_tellFraction_9 fu ih) n
theorem f_X1_tellFraction_9_s (fu : Nat) (n : Nat) (x1 : Int64) (x3 : Int64) (x5 : Int64) (x7 : Int64) (x9 : Int32) (m : hM) : f_X1_tellFraction_9 fu (n + 1) x1 x3 x5 x7 x9 m = s_X1_tellFraction_9 fu (f_X1_tellFraction_9 fu n) x1 x3 x5 x7 x9 m := rfl
set_option maxRecDepth 100000 in
set_option maxHeartbeats 4000000 in
theorem r_X1_tellFraction_9 {G : hG} {X : hX} (C : Cx G X 2 cX1_tellFraction 12 RX1 none) (K : Cr G X) (fu : Nat) (n : Nat) : ∀ (x1 : Int64) (x3 : Int64) (x5 : Int64) (x7 : Int64) (x9 : Int32) (m : hM), Rf vU G X 9 [(0, hA G 66), (1, .long x1), (3, .long x3), (5, .long x5), (7, .long x7), (9, .int x9)] [] m (f_X1_tellFraction_9 fu n x1 x3 x5 x7 x9 m) := by
  induction n with
  | zero => intros; exact rf_none
  | succ n ih =>
    intro x1 x3 x5 x7 x9 m
    show Rf vU G X 9 [(0, hA G 66), (1, .long x1), (3, .long x3), (5, .long x5), (7, .long x7), (9, .int x9)] [] m (s_X1_tellFraction_9 fu (f_X1_tellFraction_9 fu n) x1 x3 x5 x7 x9 m)
    unfold s_X1_tellFraction_9
    refine rf_iload C (n := 11) (q := 5) dX1_tellFraction_9 rfl rfl ?_
    refine rf_bipush C (n := 13) (v := 100) dX1_tellFraction_11 rfl (by decide) ?_
    refine rf_icmp_ge C (tgt := 44) (n := 16) dX1_tellFraction_13 (by decide) rfl (fun h1 => ?_) (fun h1 => ?_)
    · exact rf_lv _ [0, 1, 2, 3] rfl (r_X1_tellFraction_44 C K fu _ _ _ _)
    · refine rf_lload C (n := 18) (q := 4) dX1_tellFraction_16 rfl rfl ?_
      refine rf_lconst C (n := 19) (v := 0) dX1_tellFraction_18 rfl (by decide) ?_
      refine rf_lcmp C (n := 20) dX1_tellFraction_19 rfl ?_
      refine rf_if_eq C (tgt := 44) (n := 23) dX1_tellFraction_20 (by decide) rfl (fun h7 => ?_) (fun h7 => ?_)
      · exact rf_lv _ [0, 1, 2, 3] rfl (r_X1_tellFraction_44 C K fu _ _ _ _)
      · refine rf_lload C (n := 25) (q := 3) dX1_tellFraction_23 rfl rfl ?_
        refine rf_lload C (n := 27) (q := 4) dX1_tellFraction_25 rfl rfl ?_
        refine rf_guard (fun h8 => ?_)
        refine rf_lrem C (n := 28) dX1_tellFraction_27 rfl h8 ?_
        refine rf_letL (fun y9 => ?_)
        refine rf_lstore C (n := 30) [(10, .long y9), (0, hA G 66), (1, .long x1), (3, .long x3), (5, .long x5), (7, .long x7), (9, .int x9)] dX1_tellFraction_28 rfl (by decide) rfl ?_
        refine rf_lload C (n := 32) (q := 5) dX1_tellFraction_30 rfl rfl ?_
        refine rf_lstore C (n := 34) [(5, .long x7), (10, .long y9), (0, hA G 66), (1, .long x1), (3, .long x3), (7, .long x7), (9, .int x9)] dX1_tellFraction_32 rfl (by decide) rfl ?_
        refine rf_lload C (n := 36) (q := 1) dX1_tellFraction_34 rfl rfl ?_
        refine rf_lstore C (n := 38) [(7, .long y9), (5, .long x7), (10, .long y9), (0, hA G 66), (1, .long x1), (3, .long x3), (9, .int x9)] dX1_tellFraction_36 rfl (by decide) rfl ?_
        refine rf_iinc2 C (n := 41) (q := 6) (fun y10 => [(9, .int y10), (7, .long y9), (5, .long x7), (10, .long y9), (0, hA G 66), (1, .long x1), (3, .long x3)]) dX1_tellFraction_38 rfl rfl (by decide) (by decide) (fun _ => rfl) (fun y10 => ?_)
        refine rf_goto C (n := 9) dX1_tellFraction_41 (by decide) ?_
        exact rf_lv _ [4, 5, 6, 2, 1, 0] rfl (ih _ _ _ _ _ _)
noncomputable def f_X1_tellFraction (fu : Nat) (x1 : Int64) (x3 : Int64) (m : hM) : Option (Unit × hM) :=
  f_X1_tellFraction_9 fu fu x1 x3 x1 x3 0 m
set_option maxRecDepth 100000 in
set_option maxHeartbeats 4000000 in
theorem c_X1_tellFraction (G : hG) (fu : Nat) (x1 : Int64) (x3 : Int64) (m : hM) : Mt vU G 2 yX1_tellFraction cX1_tellFraction 12 none [hA G 66, .long x1, .long x3] m (f_X1_tellFraction fu x1 x3 m) := by
  refine mt_of (by decide +kernel) (Nat.le_of_ble_eq_true rfl) (fun X C K => ?_)
  have C : Cx G X 2 cX1_tellFraction 12 RX1 none := C
  show Rf vU G X 0 [(0, hA G 66), (1, .long x1), (3, .long x3)] [] m _
  unfold f_X1_tellFraction
  refine rf_lload_n C (n := 1) (q := 1) dX1_tellFraction_0 rfl rfl rfl ?_
  refine rf_lstore C (n := 3) [(5, .long x1), (0, hA G 66), (1, .long x1), (3, .long x3)] dX1_tellFraction_1 rfl (by decide) rfl ?_
  refine rf_lload_n C (n := 4) (q := 3) dX1_tellFraction_3 rfl rfl rfl ?_
  refine rf_lstore C (n := 6) [(7, .long x3), (5, .long x1), (0, hA G 66), (1, .long x1), (3, .long x3)] dX1_tellFraction_4 rfl (by decide) rfl ?_
  refine rf_iconst C (n := 7) (v := 0) dX1_tellFraction_6 rfl (by decide) ?_
  refine rf_istore C (n := 9) [(9, .int 0), (7, .long x3), (5, .long x1), (0, hA G 66), (1, .long x1), (3, .long x3)] dX1_tellFraction_7 rfl (by decide) rfl ?_
  exact rf_lv _ [3, 4, 5, 2, 1, 0] rfl (r_X1_tellFraction_9 C K fu fu _ _ _ _ _ _)
noncomputable def f_X2_settle (fu : Nat) (a0 : Nat) (x1 : Int32) (x2 : Int32) (x3 : Int32) (x4 : Int32) (m : hM) : Option (Unit × hM) :=
  if a0 ∈ ofL then (hLet (sI m a0 0 (x1 / 24)) fun m1 =>
hLet (sI m1 a0 1 (x1 - x1 / 24 * 24)) fun m2 =>
hLet (sI m2 a0 2 x2) fun m3 =>
hLet (sI m3 a0 3 x3) fun m4 =>
hLet (sI m4 a0 4 (x4 / 64)) fun m5 =>
hLet (sI m5 a0 5 (x4 &&& 63)) fun m6 =>
some ((), m6)) else none
set_option maxRecDepth 100000 in
set_option maxHeartbeats 4000000 in
theorem c_X2_settle (G : hG) (fu : Nat) (a0 : Nat) (x1 : Int32) (x2 : Int32) (x3 : Int32) (x4 : Int32) (m : hM) : Mt vU G 1 yX2_settle cX2_settle 5 none [hA G a0, .int x1, .int x2, .int x3, .int x4] m (f_X2_settle fu a0 x1 x2 x3 x4 m) := by
  refine mt_of (by decide +kernel) (Nat.le_of_ble_eq_true rfl) (fun X C K => ?_)
  have C : Cx G X 1 cX2_settle 5 RX2 none := C
  show Rf vU G X 0 [(0, hA G a0), (1, .int x1), (2, .int x2), (3, .int x3), (4, .int x4)] [] m _
  unfold f_X2_settle
  refine rf_guard (fun ha0 => ?_)
  refine rf_aload_n C (n := 1) (q := 0) dX2_settle_0 rfl rfl rfl ?_
  refine rf_iload_n C (n := 2) (q := 1) dX2_settle_1 rfl rfl rfl ?_
  refine rf_bipush C (n := 4) (v := 24) dX2_settle_2 rfl (by decide) ?_
  refine rf_idiv C (n := 5) dX2_settle_4 rfl (by decide) ?_
  refine rf_putI C (n := 8) pl_RX2_15 (pO_l ha0) rfl ⟨rfl, rfl⟩ dX2_settle_5 rfl ?_
  refine rf_letM (fun m1 => ?_)
  refine rf_aload_n C (n := 9) (q := 0) dX2_settle_8 rfl rfl rfl ?_
  refine rf_iload_n C (n := 10) (q := 1) dX2_settle_9 rfl rfl rfl ?_
  refine rf_bipush C (n := 12) (v := 24) dX2_settle_10 rfl (by decide) ?_
  refine rf_irem C (n := 13) dX2_settle_12 rfl (by decide) ?_
  refine rf_putI C (n := 16) pl_RX2_19 (pO_l ha0) rfl ⟨rfl, rfl⟩ dX2_settle_13 rfl ?_
  refine rf_letM (fun m2 => ?_)
  refine rf_aload_n C (n := 17) (q := 0) dX2_settle_16 rfl rfl rfl ?_
  refine rf_iload_n C (n := 18) (q := 2) dX2_settle_17 rfl rfl rfl ?_
  refine rf_putI C (n := 21) pl_RX2_22 (pO_l ha0) rfl ⟨rfl, rfl⟩ dX2_settle_18 rfl ?_
  refine rf_letM (fun m3 => ?_)
  refine rf_aload_n C (n := 22) (q := 0) dX2_settle_21 rfl rfl rfl ?_
  refine rf_iload_n C (n := 23) (q := 3) dX2_settle_22 rfl rfl rfl ?_
  refine rf_putI C (n := 26) pl_RX2_25 (pO_l ha0) rfl ⟨rfl, rfl⟩ dX2_settle_23 rfl ?_
  refine rf_letM (fun m4 => ?_)
  refine rf_aload_n C (n := 27) (q := 0) dX2_settle_26 rfl rfl rfl ?_
  refine rf_iload C (n := 29) (q := 4) dX2_settle_27 rfl rfl ?_
  refine rf_bipush C (n := 31) (v := 64) dX2_settle_29 rfl (by decide) ?_
  refine rf_idiv C (n := 32) dX2_settle_31 rfl (by decide) ?_
  refine rf_putI C (n := 35) pl_RX2_28 (pO_l ha0) rfl ⟨rfl, rfl⟩ dX2_settle_32 rfl ?_
  refine rf_letM (fun m5 => ?_)
  refine rf_aload_n C (n := 36) (q := 0) dX2_settle_35 rfl rfl rfl ?_
  refine rf_iload C (n := 38) (q := 4) dX2_settle_36 rfl rfl ?_
  refine rf_bipush C (n := 40) (v := 63) dX2_settle_38 rfl (by decide) ?_
  refine rf_iand C (n := 41) dX2_settle_40 rfl ?_
  refine rf_putI C (n := 44) pl_RX2_31 (pO_l ha0) rfl ⟨rfl, rfl⟩ dX2_settle_41 rfl ?_
  refine rf_letM (fun m6 => ?_)
  exact rf_vret C K dX2_settle_44
noncomputable def f_X3_told_52 (fu : Nat) (k2 : Int32 → Int32 → Int32 → hM → Option (Int32 × hM)) (x1 : Int32) (x2 : Int32) (x3 : Int32) (m : hM) : Option (Int32 × hM) :=
  hLet (x3 + 1) fun y6 =>
k2 x1 x2 y6 m
set_option maxRecDepth 100000 in
set_option maxHeartbeats 4000000 in
theorem r_X3_told_52 {G : hG} {X : hX} (C : Cx G X 1 cX3_told 4 RX3 (some .boolean)) (K : Cr G X) (fu : Nat) (k2 : Int32 → Int32 → Int32 → hM → Option (Int32 × hM)) (hk2 : ∀ (x1 : Int32) (x2 : Int32) (x3 : Int32) (m : hM), Rf vI G X 2 [(0, hA G 41), (1, .int x1), (2, .int x2), (3, .int x3)] [] m (k2 x1 x2 x3 m)) (x1 : Int32) (x2 : Int32) (x3 : Int32) (m : hM) : Rf vI G X 52 [(0, hA G 41), (1, .int x1), (2, .int x2), (3, .int x3)] [] m (f_X3_told_52 fu k2 x1 x2 x3 m) := by
  unfold f_X3_told_52
  refine rf_iinc2 C (n := 55) (q := 3) (fun y6 => [(3, .int y6), (0, hA G 41), (1, .int x1), (2, .int x2)]) dX3_told_52 rfl rfl (by decide) (by decide) (fun _ => rfl) (fun y6 => ?_)
  refine rf_goto C (n := 2) dX3_told_55 (by decide) ?_
  exact rf_lv _ [1, 2, 3, 0] rfl (hk2 _ _ _ _)
noncomputable def f_X3_told_30 (fu : Nat) (k2 : Int32 → Int32 → Int32 → hM → Option (Int32 × hM)) (x1 : Int32) (x2 : Int32) (x3 : Int32) (m : hM) : Option (Int32 × hM) :=
  if hIn x3 9 then (
if ¬ (gI m 42 (Int32.toNatClampNeg x3)) = x2 then (
f_X3_told_52 fu k2 x1 x2 x3 m) else (
if hIn x3 9 then (
if ¬ (gI m 43 (Int32.toNatClampNeg x3)) = x1 then (
f_X3_told_52 fu k2 x1 x2 x3 m) else (
some (1, m))) else none)) else none
set_option maxRecDepth 100000 in
set_option maxHeartbeats 4000000 in
theorem r_X3_told_30 {G : hG} {X : hX} (C : Cx G X 1 cX3_told 4 RX3 (some .boolean)) (K : Cr G X) (fu : Nat) (k2 : Int32 → Int32 → Int32 → hM → Option (Int32 × hM)) (hk2 : ∀ (x1 : Int32) (x2 : Int32) (x3 : Int32) (m : hM), Rf vI G X 2 [(0, hA G 41), (1, .int x1), (2, .int x2), (3, .int x3)] [] m (k2 x1 x2 x3 m)) (x1 : Int32) (x2 : Int32) (x3 : Int32) (m : hM) : Rf vI G X 30 [(0, hA G 41), (1, .int x1), (2, .int x2), (3, .int x3)] [] m (f_X3_told_30 fu k2 x1 x2 x3 m) := by
  unfold f_X3_told_30
  refine rf_aload_n C (n := 31) (q := 0) dX3_told_30 rfl rfl rfl ?_
  refine rf_getS C (n := 34) fl_RX3_9 ly_41 rfl dX3_told_31 rfl ?_
  refine rf_iload_n C (n := 35) (q := 3) dX3_told_34 rfl rfl rfl ?_
  refine rf_guard (fun h4 => ?_)
  refine rf_iald C (n := 36) ly_42 h4 rfl dX3_told_35 rfl ?_
  refine rf_iload_n C (n := 37) (q := 2) dX3_told_36 rfl rfl rfl ?_
  refine rf_icmp_ne C (tgt := 52) (n := 40) dX3_told_37 (by decide) rfl (fun h5 => ?_) (fun h5 => ?_)
  · exact rf_lv _ [0, 1, 2, 3] rfl (r_X3_told_52 C K fu _ hk2 _ _ _ _)
  · refine rf_aload_n C (n := 41) (q := 0) dX3_told_40 rfl rfl rfl ?_
    refine rf_getS C (n := 44) fl_RX3_15 ly_41 rfl dX3_told_41 rfl ?_
    refine rf_iload_n C (n := 45) (q := 3) dX3_told_44 rfl rfl rfl ?_
    refine rf_guard (fun h7 => ?_)
    refine rf_iald C (n := 46) ly_43 h7 rfl dX3_told_45 rfl ?_
    refine rf_iload_n C (n := 47) (q := 1) dX3_told_46 rfl rfl rfl ?_
    refine rf_icmp_ne C (tgt := 52) (n := 50) dX3_told_47 (by decide) rfl (fun h8 => ?_) (fun h8 => ?_)
    · exact rf_lv _ [0, 1, 2, 3] rfl (r_X3_told_52 C K fu _ hk2 _ _ _ _)
    · refine rf_iconst C (n := 51) (v := 1) dX3_told_50 rfl (by decide) ?_
      exact rf_zret C K (by decide) dX3_told_51
noncomputable def s_X3_told_2 (fu : Nat) (ih : Int32 → Int32 → Int32 → hM → Option (Int32 × hM)) (x1 : Int32) (x2 : Int32) (x3 : Int32) (m : hM) : Option (Int32 × hM) :=
  if (gI m 41 4) ≤ x3 then (
some (0, m)) else (
if hIn x3 9 then (
if ¬ (gI m 42 (Int32.toNatClampNeg x3)) = x1 then (
f_X3_told_30 fu ih x1 x2 x3 m) else (
if hIn x3 9 then (
if (gI m 43 (Int32.toNatClampNeg x3)) = x2 then (
some (1, m)) else (
f_X3_told_30 fu ih x1 x2 x3 m)) else none)) else none)
noncomputable def f_X3_told_2 (fu : Nat) (n : Nat) : Int32 → Int32 → Int32 → hM → Option (Int32 × hM) :=
  Nat.rec (motive := fun _ => Int32 → Int32 → Int32 → hM → Option (Int32 × hM)) (fun _ _ _ _ => none) (fun _ ih => s_X3_told_2 fu ih) n
theorem f_X3_told_2_s (fu : Nat) (n : Nat) (x1 : Int32) (x2 : Int32) (x3 : Int32) (m : hM) : f_X3_told_2 fu (n + 1) x1 x2 x3 m = s_X3_told_2 fu (f_X3_told_2 fu n) x1 x2 x3 m := rfl
set_option maxRecDepth 100000 in
set_option maxHeartbeats 4000000 in
theorem r_X3_told_2 {G : hG} {X : hX} (C : Cx G X 1 cX3_told 4 RX3 (some .boolean)) (K : Cr G X) (fu : Nat) (n : Nat) : ∀ (x1 : Int32) (x2 : Int32) (x3 : Int32) (m : hM), Rf vI G X 2 [(0, hA G 41), (1, .int x1), (2, .int x2), (3, .int x3)] [] m (f_X3_told_2 fu n x1 x2 x3 m) := by
  induction n with
  | zero => intros; exact rf_none
  | succ n ih =>
    intro x1 x2 x3 m
    show Rf vI G X 2 [(0, hA G 41), (1, .int x1), (2, .int x2), (3, .int x3)] [] m (s_X3_told_2 fu (f_X3_told_2 fu n) x1 x2 x3 m)
    unfold s_X3_told_2
    refine rf_iload_n C (n := 3) (q := 3) dX3_told_2 rfl rfl rfl ?_
    refine rf_aload_n C (n := 4) (q := 0) dX3_told_3 rfl rfl rfl ?_
    refine rf_getI C (n := 7) fl_RX3_24 ly_41 rfl dX3_told_4 rfl ?_
    refine rf_icmp_ge C (tgt := 58) (n := 10) dX3_told_7 (by decide) rfl (fun h1 => ?_) (fun h1 => ?_)
    · refine rf_iconst C (n := 59) (v := 0) dX3_told_58 rfl (by decide) ?_
      exact rf_zret C K (by decide) dX3_told_59
    · refine rf_aload_n C (n := 11) (q := 0) dX3_told_10 rfl rfl rfl ?_
      refine rf_getS C (n := 14) fl_RX3_9 ly_41 rfl dX3_told_11 rfl ?_
      refine rf_iload_n C (n := 15) (q := 3) dX3_told_14 rfl rfl rfl ?_
      refine rf_guard (fun h2 => ?_)
      refine rf_iald C (n := 16) ly_42 h2 rfl dX3_told_15 rfl ?_
      refine rf_iload_n C (n := 17) (q := 1) dX3_told_16 rfl rfl rfl ?_
      refine rf_icmp_ne C (tgt := 30) (n := 20) dX3_told_17 (by decide) rfl (fun h3 => ?_) (fun h3 => ?_)
      · exact rf_lv _ [0, 1, 2, 3] rfl (r_X3_told_30 C K fu _ ih _ _ _ _)
      · refine rf_aload_n C (n := 21) (q := 0) dX3_told_20 rfl rfl rfl ?_
        refine rf_getS C (n := 24) fl_RX3_15 ly_41 rfl dX3_told_21 rfl ?_
        refine rf_iload_n C (n := 25) (q := 3) dX3_told_24 rfl rfl rfl ?_
        refine rf_guard (fun h9 => ?_)
        refine rf_iald C (n := 26) ly_43 h9 rfl dX3_told_25 rfl ?_
        refine rf_iload_n C (n := 27) (q := 2) dX3_told_26 rfl rfl rfl ?_
        refine rf_icmp_eq C (tgt := 50) (n := 30) dX3_told_27 (by decide) rfl (fun h10 => ?_) (fun h10 => ?_)
        · refine rf_iconst C (n := 51) (v := 1) dX3_told_50 rfl (by decide) ?_
          exact rf_zret C K (by decide) dX3_told_51
        · exact rf_lv _ [0, 1, 2, 3] rfl (r_X3_told_30 C K fu _ ih _ _ _ _)
noncomputable def f_X3_told (fu : Nat) (x1 : Int32) (x2 : Int32) (m : hM) : Option (Int32 × hM) :=
  f_X3_told_2 fu fu x1 x2 0 m
set_option maxRecDepth 100000 in
set_option maxHeartbeats 4000000 in
theorem c_X3_told (G : hG) (fu : Nat) (x1 : Int32) (x2 : Int32) (m : hM) : Mt vI G 1 yX3_told cX3_told 4 (some .boolean) [hA G 41, .int x1, .int x2] m (f_X3_told fu x1 x2 m) := by
  refine mt_of (by decide +kernel) (Nat.le_of_ble_eq_true rfl) (fun X C K => ?_)
  have C : Cx G X 1 cX3_told 4 RX3 (some .boolean) := C
  show Rf vI G X 0 [(0, hA G 41), (1, .int x1), (2, .int x2)] [] m _
  unfold f_X3_told
  refine rf_iconst C (n := 1) (v := 0) dX3_told_0 rfl (by decide) ?_
  refine rf_istore_n C (n := 2) [(3, .int 0), (0, hA G 41), (1, .int x1), (2, .int x2)] dX3_told_1 rfl rfl (by decide) rfl ?_
  exact rf_lv _ [1, 2, 3, 0] rfl (r_X3_told_2 C K fu fu _ _ _ _)
noncomputable def s_X3_priceOf_4 (fu : Nat) (ih : Int32 → Int32 → Int32 → hM → Option (Int32 × hM)) (x1 : Int32) (x2 : Int32) (x3 : Int32) (m : hM) : Option (Int32 × hM) :=
  if (gI m 41 4) ≤ x3 then (
some (x2, m)) else (
if hIn x3 9 then (
hLet (x2 + (((x1 >>> (x3 &&& 31)) &&& 1) * (gI m 44 (Int32.toNatClampNeg x3)))) fun y3 =>
hLet (x3 + 1) fun y4 =>
ih x1 y3 y4 m) else none)
noncomputable def f_X3_priceOf_4 (fu : Nat) (n : Nat) : Int32 → Int32 → Int32 → hM → Option (Int32 × hM) :=
  Nat.rec (motive := fun _ => Int32 → Int32 → Int32 → hM → Option (Int32 × hM)) (fun _ _ _ _ => none) (fun _ ih => s_X3_priceOf_4 fu ih) n
theorem f_X3_priceOf_4_s (fu : Nat) (n : Nat) (x1 : Int32) (x2 : Int32) (x3 : Int32) (m : hM) : f_X3_priceOf_4 fu (n + 1) x1 x2 x3 m = s_X3_priceOf_4 fu (f_X3_priceOf_4 fu n) x1 x2 x3 m := rfl
set_option maxRecDepth 100000 in
set_option maxHeartbeats 4000000 in
theorem r_X3_priceOf_4 {G : hG} {X : hX} (C : Cx G X 1 cX3_priceOf 4 RX3 (some .int)) (K : Cr G X) (fu : Nat) (n : Nat) : ∀ (x1 : Int32) (x2 : Int32) (x3 : Int32) (m : hM), Rf vI G X 4 [(0, hA G 41), (1, .int x1), (2, .int x2), (3, .int x3)] [] m (f_X3_priceOf_4 fu n x1 x2 x3 m) := by
  induction n with
  | zero => intros; exact rf_none
  | succ n ih =>
    intro x1 x2 x3 m
    show Rf vI G X 4 [(0, hA G 41), (1, .int x1), (2, .int x2), (3, .int x3)] [] m (s_X3_priceOf_4 fu (f_X3_priceOf_4 fu n) x1 x2 x3 m)
    unfold s_X3_priceOf_4
    refine rf_iload_n C (n := 5) (q := 3) dX3_priceOf_4 rfl rfl rfl ?_
    refine rf_aload_n C (n := 6) (q := 0) dX3_priceOf_5 rfl rfl rfl ?_
    refine rf_getI C (n := 9) fl_RX3_24 ly_41 rfl dX3_priceOf_6 rfl ?_
    refine rf_icmp_ge C (tgt := 33) (n := 12) dX3_priceOf_9 (by decide) rfl (fun h1 => ?_) (fun h1 => ?_)
    · refine rf_iload_n C (n := 34) (q := 2) dX3_priceOf_33 rfl rfl rfl ?_
      exact rf_iret C K dX3_priceOf_34
    · refine rf_iload_n C (n := 13) (q := 2) dX3_priceOf_12 rfl rfl rfl ?_
      refine rf_iload_n C (n := 14) (q := 1) dX3_priceOf_13 rfl rfl rfl ?_
      refine rf_iload_n C (n := 15) (q := 3) dX3_priceOf_14 rfl rfl rfl ?_
      refine rf_ishr C (n := 16) dX3_priceOf_15 rfl ?_
      refine rf_iconst C (n := 17) (v := 1) dX3_priceOf_16 rfl (by decide) ?_
      refine rf_iand C (n := 18) dX3_priceOf_17 rfl ?_
      refine rf_aload_n C (n := 19) (q := 0) dX3_priceOf_18 rfl rfl rfl ?_
      refine rf_getS C (n := 22) fl_RX3_18 ly_41 rfl dX3_priceOf_19 rfl ?_
      refine rf_iload_n C (n := 23) (q := 3) dX3_priceOf_22 rfl rfl rfl ?_
      refine rf_guard (fun h2 => ?_)
      refine rf_iald C (n := 24) ly_44 h2 rfl dX3_priceOf_23 rfl ?_
      refine rf_imul C (n := 25) dX3_priceOf_24 rfl ?_
      refine rf_iadd C (n := 26) dX3_priceOf_25 rfl ?_
      refine rf_letI (fun y3 => ?_)
      refine rf_istore_n C (n := 27) [(2, .int y3), (0, hA G 41), (1, .int x1), (3, .int x3)] dX3_priceOf_26 rfl rfl (by decide) rfl ?_
      refine rf_iinc2 C (n := 30) (q := 3) (fun y4 => [(3, .int y4), (2, .int y3), (0, hA G 41), (1, .int x1)]) dX3_priceOf_27 rfl rfl (by decide) (by decide) (fun _ => rfl) (fun y4 => ?_)
      refine rf_goto C (n := 4) dX3_priceOf_30 (by decide) ?_
      exact rf_lv _ [2, 3, 1, 0] rfl (ih _ _ _ _)
noncomputable def f_X3_priceOf (fu : Nat) (x1 : Int32) (m : hM) : Option (Int32 × hM) :=
  f_X3_priceOf_4 fu fu x1 0 0 m
set_option maxRecDepth 100000 in
set_option maxHeartbeats 4000000 in
theorem c_X3_priceOf (G : hG) (fu : Nat) (x1 : Int32) (m : hM) : Mt vI G 1 yX3_priceOf cX3_priceOf 4 (some .int) [hA G 41, .int x1] m (f_X3_priceOf fu x1 m) := by
  refine mt_of (by decide +kernel) (Nat.le_of_ble_eq_true rfl) (fun X C K => ?_)
  have C : Cx G X 1 cX3_priceOf 4 RX3 (some .int) := C
  show Rf vI G X 0 [(0, hA G 41), (1, .int x1)] [] m _
  unfold f_X3_priceOf
  refine rf_iconst C (n := 1) (v := 0) dX3_priceOf_0 rfl (by decide) ?_
  refine rf_istore_n C (n := 2) [(2, .int 0), (0, hA G 41), (1, .int x1)] dX3_priceOf_1 rfl rfl (by decide) rfl ?_
  refine rf_iconst C (n := 3) (v := 0) dX3_priceOf_2 rfl (by decide) ?_
  refine rf_istore_n C (n := 4) [(3, .int 0), (2, .int 0), (0, hA G 41), (1, .int x1)] dX3_priceOf_3 rfl rfl (by decide) rfl ?_
  exact rf_lv _ [2, 3, 1, 0] rfl (r_X3_priceOf_4 C K fu fu _ _ _ _)
noncomputable def f_J9_min_7cf53 (fu : Nat) (x0 : Int32) (x1 : Int32) (m : hM) : Option (Int32 × hM) :=
  if x1 < x0 then (
some (x1, m)) else (
some (x0, m))
set_option maxRecDepth 100000 in
set_option maxHeartbeats 4000000 in
theorem c_J9_min_7cf53 (G : hG) (fu : Nat) (x0 : Int32) (x1 : Int32) (m : hM) : Mt vI G 1 yJ9_min_7cf53 cJ9_min_7cf53 2 (some .int) [.int x0, .int x1] m (f_J9_min_7cf53 fu x0 x1 m) := by
  refine mt_of (by decide +kernel) (Nat.le_of_ble_eq_true rfl) (fun X C K => ?_)
  have C : Cx G X 1 cJ9_min_7cf53 2 RJ9 (some .int) := C
  show Rf vI G X 0 [(0, .int x0), (1, .int x1)] [] m _
  unfold f_J9_min_7cf53
  refine rf_iload_n C (n := 1) (q := 0) dJ9_min_7cf53_0 rfl rfl rfl ?_
  refine rf_iload_n C (n := 2) (q := 1) dJ9_min_7cf53_1 rfl rfl rfl ?_
  refine rf_icmp_gt C (tgt := 9) (n := 5) dJ9_min_7cf53_2 (by decide) rfl (fun h1 => ?_) (fun h1 => ?_)
  · refine rf_iload_n C (n := 10) (q := 1) dJ9_min_7cf53_9 rfl rfl rfl ?_
    exact rf_iret C K dJ9_min_7cf53_10
  · refine rf_iload_n C (n := 6) (q := 0) dJ9_min_7cf53_5 rfl rfl rfl ?_
    refine rf_goto C (n := 10) dJ9_min_7cf53_6 (by decide) ?_
    exact rf_iret C K dJ9_min_7cf53_10
noncomputable def f_X3_bringTogether_75 (fu : Nat) (k2 : Int32 → Int32 → hM → Option (Unit × hM)) (x2 : Int32) (x3 : Int32) (m : hM) : Option (Unit × hM) :=
  hLet (x3 + 1) fun y8 =>
k2 x2 y8 m
set_option maxRecDepth 100000 in
set_option maxHeartbeats 4000000 in
theorem r_X3_bringTogether_75 {G : hG} {X : hX} (C : Cx G X 2 cX3_bringTogether 4 RX3 none) (K : Cr G X) (fu : Nat) (k2 : Int32 → Int32 → hM → Option (Unit × hM)) (hk2 : ∀ (x2 : Int32) (x3 : Int32) (m : hM), Rf vU G X 2 [(0, hA G 41), (1, hA G 1), (2, .int x2), (3, .int x3)] [] m (k2 x2 x3 m)) (x2 : Int32) (x3 : Int32) (m : hM) : Rf vU G X 75 [(0, hA G 41), (1, hA G 1), (2, .int x2), (3, .int x3)] [] m (f_X3_bringTogether_75 fu k2 x2 x3 m) := by
  unfold f_X3_bringTogether_75
  refine rf_iinc2 C (n := 78) (q := 3) (fun y8 => [(3, .int y8), (0, hA G 41), (1, hA G 1), (2, .int x2)]) dX3_bringTogether_75 rfl rfl (by decide) (by decide) (fun _ => rfl) (fun y8 => ?_)
  refine rf_goto C (n := 2) dX3_bringTogether_78 (by decide) ?_
  exact rf_lv _ [1, 2, 3, 0] rfl (hk2 _ _ _)
noncomputable def s_X3_bringTogether_2 (fu : Nat) (ih : Int32 → Int32 → hM → Option (Unit × hM)) (x2 : Int32) (x3 : Int32) (m : hM) : Option (Unit × hM) :=
  if (gI m 41 4) ≤ x3 then (
some ((), m)) else (
if hIn x3 9 then (
if hIn x3 9 then (
if hIn (((gI m 42 (Int32.toNatClampNeg x3)) * 6) + (gI m 43 (Int32.toNatClampNeg x3))) 36 then (
if hIn x3 9 then (
hLet (sI m 45 (Int32.toNatClampNeg x3) (gI m 3 (Int32.toNatClampNeg (((gI m 42 (Int32.toNatClampNeg x3)) * 6) + (gI m 43 (Int32.toNatClampNeg x3)))))) fun m6 =>
if ¬ ((x2 >>> (x3 &&& 31)) &&& 1) = 1 then (
f_X3_bringTogether_75 fu ih x2 x3 m6) else (
if hIn x3 9 then (
if hIn x3 9 then (
if hIn x3 9 then (
hBd (f_J9_min_7cf53 fu ((gI m6 45 (Int32.toNatClampNeg x3)) + 3) 9 m6) fun y12 m13 =>
hBd (f_X0_putKnown fu (gI m6 42 (Int32.toNatClampNeg x3)) (gI m6 43 (Int32.toNatClampNeg x3)) y12 m13) fun _ m14 =>
f_X3_bringTogether_75 fu ih x2 x3 m14) else none) else none) else none)) else none) else none) else none) else none)
noncomputable def f_X3_bringTogether_2 (fu : Nat) (n : Nat) : Int32 → Int32 → hM → Option (Unit × hM) :=
  Nat.rec (motive := fun _ => Int32 → Int32 → hM → Option (Unit × hM)) (fun _ _ _ => none) (fun _ ih => s_X3_bringTogether_2 fu ih) n
theorem f_X3_bringTogether_2_s (fu : Nat) (n : Nat) (x2 : Int32) (x3 : Int32) (m : hM) : f_X3_bringTogether_2 fu (n + 1) x2 x3 m = s_X3_bringTogether_2 fu (f_X3_bringTogether_2 fu n) x2 x3 m := rfl
set_option maxRecDepth 100000 in
set_option maxHeartbeats 4000000 in
theorem r_X3_bringTogether_2 {G : hG} {X : hX} (C : Cx G X 2 cX3_bringTogether 4 RX3 none) (K : Cr G X) (fu : Nat) (n : Nat) : ∀ (x2 : Int32) (x3 : Int32) (m : hM), Rf vU G X 2 [(0, hA G 41), (1, hA G 1), (2, .int x2), (3, .int x3)] [] m (f_X3_bringTogether_2 fu n x2 x3 m) := by
  induction n with
  | zero => intros; exact rf_none
  | succ n ih =>
    intro x2 x3 m
    show Rf vU G X 2 [(0, hA G 41), (1, hA G 1), (2, .int x2), (3, .int x3)] [] m (s_X3_bringTogether_2 fu (f_X3_bringTogether_2 fu n) x2 x3 m)
    unfold s_X3_bringTogether_2
    refine rf_iload_n C (n := 3) (q := 3) dX3_bringTogether_2 rfl rfl rfl ?_
    refine rf_aload_n C (n := 4) (q := 0) dX3_bringTogether_3 rfl rfl rfl ?_
    refine rf_getI C (n := 7) fl_RX3_24 ly_41 rfl dX3_bringTogether_4 rfl ?_
    refine rf_icmp_ge C (tgt := 81) (n := 10) dX3_bringTogether_7 (by decide) rfl (fun h1 => ?_) (fun h1 => ?_)
    · exact rf_vret C K dX3_bringTogether_81
    · refine rf_aload_n C (n := 11) (q := 0) dX3_bringTogether_10 rfl rfl rfl ?_
      refine rf_getS C (n := 14) fl_RX3_21 ly_41 rfl dX3_bringTogether_11 rfl ?_
      refine rf_iload_n C (n := 15) (q := 3) dX3_bringTogether_14 rfl rfl rfl ?_
      refine rf_aload_n C (n := 16) (q := 1) dX3_bringTogether_15 rfl rfl rfl ?_
      refine rf_getS C (n := 19) fl_RX3_28 ly_1 rfl dX3_bringTogether_16 rfl ?_
      refine rf_aload_n C (n := 20) (q := 0) dX3_bringTogether_19 rfl rfl rfl ?_
      refine rf_getS C (n := 23) fl_RX3_9 ly_41 rfl dX3_bringTogether_20 rfl ?_
      refine rf_iload_n C (n := 24) (q := 3) dX3_bringTogether_23 rfl rfl rfl ?_
      refine rf_guard (fun h2 => ?_)
      refine rf_iald C (n := 25) ly_42 h2 rfl dX3_bringTogether_24 rfl ?_
      refine rf_bipush C (n := 27) (v := 6) dX3_bringTogether_25 rfl (by decide) ?_
      refine rf_imul C (n := 28) dX3_bringTogether_27 rfl ?_
      refine rf_aload_n C (n := 29) (q := 0) dX3_bringTogether_28 rfl rfl rfl ?_
      refine rf_getS C (n := 32) fl_RX3_15 ly_41 rfl dX3_bringTogether_29 rfl ?_
      refine rf_iload_n C (n := 33) (q := 3) dX3_bringTogether_32 rfl rfl rfl ?_
      refine rf_guard (fun h3 => ?_)
      refine rf_iald C (n := 34) ly_43 h3 rfl dX3_bringTogether_33 rfl ?_
      refine rf_iadd C (n := 35) dX3_bringTogether_34 rfl ?_
      refine rf_guard (fun h4 => ?_)
      refine rf_iald C (n := 36) ly_3 h4 rfl dX3_bringTogether_35 rfl ?_
      refine rf_guard (fun h5 => ?_)
      refine rf_iast C (n := 37) ly_45 h5 rfl dX3_bringTogether_36 rfl ?_
      refine rf_letM (fun m6 => ?_)
      refine rf_iload_n C (n := 38) (q := 2) dX3_bringTogether_37 rfl rfl rfl ?_
      refine rf_iload_n C (n := 39) (q := 3) dX3_bringTogether_38 rfl rfl rfl ?_
      refine rf_ishr C (n := 40) dX3_bringTogether_39 rfl ?_
      refine rf_iconst C (n := 41) (v := 1) dX3_bringTogether_40 rfl (by decide) ?_
      refine rf_iand C (n := 42) dX3_bringTogether_41 rfl ?_
      refine rf_iconst C (n := 43) (v := 1) dX3_bringTogether_42 rfl (by decide) ?_
      refine rf_icmp_ne C (tgt := 75) (n := 46) dX3_bringTogether_43 (by decide) rfl (fun h7 => ?_) (fun h7 => ?_)
      · exact rf_lv _ [0, 1, 2, 3] rfl (r_X3_bringTogether_75 C K fu _ ih _ _ _)
      · refine rf_aload_n C (n := 47) (q := 1) dX3_bringTogether_46 rfl rfl rfl ?_
        refine rf_aload_n C (n := 48) (q := 0) dX3_bringTogether_47 rfl rfl rfl ?_
        refine rf_getS C (n := 51) fl_RX3_9 ly_41 rfl dX3_bringTogether_48 rfl ?_
        refine rf_iload_n C (n := 52) (q := 3) dX3_bringTogether_51 rfl rfl rfl ?_
        refine rf_guard (fun h9 => ?_)
        refine rf_iald C (n := 53) ly_42 h9 rfl dX3_bringTogether_52 rfl ?_
        refine rf_aload_n C (n := 54) (q := 0) dX3_bringTogether_53 rfl rfl rfl ?_
        refine rf_getS C (n := 57) fl_RX3_15 ly_41 rfl dX3_bringTogether_54 rfl ?_
        refine rf_iload_n C (n := 58) (q := 3) dX3_bringTogether_57 rfl rfl rfl ?_
        refine rf_guard (fun h10 => ?_)
        refine rf_iald C (n := 59) ly_43 h10 rfl dX3_bringTogether_58 rfl ?_
        refine rf_aload_n C (n := 60) (q := 0) dX3_bringTogether_59 rfl rfl rfl ?_
        refine rf_getS C (n := 63) fl_RX3_21 ly_41 rfl dX3_bringTogether_60 rfl ?_
        refine rf_iload_n C (n := 64) (q := 3) dX3_bringTogether_63 rfl rfl rfl ?_
        refine rf_guard (fun h11 => ?_)
        refine rf_iald C (n := 65) ly_45 h11 rfl dX3_bringTogether_64 rfl ?_
        refine rf_iconst C (n := 66) (v := 3) dX3_bringTogether_65 rfl (by decide) ?_
        refine rf_iadd C (n := 67) dX3_bringTogether_66 rfl ?_
        refine rf_bipush C (n := 69) (v := 9) dX3_bringTogether_67 rfl (by decide) ?_
        refine rf_callSi C (n := 72) (c_J9_min_7cf53 G fu _ _ _) sw_RX3_33 ⟨by decide, by decide⟩ rfl (Nat.le_of_ble_eq_true rfl) rfl dX3_bringTogether_69 rfl (fun y12 m13 => ?_)
        refine rf_callVv C (n := 75) (c_X0_putKnown G fu _ _ _ _) mw_RX3_39 ly_1 rfl ⟨by decide, by decide⟩ rfl (Nat.le_of_ble_eq_true rfl) rfl dX3_bringTogether_72 rfl (fun _ m14 => ?_)
        exact rf_lv _ [0, 1, 2, 3] rfl (r_X3_bringTogether_75 C K fu _ ih _ _ _)
noncomputable def f_X3_bringTogether (fu : Nat) (x2 : Int32) (m : hM) : Option (Unit × hM) :=
  f_X3_bringTogether_2 fu fu x2 0 m
set_option maxRecDepth 100000 in
set_option maxHeartbeats 4000000 in
theorem c_X3_bringTogether (G : hG) (fu : Nat) (x2 : Int32) (m : hM) : Mt vU G 2 yX3_bringTogether cX3_bringTogether 4 none [hA G 41, hA G 1, .int x2] m (f_X3_bringTogether fu x2 m) := by
  refine mt_of (by decide +kernel) (Nat.le_of_ble_eq_true rfl) (fun X C K => ?_)
  have C : Cx G X 2 cX3_bringTogether 4 RX3 none := C
  show Rf vU G X 0 [(0, hA G 41), (1, hA G 1), (2, .int x2)] [] m _
  unfold f_X3_bringTogether
  refine rf_iconst C (n := 1) (v := 0) dX3_bringTogether_0 rfl (by decide) ?_
  refine rf_istore_n C (n := 2) [(3, .int 0), (0, hA G 41), (1, hA G 1), (2, .int x2)] dX3_bringTogether_1 rfl rfl (by decide) rfl ?_
  exact rf_lv _ [1, 2, 3, 0] rfl (r_X3_bringTogether_2 C K fu fu _ _ _)
