theorem dX11_hands_0 : decode cX11_hands 0 = .ok (.aload_n 0, 1) := by decide +kernel
theorem dX11_hands_1 : decode cX11_hands 1 = .ok (.getfield 140, 3) := by decide +kernel
theorem dX11_hands_4 : decode cX11_hands 4 = .ok (.iconst 3, 1) := by decide +kernel
theorem dX11_hands_5 : decode cX11_hands 5 = .ok (.iload_n 1, 1) := by decide +kernel
theorem dX11_hands_6 : decode cX11_hands 6 = .ok (.iadd, 1) := by decide +kernel
theorem dX11_hands_7 : decode cX11_hands 7 = .ok (.iaload, 1) := by decide +kernel
theorem dX11_hands_8 : decode cX11_hands 8 = .ok (.istore 4, 2) := by decide +kernel
theorem dX11_hands_10 : decode cX11_hands 10 = .ok (.aload_n 0, 1) := by decide +kernel
theorem dX11_hands_11 : decode cX11_hands 11 = .ok (.iload 4, 2) := by decide +kernel
theorem dX11_hands_13 : decode cX11_hands 13 = .ok (.iload_n 2, 1) := by decide +kernel
theorem dX11_hands_14 : decode cX11_hands 14 = .ok (.iload_n 3, 1) := by decide +kernel
theorem dX11_hands_15 : decode cX11_hands 15 = .ok (.invokevirtual 132, 3) := by decide +kernel
theorem dX11_hands_18 : decode cX11_hands 18 = .ok (.istore 5, 2) := by decide +kernel
theorem dX11_hands_20 : decode cX11_hands 20 = .ok (.aload_n 0, 1) := by decide +kernel
theorem dX11_hands_21 : decode cX11_hands 21 = .ok (.getfield 140, 3) := by decide +kernel
theorem dX11_hands_24 : decode cX11_hands 24 = .ok (.bipush 11, 2) := by decide +kernel
theorem dX11_hands_26 : decode cX11_hands 26 = .ok (.iload_n 1, 1) := by decide +kernel
theorem dX11_hands_27 : decode cX11_hands 27 = .ok (.iadd, 1) := by decide +kernel
theorem dX11_hands_28 : decode cX11_hands 28 = .ok (.dup2, 1) := by decide +kernel
theorem dX11_hands_29 : decode cX11_hands 29 = .ok (.iaload, 1) := by decide +kernel
theorem dX11_hands_30 : decode cX11_hands 30 = .ok (.iload 5, 2) := by decide +kernel
theorem dX11_hands_32 : decode cX11_hands 32 = .ok (.iadd, 1) := by decide +kernel
theorem dX11_hands_33 : decode cX11_hands 33 = .ok (.iastore, 1) := by decide +kernel
theorem dX11_hands_34 : decode cX11_hands 34 = .ok (.aload_n 0, 1) := by decide +kernel
theorem dX11_hands_35 : decode cX11_hands 35 = .ok (.getfield 140, 3) := by decide +kernel
theorem dX11_hands_38 : decode cX11_hands 38 = .ok (.bipush 59, 2) := by decide +kernel
theorem dX11_hands_40 : decode cX11_hands 40 = .ok (.iload_n 1, 1) := by decide +kernel
theorem dX11_hands_41 : decode cX11_hands 41 = .ok (.iadd, 1) := by decide +kernel
theorem dX11_hands_42 : decode cX11_hands 42 = .ok (.dup2, 1) := by decide +kernel
theorem dX11_hands_43 : decode cX11_hands 43 = .ok (.iaload, 1) := by decide +kernel
theorem dX11_hands_44 : decode cX11_hands 44 = .ok (.iload 5, 2) := by decide +kernel
theorem dX11_hands_46 : decode cX11_hands 46 = .ok (.iadd, 1) := by decide +kernel
theorem dX11_hands_47 : decode cX11_hands 47 = .ok (.iastore, 1) := by decide +kernel
theorem dX11_hands_48 : decode cX11_hands 48 = .ok (.aload_n 0, 1) := by decide +kernel
theorem dX11_hands_49 : decode cX11_hands 49 = .ok (.getfield 140, 3) := by decide +kernel
theorem dX11_hands_52 : decode cX11_hands 52 = .ok (.bipush 51, 2) := by decide +kernel
theorem dX11_hands_54 : decode cX11_hands 54 = .ok (.iload_n 1, 1) := by decide +kernel
theorem dX11_hands_55 : decode cX11_hands 55 = .ok (.iadd, 1) := by decide +kernel
theorem dX11_hands_56 : decode cX11_hands 56 = .ok (.dup2, 1) := by decide +kernel
theorem dX11_hands_57 : decode cX11_hands 57 = .ok (.iaload, 1) := by decide +kernel
theorem dX11_hands_58 : decode cX11_hands 58 = .ok (.iconst 1, 1) := by decide +kernel
theorem dX11_hands_59 : decode cX11_hands 59 = .ok (.iadd, 1) := by decide +kernel
theorem dX11_hands_60 : decode cX11_hands 60 = .ok (.iastore, 1) := by decide +kernel
theorem dX11_hands_61 : decode cX11_hands 61 = .ok (.aload_n 0, 1) := by decide +kernel
theorem dX11_hands_62 : decode cX11_hands 62 = .ok (.getfield 140, 3) := by decide +kernel
theorem dX11_hands_65 : decode cX11_hands 65 = .ok (.iconst 2, 1) := by decide +kernel
theorem dX11_hands_66 : decode cX11_hands 66 = .ok (.iaload, 1) := by decide +kernel
theorem dX11_hands_67 : decode cX11_hands 67 = .ok (.bipush 60, 2) := by decide +kernel
theorem dX11_hands_69 : decode cX11_hands 69 = .ok (.if_icmp .ge 50, 3) := by decide +kernel
theorem dX11_hands_72 : decode cX11_hands 72 = .ok (.aload_n 0, 1) := by decide +kernel
theorem dX11_hands_73 : decode cX11_hands 73 = .ok (.getfield 140, 3) := by decide +kernel
theorem dX11_hands_76 : decode cX11_hands 76 = .ok (.bipush 67, 2) := by decide +kernel
theorem dX11_hands_78 : decode cX11_hands 78 = .ok (.aload_n 0, 1) := by decide +kernel
theorem dX11_hands_79 : decode cX11_hands 79 = .ok (.getfield 140, 3) := by decide +kernel
theorem dX11_hands_82 : decode cX11_hands 82 = .ok (.iconst 2, 1) := by decide +kernel
theorem dX11_hands_83 : decode cX11_hands 83 = .ok (.iaload, 1) := by decide +kernel
theorem dX11_hands_84 : decode cX11_hands 84 = .ok (.iadd, 1) := by decide +kernel
theorem dX11_hands_85 : decode cX11_hands 85 = .ok (.aload_n 0, 1) := by decide +kernel
theorem dX11_hands_86 : decode cX11_hands 86 = .ok (.getfield 111, 3) := by decide +kernel
theorem dX11_hands_89 : decode cX11_hands 89 = .ok (.bipush 10, 2) := by decide +kernel
theorem dX11_hands_91 : decode cX11_hands 91 = .ok (.aload_n 0, 1) := by decide +kernel
theorem dX11_hands_92 : decode cX11_hands 92 = .ok (.getfield 60, 3) := by decide +kernel
theorem dX11_hands_95 : decode cX11_hands 95 = .ok (.bipush 6, 2) := by decide +kernel
theorem dX11_hands_97 : decode cX11_hands 97 = .ok (.iload 4, 2) := by decide +kernel
theorem dX11_hands_99 : decode cX11_hands 99 = .ok (.imul, 1) := by decide +kernel
theorem dX11_hands_100 : decode cX11_hands 100 = .ok (.iload_n 2, 1) := by decide +kernel
theorem dX11_hands_101 : decode cX11_hands 101 = .ok (.iadd, 1) := by decide +kernel
theorem dX11_hands_102 : decode cX11_hands 102 = .ok (.iaload, 1) := by decide +kernel
theorem dX11_hands_103 : decode cX11_hands 103 = .ok (.isub, 1) := by decide +kernel
theorem dX11_hands_104 : decode cX11_hands 104 = .ok (.imul, 1) := by decide +kernel
theorem dX11_hands_105 : decode cX11_hands 105 = .ok (.bipush 10, 2) := by decide +kernel
theorem dX11_hands_107 : decode cX11_hands 107 = .ok (.idiv, 1) := by decide +kernel
theorem dX11_hands_108 : decode cX11_hands 108 = .ok (.iastore, 1) := by decide +kernel
theorem dX11_hands_109 : decode cX11_hands 109 = .ok (.aload_n 0, 1) := by decide +kernel
theorem dX11_hands_110 : decode cX11_hands 110 = .ok (.getfield 140, 3) := by decide +kernel
theorem dX11_hands_113 : decode cX11_hands 113 = .ok (.iconst 2, 1) := by decide +kernel
theorem dX11_hands_114 : decode cX11_hands 114 = .ok (.dup2, 1) := by decide +kernel
theorem dX11_hands_115 : decode cX11_hands 115 = .ok (.iaload, 1) := by decide +kernel
theorem dX11_hands_116 : decode cX11_hands 116 = .ok (.iconst 1, 1) := by decide +kernel
theorem dX11_hands_117 : decode cX11_hands 117 = .ok (.iadd, 1) := by decide +kernel
theorem dX11_hands_118 : decode cX11_hands 118 = .ok (.iastore, 1) := by decide +kernel
theorem dX11_hands_119 : decode cX11_hands 119 = .ok (.aload_n 0, 1) := by decide +kernel
theorem dX11_hands_120 : decode cX11_hands 120 = .ok (.getfield 140, 3) := by decide +kernel
theorem dX11_hands_123 : decode cX11_hands 123 = .ok (.iconst 3, 1) := by decide +kernel
theorem dX11_hands_124 : decode cX11_hands 124 = .ok (.iload_n 1, 1) := by decide +kernel
theorem dX11_hands_125 : decode cX11_hands 125 = .ok (.iadd, 1) := by decide +kernel
theorem dX11_hands_126 : decode cX11_hands 126 = .ok (.iload_n 2, 1) := by decide +kernel
theorem dX11_hands_127 : decode cX11_hands 127 = .ok (.iastore, 1) := by decide +kernel
theorem dX11_hands_128 : decode cX11_hands 128 = .ok (.iload 5, 2) := by decide +kernel
theorem dX11_hands_130 : decode cX11_hands 130 = .ok (.ireturn, 1) := by decide +kernel
theorem dX11_closes_0 : decode cX11_closes 0 = .ok (.aload_n 0, 1) := by decide +kernel
theorem dX11_closes_1 : decode cX11_closes 1 = .ok (.getfield 140, 3) := by decide +kernel
theorem dX11_closes_4 : decode cX11_closes 4 = .ok (.iconst 0, 1) := by decide +kernel
theorem dX11_closes_5 : decode cX11_closes 5 = .ok (.iaload, 1) := by decide +kernel
theorem dX11_closes_6 : decode cX11_closes 6 = .ok (.istore_n 1, 1) := by decide +kernel
theorem dX11_closes_7 : decode cX11_closes 7 = .ok (.iconst 0, 1) := by decide +kernel
theorem dX11_closes_8 : decode cX11_closes 8 = .ok (.istore_n 2, 1) := by decide +kernel
theorem dX11_closes_9 : decode cX11_closes 9 = .ok (.iload_n 2, 1) := by decide +kernel
theorem dX11_closes_10 : decode cX11_closes 10 = .ok (.aload_n 0, 1) := by decide +kernel
theorem dX11_closes_11 : decode cX11_closes 11 = .ok (.getfield 151, 3) := by decide +kernel
theorem dX11_closes_14 : decode cX11_closes 14 = .ok (.if_icmp .ge 155, 3) := by decide +kernel
theorem dX11_closes_17 : decode cX11_closes 17 = .ok (.aload_n 0, 1) := by decide +kernel
theorem dX11_closes_18 : decode cX11_closes 18 = .ok (.getfield 199, 3) := by decide +kernel
theorem dX11_closes_21 : decode cX11_closes 21 = .ok (.iconst 0, 1) := by decide +kernel
theorem dX11_closes_22 : decode cX11_closes 22 = .ok (.iaload, 1) := by decide +kernel
theorem dX11_closes_23 : decode cX11_closes 23 = .ok (.ifCond .le 146, 3) := by decide +kernel
theorem dX11_closes_26 : decode cX11_closes 26 = .ok (.aload_n 0, 1) := by decide +kernel
theorem dX11_closes_27 : decode cX11_closes 27 = .ok (.getfield 140, 3) := by decide +kernel
theorem dX11_closes_30 : decode cX11_closes 30 = .ok (.iconst 3, 1) := by decide +kernel
theorem dX11_closes_31 : decode cX11_closes 31 = .ok (.iload_n 2, 1) := by decide +kernel
theorem dX11_closes_32 : decode cX11_closes 32 = .ok (.iadd, 1) := by decide +kernel
theorem dX11_closes_33 : decode cX11_closes 33 = .ok (.iaload, 1) := by decide +kernel
theorem dX11_closes_34 : decode cX11_closes 34 = .ok (.istore_n 3, 1) := by decide +kernel
theorem dX11_closes_35 : decode cX11_closes 35 = .ok (.aload_n 0, 1) := by decide +kernel
theorem dX11_closes_36 : decode cX11_closes 36 = .ok (.getfield 278, 3) := by decide +kernel
theorem dX11_closes_39 : decode cX11_closes 39 = .ok (.iload_n 2, 1) := by decide +kernel
theorem dX11_closes_40 : decode cX11_closes 40 = .ok (.invokestatic 137, 3) := by decide +kernel
theorem dX11_closes_43 : decode cX11_closes 43 = .ok (.ifCond .eq 120, 3) := by decide +kernel
theorem dX11_closes_46 : decode cX11_closes 46 = .ok (.aload_n 0, 1) := by decide +kernel
theorem dX11_closes_47 : decode cX11_closes 47 = .ok (.iload_n 2, 1) := by decide +kernel
theorem dX11_closes_48 : decode cX11_closes 48 = .ok (.invokevirtual 265, 3) := by decide +kernel
theorem dX11_closes_51 : decode cX11_closes 51 = .ok (.ifCond .ne 112, 3) := by decide +kernel
theorem dX11_closes_54 : decode cX11_closes 54 = .ok (.aload_n 0, 1) := by decide +kernel
theorem dX11_closes_55 : decode cX11_closes 55 = .ok (.iload_n 3, 1) := by decide +kernel
theorem dX11_closes_56 : decode cX11_closes 56 = .ok (.iload_n 1, 1) := by decide +kernel
theorem dX11_closes_57 : decode cX11_closes 57 = .ok (.invokevirtual 120, 3) := by decide +kernel
theorem dX11_closes_60 : decode cX11_closes 60 = .ok (.ifCond .eq 103, 3) := by decide +kernel
theorem dX11_closes_63 : decode cX11_closes 63 = .ok (.aload_n 0, 1) := by decide +kernel
theorem dX11_closes_64 : decode cX11_closes 64 = .ok (.iload_n 3, 1) := by decide +kernel
theorem dX11_closes_65 : decode cX11_closes 65 = .ok (.iload_n 1, 1) := by decide +kernel
theorem dX11_closes_66 : decode cX11_closes 66 = .ok (.iconst 1, 1) := by decide +kernel
theorem dX11_closes_67 : decode cX11_closes 67 = .ok (.iadd, 1) := by decide +kernel
theorem dX11_closes_68 : decode cX11_closes 68 = .ok (.invokevirtual 120, 3) := by decide +kernel
theorem dX11_closes_71 : decode cX11_closes 71 = .ok (.ifCond .eq 6, 3) := by decide +kernel
theorem dX11_closes_74 : decode cX11_closes 74 = .ok (.goto 89, 3) := by decide +kernel
theorem dX11_closes_77 : decode cX11_closes 77 = .ok (.iconst 0, 1) := by decide +kernel
theorem dX11_closes_78 : decode cX11_closes 78 = .ok (.istore 4, 2) := by decide +kernel
theorem dX11_closes_80 : decode cX11_closes 80 = .ok (.aload_n 0, 1) := by decide +kernel
theorem dX11_closes_81 : decode cX11_closes 81 = .ok (.iload_n 2, 1) := by decide +kernel
theorem dX11_closes_82 : decode cX11_closes 82 = .ok (.iconst 0, 1) := by decide +kernel
theorem dX11_closes_83 : decode cX11_closes 83 = .ok (.iload_n 1, 1) := by decide +kernel
theorem dX11_closes_84 : decode cX11_closes 84 = .ok (.iconst 1, 1) := by decide +kernel
theorem dX11_closes_85 : decode cX11_closes 85 = .ok (.iadd, 1) := by decide +kernel
theorem dX11_closes_86 : decode cX11_closes 86 = .ok (.invokevirtual 262, 3) := by decide +kernel
theorem dX11_closes_89 : decode cX11_closes 89 = .ok (.istore 5, 2) := by decide +kernel
theorem dX11_closes_91 : decode cX11_closes 91 = .ok (.iconst 1, 1) := by decide +kernel
theorem dX11_closes_92 : decode cX11_closes 92 = .ok (.istore 6, 2) := by decide +kernel
theorem dX11_closes_94 : decode cX11_closes 94 = .ok (.iload 6, 2) := by decide +kernel
theorem dX11_closes_96 : decode cX11_closes 96 = .ok (.aload_n 0, 1) := by decide +kernel
theorem dX11_closes_97 : decode cX11_closes 97 = .ok (.getfield 22, 3) := by decide +kernel
theorem dX11_closes_100 : decode cX11_closes 100 = .ok (.if_icmp .ge 46, 3) := by decide +kernel
theorem dX11_closes_103 : decode cX11_closes 103 = .ok (.aload_n 0, 1) := by decide +kernel
theorem dX11_closes_104 : decode cX11_closes 104 = .ok (.iload_n 2, 1) := by decide +kernel
theorem dX11_closes_105 : decode cX11_closes 105 = .ok (.iload 6, 2) := by decide +kernel
theorem dX11_closes_107 : decode cX11_closes 107 = .ok (.iload_n 1, 1) := by decide +kernel
theorem dX11_closes_108 : decode cX11_closes 108 = .ok (.iconst 1, 1) := by decide +kernel
theorem dX11_closes_109 : decode cX11_closes 109 = .ok (.iadd, 1) := by decide +kernel
theorem dX11_closes_110 : decode cX11_closes 110 = .ok (.invokevirtual 262, 3) := by decide +kernel
theorem dX11_closes_113 : decode cX11_closes 113 = .ok (.istore 7, 2) := by decide +kernel
theorem dX11_closes_115 : decode cX11_closes 115 = .ok (.iload 7, 2) := by decide +kernel
theorem dX11_closes_117 : decode cX11_closes 117 = .ok (.iload 5, 2) := by decide +kernel
theorem dX11_closes_119 : decode cX11_closes 119 = .ok (.if_icmp .le 8, 3) := by decide +kernel
theorem dX11_closes_122 : decode cX11_closes 122 = .ok (.iload 6, 2) := by decide +kernel
theorem dX11_closes_124 : decode cX11_closes 124 = .ok (.goto 5, 3) := by decide +kernel
theorem dX11_closes_127 : decode cX11_closes 127 = .ok (.iload 4, 2) := by decide +kernel
theorem dX11_closes_129 : decode cX11_closes 129 = .ok (.istore 4, 2) := by decide +kernel
theorem dX11_closes_131 : decode cX11_closes 131 = .ok (.iload 5, 2) := by decide +kernel
theorem dX11_closes_133 : decode cX11_closes 133 = .ok (.iload 7, 2) := by decide +kernel
theorem dX11_closes_135 : decode cX11_closes 135 = .ok (.invokestatic 101, 3) := by decide +kernel
theorem dX11_closes_138 : decode cX11_closes 138 = .ok (.istore 5, 2) := by decide +kernel
theorem dX11_closes_140 : decode cX11_closes 140 = .ok (.iinc 6 1, 3) := by decide +kernel
theorem dX11_closes_143 : decode cX11_closes 143 = .ok (.goto (-49), 3) := by decide +kernel
theorem dX11_closes_146 : decode cX11_closes 146 = .ok (.iload 4, 2) := by decide +kernel
theorem dX11_closes_148 : decode cX11_closes 148 = .ok (.iload_n 3, 1) := by decide +kernel
theorem dX11_closes_149 : decode cX11_closes 149 = .ok (.if_icmp .eq 14, 3) := by decide +kernel
theorem dX11_closes_152 : decode cX11_closes 152 = .ok (.aload_n 0, 1) := by decide +kernel
theorem dX11_closes_153 : decode cX11_closes 153 = .ok (.iload_n 2, 1) := by decide +kernel
theorem dX11_closes_154 : decode cX11_closes 154 = .ok (.iload 4, 2) := by decide +kernel
theorem dX11_closes_156 : decode cX11_closes 156 = .ok (.iload_n 1, 1) := by decide +kernel
theorem dX11_closes_157 : decode cX11_closes 157 = .ok (.iconst 1, 1) := by decide +kernel
theorem dX11_closes_158 : decode cX11_closes 158 = .ok (.iadd, 1) := by decide +kernel
theorem dX11_closes_159 : decode cX11_closes 159 = .ok (.invokevirtual 294, 3) := by decide +kernel
theorem dX11_closes_162 : decode cX11_closes 162 = .ok (.pop, 1) := by decide +kernel
theorem dX11_closes_163 : decode cX11_closes 163 = .ok (.iinc 2 1, 3) := by decide +kernel
theorem dX11_closes_166 : decode cX11_closes 166 = .ok (.goto (-157), 3) := by decide +kernel
theorem dX11_closes_169 : decode cX11_closes 169 = .ok (.return_, 1) := by decide +kernel
theorem dX11_passes_0 : decode cX11_passes 0 = .ok (.aload_n 0, 1) := by decide +kernel
theorem dX11_passes_1 : decode cX11_passes 1 = .ok (.invokevirtual 296, 3) := by decide +kernel
theorem dX11_passes_4 : decode cX11_passes 4 = .ok (.aload_n 0, 1) := by decide +kernel
theorem dX11_passes_5 : decode cX11_passes 5 = .ok (.invokevirtual 300, 3) := by decide +kernel
theorem dX11_passes_8 : decode cX11_passes 8 = .ok (.aload_n 0, 1) := by decide +kernel
theorem dX11_passes_9 : decode cX11_passes 9 = .ok (.getfield 140, 3) := by decide +kernel
theorem dX11_passes_12 : decode cX11_passes 12 = .ok (.iconst 0, 1) := by decide +kernel
theorem dX11_passes_13 : decode cX11_passes 13 = .ok (.dup2, 1) := by decide +kernel
theorem dX11_passes_14 : decode cX11_passes 14 = .ok (.iaload, 1) := by decide +kernel
theorem dX11_passes_15 : decode cX11_passes 15 = .ok (.iconst 1, 1) := by decide +kernel
theorem dX11_passes_16 : decode cX11_passes 16 = .ok (.iadd, 1) := by decide +kernel
theorem dX11_passes_17 : decode cX11_passes 17 = .ok (.iastore, 1) := by decide +kernel
theorem dX11_passes_18 : decode cX11_passes 18 = .ok (.return_, 1) := by decide +kernel
theorem dX11_begins_0 : decode cX11_begins 0 = .ok (.aload_n 0, 1) := by decide +kernel
theorem dX11_begins_1 : decode cX11_begins 1 = .ok (.getfield 140, 3) := by decide +kernel
theorem dX11_begins_4 : decode cX11_begins 4 = .ok (.iconst 0, 1) := by decide +kernel
theorem dX11_begins_5 : decode cX11_begins 5 = .ok (.iload_n 1, 1) := by decide +kernel
theorem dX11_begins_6 : decode cX11_begins 6 = .ok (.iastore, 1) := by decide +kernel
theorem dX11_begins_7 : decode cX11_begins 7 = .ok (.aload_n 0, 1) := by decide +kernel
theorem dX11_begins_8 : decode cX11_begins 8 = .ok (.getfield 140, 3) := by decide +kernel
theorem dX11_begins_11 : decode cX11_begins 11 = .ok (.iconst 1, 1) := by decide +kernel
theorem dX11_begins_12 : decode cX11_begins 12 = .ok (.iconst 0, 1) := by decide +kernel
theorem dX11_begins_13 : decode cX11_begins 13 = .ok (.iastore, 1) := by decide +kernel
theorem dX11_begins_14 : decode cX11_begins 14 = .ok (.aload_n 0, 1) := by decide +kernel
theorem dX11_begins_15 : decode cX11_begins 15 = .ok (.getfield 140, 3) := by decide +kernel
theorem dX11_begins_18 : decode cX11_begins 18 = .ok (.iconst 2, 1) := by decide +kernel
theorem dX11_begins_19 : decode cX11_begins 19 = .ok (.iconst 0, 1) := by decide +kernel
theorem dX11_begins_20 : decode cX11_begins 20 = .ok (.iastore, 1) := by decide +kernel
theorem dX11_begins_21 : decode cX11_begins 21 = .ok (.iconst 0, 1) := by decide +kernel
theorem dX11_begins_22 : decode cX11_begins 22 = .ok (.istore_n 2, 1) := by decide +kernel
theorem dX11_begins_23 : decode cX11_begins 23 = .ok (.iload_n 2, 1) := by decide +kernel
theorem dX11_begins_24 : decode cX11_begins 24 = .ok (.aload_n 0, 1) := by decide +kernel
theorem dX11_begins_25 : decode cX11_begins 25 = .ok (.getfield 151, 3) := by decide +kernel
theorem dX11_begins_28 : decode cX11_begins 28 = .ok (.if_icmp .ge 14, 3) := by decide +kernel
theorem dX11_begins_31 : decode cX11_begins 31 = .ok (.aload_n 0, 1) := by decide +kernel
theorem dX11_begins_32 : decode cX11_begins 32 = .ok (.iload_n 2, 1) := by decide +kernel
theorem dX11_begins_33 : decode cX11_begins 33 = .ok (.invokevirtual 166, 3) := by decide +kernel
theorem dX11_begins_36 : decode cX11_begins 36 = .ok (.iinc 2 1, 3) := by decide +kernel
theorem dX11_begins_39 : decode cX11_begins 39 = .ok (.goto (-16), 3) := by decide +kernel
theorem dX11_begins_42 : decode cX11_begins 42 = .ok (.return_, 1) := by decide +kernel
theorem dX11_begin_0 : decode cX11_begin 0 = .ok (.aload_n 0, 1) := by decide +kernel
theorem dX11_begin_1 : decode cX11_begin 1 = .ok (.iconst 0, 1) := by decide +kernel
theorem dX11_begin_2 : decode cX11_begin 2 = .ok (.putfield 3, 3) := by decide +kernel
theorem dX11_begin_5 : decode cX11_begin 5 = .ok (.iload_n 1, 1) := by decide +kernel
theorem dX11_begin_6 : decode cX11_begin 6 = .ok (.invokestatic 81, 3) := by decide +kernel
theorem dX11_begin_9 : decode cX11_begin 9 = .ok (.ifCond .ne 5, 3) := by decide +kernel
theorem dX11_begin_12 : decode cX11_begin 12 = .ok (.iconst 0, 1) := by decide +kernel
theorem dX11_begin_13 : decode cX11_begin 13 = .ok (.ireturn, 1) := by decide +kernel
theorem dX11_begin_14 : decode cX11_begin 14 = .ok (.aload_n 0, 1) := by decide +kernel
theorem dX11_begin_15 : decode cX11_begin 15 = .ok (.iload_n 1, 1) := by decide +kernel
theorem dX11_begin_16 : decode cX11_begin 16 = .ok (.invokevirtual 303, 3) := by decide +kernel
theorem dX11_begin_19 : decode cX11_begin 19 = .ok (.iconst 1, 1) := by decide +kernel
theorem dX11_begin_20 : decode cX11_begin 20 = .ok (.ireturn, 1) := by decide +kernel
theorem dX11_go_0 : decode cX11_go 0 = .ok (.aload_n 0, 1) := by decide +kernel
theorem dX11_go_1 : decode cX11_go 1 = .ok (.iconst 0, 1) := by decide +kernel
theorem dX11_go_2 : decode cX11_go 2 = .ok (.putfield 3, 3) := by decide +kernel
theorem dX11_go_5 : decode cX11_go 5 = .ok (.iload_n 1, 1) := by decide +kernel
theorem dX11_go_6 : decode cX11_go 6 = .ok (.i2l, 1) := by decide +kernel
theorem dX11_go_7 : decode cX11_go 7 = .ok (.lconst 0, 1) := by decide +kernel
theorem dX11_go_8 : decode cX11_go 8 = .ok (.ldc2_w 306, 3) := by decide +kernel
theorem dX11_go_11 : decode cX11_go 11 = .ok (.invokestatic 25, 3) := by decide +kernel
theorem dX11_go_14 : decode cX11_go 14 = .ok (.ifCond .ne 5, 3) := by decide +kernel
theorem dX11_go_17 : decode cX11_go 17 = .ok (.iconst (-1), 1) := by decide +kernel
theorem dX11_go_18 : decode cX11_go 18 = .ok (.ireturn, 1) := by decide +kernel
theorem dX11_go_19 : decode cX11_go 19 = .ok (.iconst 0, 1) := by decide +kernel
theorem dX11_go_20 : decode cX11_go 20 = .ok (.istore_n 2, 1) := by decide +kernel
theorem dX11_go_21 : decode cX11_go 21 = .ok (.iload_n 2, 1) := by decide +kernel
theorem dX11_go_22 : decode cX11_go 22 = .ok (.iload_n 1, 1) := by decide +kernel
theorem dX11_go_23 : decode cX11_go 23 = .ok (.if_icmp .ge 25, 3) := by decide +kernel
theorem dX11_go_26 : decode cX11_go 26 = .ok (.aload_n 0, 1) := by decide +kernel
theorem dX11_go_27 : decode cX11_go 27 = .ok (.getfield 140, 3) := by decide +kernel
theorem dX11_go_30 : decode cX11_go 30 = .ok (.iconst 0, 1) := by decide +kernel
theorem dX11_go_31 : decode cX11_go 31 = .ok (.iaload, 1) := by decide +kernel
theorem dX11_go_32 : decode cX11_go 32 = .ok (.sipush 2399, 3) := by decide +kernel
theorem dX11_go_35 : decode cX11_go 35 = .ok (.if_icmp .ge 13, 3) := by decide +kernel
theorem dX11_go_38 : decode cX11_go 38 = .ok (.aload_n 0, 1) := by decide +kernel
theorem dX11_go_39 : decode cX11_go 39 = .ok (.invokevirtual 308, 3) := by decide +kernel
theorem dX11_go_42 : decode cX11_go 42 = .ok (.iinc 2 1, 3) := by decide +kernel
theorem dX11_go_45 : decode cX11_go 45 = .ok (.goto (-24), 3) := by decide +kernel
theorem dX11_go_48 : decode cX11_go 48 = .ok (.aload_n 0, 1) := by decide +kernel
theorem dX11_go_49 : decode cX11_go 49 = .ok (.getfield 140, 3) := by decide +kernel
theorem dX11_go_52 : decode cX11_go 52 = .ok (.iconst 0, 1) := by decide +kernel
theorem dX11_go_53 : decode cX11_go 53 = .ok (.iaload, 1) := by decide +kernel
theorem dX11_go_54 : decode cX11_go 54 = .ok (.ireturn, 1) := by decide +kernel
theorem dX11_of_0 : decode cX11_of 0 = .ok (.aload_n 0, 1) := by decide +kernel
theorem dX11_of_1 : decode cX11_of 1 = .ok (.iconst 0, 1) := by decide +kernel
theorem dX11_of_2 : decode cX11_of 2 = .ok (.putfield 3, 3) := by decide +kernel
theorem dX11_of_5 : decode cX11_of 5 = .ok (.aload_n 0, 1) := by decide +kernel
theorem dX11_of_6 : decode cX11_of 6 = .ok (.iload_n 1, 1) := by decide +kernel
theorem dX11_of_7 : decode cX11_of 7 = .ok (.invokevirtual 256, 3) := by decide +kernel
theorem dX11_of_10 : decode cX11_of 10 = .ok (.ifCond .eq 15, 3) := by decide +kernel
theorem dX11_of_13 : decode cX11_of 13 = .ok (.iload_n 2, 1) := by decide +kernel
theorem dX11_of_14 : decode cX11_of 14 = .ok (.i2l, 1) := by decide +kernel
theorem dX11_of_15 : decode cX11_of 15 = .ok (.lconst 0, 1) := by decide +kernel
theorem dX11_of_16 : decode cX11_of 16 = .ok (.ldc2_w 311, 3) := by decide +kernel
theorem dX11_of_19 : decode cX11_of 19 = .ok (.invokestatic 25, 3) := by decide +kernel
theorem dX11_of_22 : decode cX11_of 22 = .ok (.ifCond .ne 8, 3) := by decide +kernel
theorem dX11_of_25 : decode cX11_of 25 = .ok (.aload_n 0, 1) := by decide +kernel
theorem dX11_of_26 : decode cX11_of 26 = .ok (.invokevirtual 259, 3) := by decide +kernel
theorem dX11_of_29 : decode cX11_of 29 = .ok (.ireturn, 1) := by decide +kernel
theorem dX11_of_30 : decode cX11_of 30 = .ok (.iload_n 2, 1) := by decide +kernel
theorem dX11_of_31 : decode cX11_of 31 = .ok (.tableswitch 124 0 7 #[45, 54, 64, 74, 84, 94, 104, 114], 45) := by decide +kernel
theorem dX11_of_76 : decode cX11_of 76 = .ok (.aload_n 0, 1) := by decide +kernel
theorem dX11_of_77 : decode cX11_of 77 = .ok (.getfield 140, 3) := by decide +kernel
theorem dX11_of_80 : decode cX11_of 80 = .ok (.iconst 3, 1) := by decide +kernel
theorem dX11_of_81 : decode cX11_of 81 = .ok (.iload_n 1, 1) := by decide +kernel
theorem dX11_of_82 : decode cX11_of 82 = .ok (.iadd, 1) := by decide +kernel
theorem dX11_of_83 : decode cX11_of 83 = .ok (.iaload, 1) := by decide +kernel
theorem dX11_of_84 : decode cX11_of 84 = .ok (.ireturn, 1) := by decide +kernel
theorem dX11_of_85 : decode cX11_of 85 = .ok (.aload_n 0, 1) := by decide +kernel
theorem dX11_of_86 : decode cX11_of 86 = .ok (.getfield 140, 3) := by decide +kernel
theorem dX11_of_89 : decode cX11_of 89 = .ok (.bipush 11, 2) := by decide +kernel
theorem dX11_of_91 : decode cX11_of 91 = .ok (.iload_n 1, 1) := by decide +kernel
theorem dX11_of_92 : decode cX11_of 92 = .ok (.iadd, 1) := by decide +kernel
theorem dX11_of_93 : decode cX11_of 93 = .ok (.iaload, 1) := by decide +kernel
theorem dX11_of_94 : decode cX11_of 94 = .ok (.ireturn, 1) := by decide +kernel
theorem dX11_of_95 : decode cX11_of 95 = .ok (.aload_n 0, 1) := by decide +kernel
theorem dX11_of_96 : decode cX11_of 96 = .ok (.getfield 140, 3) := by decide +kernel
theorem dX11_of_99 : decode cX11_of 99 = .ok (.bipush 19, 2) := by decide +kernel
theorem dX11_of_101 : decode cX11_of 101 = .ok (.iload_n 1, 1) := by decide +kernel
theorem dX11_of_102 : decode cX11_of 102 = .ok (.iadd, 1) := by decide +kernel
theorem dX11_of_103 : decode cX11_of 103 = .ok (.iaload, 1) := by decide +kernel
theorem dX11_of_104 : decode cX11_of 104 = .ok (.ireturn, 1) := by decide +kernel
theorem dX11_of_105 : decode cX11_of 105 = .ok (.aload_n 0, 1) := by decide +kernel
theorem dX11_of_106 : decode cX11_of 106 = .ok (.getfield 140, 3) := by decide +kernel
theorem dX11_of_109 : decode cX11_of 109 = .ok (.bipush 27, 2) := by decide +kernel
theorem dX11_of_111 : decode cX11_of 111 = .ok (.iload_n 1, 1) := by decide +kernel
theorem dX11_of_112 : decode cX11_of 112 = .ok (.iadd, 1) := by decide +kernel
theorem dX11_of_113 : decode cX11_of 113 = .ok (.iaload, 1) := by decide +kernel
theorem dX11_of_114 : decode cX11_of 114 = .ok (.ireturn, 1) := by decide +kernel
theorem dX11_of_115 : decode cX11_of 115 = .ok (.aload_n 0, 1) := by decide +kernel
theorem dX11_of_116 : decode cX11_of 116 = .ok (.getfield 140, 3) := by decide +kernel
theorem dX11_of_119 : decode cX11_of 119 = .ok (.bipush 35, 2) := by decide +kernel
theorem dX11_of_121 : decode cX11_of 121 = .ok (.iload_n 1, 1) := by decide +kernel
theorem dX11_of_122 : decode cX11_of 122 = .ok (.iadd, 1) := by decide +kernel
theorem dX11_of_123 : decode cX11_of 123 = .ok (.iaload, 1) := by decide +kernel
theorem dX11_of_124 : decode cX11_of 124 = .ok (.ireturn, 1) := by decide +kernel
theorem dX11_of_125 : decode cX11_of 125 = .ok (.aload_n 0, 1) := by decide +kernel
theorem dX11_of_126 : decode cX11_of 126 = .ok (.getfield 140, 3) := by decide +kernel
theorem dX11_of_129 : decode cX11_of 129 = .ok (.bipush 43, 2) := by decide +kernel
theorem dX11_of_131 : decode cX11_of 131 = .ok (.iload_n 1, 1) := by decide +kernel
theorem dX11_of_132 : decode cX11_of 132 = .ok (.iadd, 1) := by decide +kernel
theorem dX11_of_133 : decode cX11_of 133 = .ok (.iaload, 1) := by decide +kernel
theorem dX11_of_134 : decode cX11_of 134 = .ok (.ireturn, 1) := by decide +kernel
theorem dX11_of_135 : decode cX11_of 135 = .ok (.aload_n 0, 1) := by decide +kernel
theorem dX11_of_136 : decode cX11_of 136 = .ok (.getfield 140, 3) := by decide +kernel
theorem dX11_of_139 : decode cX11_of 139 = .ok (.bipush 51, 2) := by decide +kernel
theorem dX11_of_141 : decode cX11_of 141 = .ok (.iload_n 1, 1) := by decide +kernel
theorem dX11_of_142 : decode cX11_of 142 = .ok (.iadd, 1) := by decide +kernel
theorem dX11_of_143 : decode cX11_of 143 = .ok (.iaload, 1) := by decide +kernel
theorem dX11_of_144 : decode cX11_of 144 = .ok (.ireturn, 1) := by decide +kernel
theorem dX11_of_145 : decode cX11_of 145 = .ok (.aload_n 0, 1) := by decide +kernel
theorem dX11_of_146 : decode cX11_of 146 = .ok (.getfield 140, 3) := by decide +kernel
theorem dX11_of_149 : decode cX11_of 149 = .ok (.bipush 59, 2) := by decide +kernel
theorem dX11_of_151 : decode cX11_of 151 = .ok (.iload_n 1, 1) := by decide +kernel
theorem dX11_of_152 : decode cX11_of 152 = .ok (.iadd, 1) := by decide +kernel
theorem dX11_of_153 : decode cX11_of 153 = .ok (.iaload, 1) := by decide +kernel
theorem dX11_of_154 : decode cX11_of 154 = .ok (.ireturn, 1) := by decide +kernel
theorem dX11_of_155 : decode cX11_of 155 = .ok (.aload_n 0, 1) := by decide +kernel
theorem dX11_of_156 : decode cX11_of 156 = .ok (.iload_n 1, 1) := by decide +kernel
theorem dX11_of_157 : decode cX11_of 157 = .ok (.invokevirtual 268, 3) := by decide +kernel
theorem dX11_of_160 : decode cX11_of 160 = .ok (.invokestatic 124, 3) := by decide +kernel
theorem dX11_of_163 : decode cX11_of 163 = .ok (.ireturn, 1) := by decide +kernel
theorem dX11_hand_0 : decode cX11_hand 0 = .ok (.aload_n 0, 1) := by decide +kernel
theorem dX11_hand_1 : decode cX11_hand 1 = .ok (.iconst 0, 1) := by decide +kernel
theorem dX11_hand_2 : decode cX11_hand 2 = .ok (.putfield 3, 3) := by decide +kernel
theorem dX11_hand_5 : decode cX11_hand 5 = .ok (.aload_n 0, 1) := by decide +kernel
theorem dX11_hand_6 : decode cX11_hand 6 = .ok (.iload_n 1, 1) := by decide +kernel
theorem dX11_hand_7 : decode cX11_hand 7 = .ok (.invokevirtual 256, 3) := by decide +kernel
theorem dX11_hand_10 : decode cX11_hand 10 = .ok (.ifCond .eq 31, 3) := by decide +kernel
theorem dX11_hand_13 : decode cX11_hand 13 = .ok (.aload_n 0, 1) := by decide +kernel
theorem dX11_hand_14 : decode cX11_hand 14 = .ok (.iload_n 2, 1) := by decide +kernel
theorem dX11_hand_15 : decode cX11_hand 15 = .ok (.invokevirtual 77, 3) := by decide +kernel
theorem dX11_hand_18 : decode cX11_hand 18 = .ok (.ifCond .eq 23, 3) := by decide +kernel
theorem dX11_hand_21 : decode cX11_hand 21 = .ok (.aload_n 0, 1) := by decide +kernel
theorem dX11_hand_22 : decode cX11_hand 22 = .ok (.iload_n 1, 1) := by decide +kernel
theorem dX11_hand_23 : decode cX11_hand 23 = .ok (.invokevirtual 265, 3) := by decide +kernel
theorem dX11_hand_26 : decode cX11_hand 26 = .ok (.ifCond .ne 15, 3) := by decide +kernel
theorem dX11_hand_29 : decode cX11_hand 29 = .ok (.aload_n 0, 1) := by decide +kernel
theorem dX11_hand_30 : decode cX11_hand 30 = .ok (.getfield 140, 3) := by decide +kernel
theorem dX11_hand_33 : decode cX11_hand 33 = .ok (.iconst 3, 1) := by decide +kernel
theorem dX11_hand_34 : decode cX11_hand 34 = .ok (.iload_n 1, 1) := by decide +kernel
theorem dX11_hand_35 : decode cX11_hand 35 = .ok (.iadd, 1) := by decide +kernel
theorem dX11_hand_36 : decode cX11_hand 36 = .ok (.iaload, 1) := by decide +kernel
theorem dX11_hand_37 : decode cX11_hand 37 = .ok (.iload_n 2, 1) := by decide +kernel
theorem dX11_hand_38 : decode cX11_hand 38 = .ok (.if_icmp .ne 5, 3) := by decide +kernel
theorem dX11_hand_41 : decode cX11_hand 41 = .ok (.iconst (-1), 1) := by decide +kernel
theorem dX11_hand_42 : decode cX11_hand 42 = .ok (.ireturn, 1) := by decide +kernel
theorem dX11_hand_43 : decode cX11_hand 43 = .ok (.aload_n 0, 1) := by decide +kernel
theorem dX11_hand_44 : decode cX11_hand 44 = .ok (.iload_n 1, 1) := by decide +kernel
theorem dX11_hand_45 : decode cX11_hand 45 = .ok (.iload_n 2, 1) := by decide +kernel
theorem dX11_hand_46 : decode cX11_hand 46 = .ok (.aload_n 0, 1) := by decide +kernel
theorem dX11_hand_47 : decode cX11_hand 47 = .ok (.getfield 140, 3) := by decide +kernel
theorem dX11_hand_50 : decode cX11_hand 50 = .ok (.iconst 0, 1) := by decide +kernel
theorem dX11_hand_51 : decode cX11_hand 51 = .ok (.iaload, 1) := by decide +kernel
theorem dX11_hand_52 : decode cX11_hand 52 = .ok (.invokevirtual 294, 3) := by decide +kernel
theorem dX11_hand_55 : decode cX11_hand 55 = .ok (.ireturn, 1) := by decide +kernel
theorem dX11_isAllDone_0 : decode cX11_isAllDone 0 = .ok (.iconst 1, 1) := by decide +kernel
theorem dX11_isAllDone_1 : decode cX11_isAllDone 1 = .ok (.istore_n 1, 1) := by decide +kernel
theorem dX11_isAllDone_2 : decode cX11_isAllDone 2 = .ok (.iconst 0, 1) := by decide +kernel
theorem dX11_isAllDone_3 : decode cX11_isAllDone 3 = .ok (.istore_n 2, 1) := by decide +kernel
theorem dX11_isAllDone_4 : decode cX11_isAllDone 4 = .ok (.iload_n 2, 1) := by decide +kernel
theorem dX11_isAllDone_5 : decode cX11_isAllDone 5 = .ok (.aload_n 0, 1) := by decide +kernel
theorem dX11_isAllDone_6 : decode cX11_isAllDone 6 = .ok (.getfield 151, 3) := by decide +kernel
theorem dX11_isAllDone_9 : decode cX11_isAllDone 9 = .ok (.if_icmp .ge 27, 3) := by decide +kernel
theorem dX11_isAllDone_12 : decode cX11_isAllDone 12 = .ok (.iload_n 1, 1) := by decide +kernel
theorem dX11_isAllDone_13 : decode cX11_isAllDone 13 = .ok (.ifCond .eq 15, 3) := by decide +kernel
theorem dX11_isAllDone_16 : decode cX11_isAllDone 16 = .ok (.aload_n 0, 1) := by decide +kernel
theorem dX11_isAllDone_17 : decode cX11_isAllDone 17 = .ok (.iload_n 2, 1) := by decide +kernel
theorem dX11_isAllDone_18 : decode cX11_isAllDone 18 = .ok (.invokevirtual 265, 3) := by decide +kernel
theorem dX11_isAllDone_21 : decode cX11_isAllDone 21 = .ok (.ifCond .eq 7, 3) := by decide +kernel
theorem dX11_isAllDone_24 : decode cX11_isAllDone 24 = .ok (.iconst 1, 1) := by decide +kernel
theorem dX11_isAllDone_25 : decode cX11_isAllDone 25 = .ok (.goto 4, 3) := by decide +kernel
theorem dX11_isAllDone_28 : decode cX11_isAllDone 28 = .ok (.iconst 0, 1) := by decide +kernel
theorem dX11_isAllDone_29 : decode cX11_isAllDone 29 = .ok (.istore_n 1, 1) := by decide +kernel
theorem dX11_isAllDone_30 : decode cX11_isAllDone 30 = .ok (.iinc 2 1, 3) := by decide +kernel
theorem dX11_isAllDone_33 : decode cX11_isAllDone 33 = .ok (.goto (-29), 3) := by decide +kernel
theorem dX11_isAllDone_36 : decode cX11_isAllDone 36 = .ok (.iload_n 1, 1) := by decide +kernel
theorem dX11_isAllDone_37 : decode cX11_isAllDone 37 = .ok (.ireturn, 1) := by decide +kernel
theorem dX11_goesOn_0 : decode cX11_goesOn 0 = .ok (.aload_n 0, 1) := by decide +kernel
theorem dX11_goesOn_1 : decode cX11_goesOn 1 = .ok (.getfield 140, 3) := by decide +kernel
theorem dX11_goesOn_4 : decode cX11_goesOn 4 = .ok (.iconst 0, 1) := by decide +kernel
theorem dX11_goesOn_5 : decode cX11_goesOn 5 = .ok (.iaload, 1) := by decide +kernel
theorem dX11_goesOn_6 : decode cX11_goesOn 6 = .ok (.istore_n 1, 1) := by decide +kernel
theorem dX11_goesOn_7 : decode cX11_goesOn 7 = .ok (.aload_n 0, 1) := by decide +kernel
theorem dX11_goesOn_8 : decode cX11_goesOn 8 = .ok (.invokevirtual 313, 3) := by decide +kernel
theorem dX11_goesOn_11 : decode cX11_goesOn 11 = .ok (.ifCond .eq 5, 3) := by decide +kernel
theorem dX11_goesOn_14 : decode cX11_goesOn 14 = .ok (.iload_n 1, 1) := by decide +kernel
theorem dX11_goesOn_15 : decode cX11_goesOn 15 = .ok (.ireturn, 1) := by decide +kernel
theorem dX11_goesOn_16 : decode cX11_goesOn 16 = .ok (.aload_n 0, 1) := by decide +kernel
theorem dX11_goesOn_17 : decode cX11_goesOn 17 = .ok (.invokevirtual 313, 3) := by decide +kernel
theorem dX11_goesOn_20 : decode cX11_goesOn 20 = .ok (.ifCond .ne 24, 3) := by decide +kernel
theorem dX11_goesOn_23 : decode cX11_goesOn 23 = .ok (.aload_n 0, 1) := by decide +kernel
theorem dX11_goesOn_24 : decode cX11_goesOn 24 = .ok (.getfield 140, 3) := by decide +kernel
theorem dX11_goesOn_27 : decode cX11_goesOn 27 = .ok (.iconst 0, 1) := by decide +kernel
theorem dX11_goesOn_28 : decode cX11_goesOn 28 = .ok (.iaload, 1) := by decide +kernel
theorem dX11_goesOn_29 : decode cX11_goesOn 29 = .ok (.sipush 2399, 3) := by decide +kernel
theorem dX11_goesOn_32 : decode cX11_goesOn 32 = .ok (.if_icmp .lt 5, 3) := by decide +kernel
theorem dX11_goesOn_35 : decode cX11_goesOn 35 = .ok (.iconst (-1), 1) := by decide +kernel
theorem dX11_goesOn_36 : decode cX11_goesOn 36 = .ok (.ireturn, 1) := by decide +kernel
theorem dX11_goesOn_37 : decode cX11_goesOn 37 = .ok (.aload_n 0, 1) := by decide +kernel
theorem dX11_goesOn_38 : decode cX11_goesOn 38 = .ok (.invokevirtual 308, 3) := by decide +kernel
theorem dX11_goesOn_41 : decode cX11_goesOn 41 = .ok (.goto (-25), 3) := by decide +kernel
theorem dX11_goesOn_44 : decode cX11_goesOn 44 = .ok (.aload_n 0, 1) := by decide +kernel
theorem dX11_goesOn_45 : decode cX11_goesOn 45 = .ok (.getfield 140, 3) := by decide +kernel
theorem dX11_goesOn_48 : decode cX11_goesOn 48 = .ok (.iconst 0, 1) := by decide +kernel
theorem dX11_goesOn_49 : decode cX11_goesOn 49 = .ok (.iaload, 1) := by decide +kernel
theorem dX11_goesOn_50 : decode cX11_goesOn 50 = .ok (.ireturn, 1) := by decide +kernel
theorem dX11_sumOf_0 : decode cX11_sumOf 0 = .ok (.iconst 0, 1) := by decide +kernel
theorem dX11_sumOf_1 : decode cX11_sumOf 1 = .ok (.istore_n 2, 1) := by decide +kernel
theorem dX11_sumOf_2 : decode cX11_sumOf 2 = .ok (.iconst 0, 1) := by decide +kernel
theorem dX11_sumOf_3 : decode cX11_sumOf 3 = .ok (.istore_n 3, 1) := by decide +kernel
theorem dX11_sumOf_4 : decode cX11_sumOf 4 = .ok (.iload_n 3, 1) := by decide +kernel
theorem dX11_sumOf_5 : decode cX11_sumOf 5 = .ok (.aload_n 0, 1) := by decide +kernel
theorem dX11_sumOf_6 : decode cX11_sumOf 6 = .ok (.getfield 151, 3) := by decide +kernel
theorem dX11_sumOf_9 : decode cX11_sumOf 9 = .ok (.if_icmp .ge 20, 3) := by decide +kernel
theorem dX11_sumOf_12 : decode cX11_sumOf 12 = .ok (.iload_n 2, 1) := by decide +kernel
theorem dX11_sumOf_13 : decode cX11_sumOf 13 = .ok (.aload_n 0, 1) := by decide +kernel
theorem dX11_sumOf_14 : decode cX11_sumOf 14 = .ok (.getfield 140, 3) := by decide +kernel
theorem dX11_sumOf_17 : decode cX11_sumOf 17 = .ok (.iload_n 1, 1) := by decide +kernel
theorem dX11_sumOf_18 : decode cX11_sumOf 18 = .ok (.iload_n 3, 1) := by decide +kernel
theorem dX11_sumOf_19 : decode cX11_sumOf 19 = .ok (.iadd, 1) := by decide +kernel
theorem dX11_sumOf_20 : decode cX11_sumOf 20 = .ok (.iaload, 1) := by decide +kernel
theorem dX11_sumOf_21 : decode cX11_sumOf 21 = .ok (.iadd, 1) := by decide +kernel
theorem dX11_sumOf_22 : decode cX11_sumOf 22 = .ok (.istore_n 2, 1) := by decide +kernel
theorem dX11_sumOf_23 : decode cX11_sumOf 23 = .ok (.iinc 3 1, 3) := by decide +kernel
theorem dX11_sumOf_26 : decode cX11_sumOf 26 = .ok (.goto (-22), 3) := by decide +kernel
theorem dX11_sumOf_29 : decode cX11_sumOf 29 = .ok (.iload_n 2, 1) := by decide +kernel
theorem dX11_sumOf_30 : decode cX11_sumOf 30 = .ok (.ireturn, 1) := by decide +kernel
theorem dX11_tellsEnd_0 : decode cX11_tellsEnd 0 = .ok (.aload_n 0, 1) := by decide +kernel
theorem dX11_tellsEnd_1 : decode cX11_tellsEnd 1 = .ok (.bipush 51, 2) := by decide +kernel
theorem dX11_tellsEnd_3 : decode cX11_tellsEnd 3 = .ok (.invokevirtual 316, 3) := by decide +kernel
theorem dX11_tellsEnd_6 : decode cX11_tellsEnd 6 = .ok (.istore_n 1, 1) := by decide +kernel
theorem dX11_tellsEnd_7 : decode cX11_tellsEnd 7 = .ok (.aload_n 0, 1) := by decide +kernel
theorem dX11_tellsEnd_8 : decode cX11_tellsEnd 8 = .ok (.bipush 59, 2) := by decide +kernel
theorem dX11_tellsEnd_10 : decode cX11_tellsEnd 10 = .ok (.invokevirtual 316, 3) := by decide +kernel
theorem dX11_tellsEnd_13 : decode cX11_tellsEnd 13 = .ok (.istore_n 2, 1) := by decide +kernel
theorem dX11_tellsEnd_14 : decode cX11_tellsEnd 14 = .ok (.aload_n 0, 1) := by decide +kernel
theorem dX11_tellsEnd_15 : decode cX11_tellsEnd 15 = .ok (.getfield 140, 3) := by decide +kernel
theorem dX11_tellsEnd_18 : decode cX11_tellsEnd 18 = .ok (.iconst 1, 1) := by decide +kernel
theorem dX11_tellsEnd_19 : decode cX11_tellsEnd 19 = .ok (.iaload, 1) := by decide +kernel
theorem dX11_tellsEnd_20 : decode cX11_tellsEnd 20 = .ok (.istore_n 3, 1) := by decide +kernel
theorem dX11_tellsEnd_21 : decode cX11_tellsEnd 21 = .ok (.aload_n 0, 1) := by decide +kernel
theorem dX11_tellsEnd_22 : decode cX11_tellsEnd 22 = .ok (.invokevirtual 319, 3) := by decide +kernel
theorem dX11_tellsEnd_25 : decode cX11_tellsEnd 25 = .ok (.istore 4, 2) := by decide +kernel
theorem dX11_tellsEnd_27 : decode cX11_tellsEnd 27 = .ok (.iload 4, 2) := by decide +kernel
theorem dX11_tellsEnd_29 : decode cX11_tellsEnd 29 = .ok (.ifCond .ge 6, 3) := by decide +kernel
theorem dX11_tellsEnd_32 : decode cX11_tellsEnd 32 = .ok (.bipush (-2), 2) := by decide +kernel
theorem dX11_tellsEnd_34 : decode cX11_tellsEnd 34 = .ok (.ireturn, 1) := by decide +kernel
theorem dX11_tellsEnd_35 : decode cX11_tellsEnd 35 = .ok (.aload_n 0, 1) := by decide +kernel
theorem dX11_tellsEnd_36 : decode cX11_tellsEnd 36 = .ok (.iconst 0, 1) := by decide +kernel
theorem dX11_tellsEnd_37 : decode cX11_tellsEnd 37 = .ok (.putfield 11, 3) := by decide +kernel
theorem dX11_tellsEnd_40 : decode cX11_tellsEnd 40 = .ok (.iconst 0, 1) := by decide +kernel
theorem dX11_tellsEnd_41 : decode cX11_tellsEnd 41 = .ok (.istore 5, 2) := by decide +kernel
theorem dX11_tellsEnd_43 : decode cX11_tellsEnd 43 = .ok (.iload 5, 2) := by decide +kernel
theorem dX11_tellsEnd_45 : decode cX11_tellsEnd 45 = .ok (.aload_n 0, 1) := by decide +kernel
theorem dX11_tellsEnd_46 : decode cX11_tellsEnd 46 = .ok (.getfield 151, 3) := by decide +kernel
theorem dX11_tellsEnd_49 : decode cX11_tellsEnd 49 = .ok (.if_icmp .ge 24, 3) := by decide +kernel
theorem dX11_tellsEnd_52 : decode cX11_tellsEnd 52 = .ok (.aload_n 0, 1) := by decide +kernel
theorem dX11_tellsEnd_53 : decode cX11_tellsEnd 53 = .ok (.aload_n 0, 1) := by decide +kernel
theorem dX11_tellsEnd_54 : decode cX11_tellsEnd 54 = .ok (.getfield 140, 3) := by decide +kernel
theorem dX11_tellsEnd_57 : decode cX11_tellsEnd 57 = .ok (.bipush 35, 2) := by decide +kernel
theorem dX11_tellsEnd_59 : decode cX11_tellsEnd 59 = .ok (.iload 5, 2) := by decide +kernel
theorem dX11_tellsEnd_61 : decode cX11_tellsEnd 61 = .ok (.iadd, 1) := by decide +kernel
theorem dX11_tellsEnd_62 : decode cX11_tellsEnd 62 = .ok (.iaload, 1) := by decide +kernel
theorem dX11_tellsEnd_63 : decode cX11_tellsEnd 63 = .ok (.i2l, 1) := by decide +kernel
theorem dX11_tellsEnd_64 : decode cX11_tellsEnd 64 = .ok (.invokevirtual 18, 3) := by decide +kernel
theorem dX11_tellsEnd_67 : decode cX11_tellsEnd 67 = .ok (.iinc 5 1, 3) := by decide +kernel
theorem dX11_tellsEnd_70 : decode cX11_tellsEnd 70 = .ok (.goto (-27), 3) := by decide +kernel
theorem dX11_tellsEnd_73 : decode cX11_tellsEnd 73 = .ok (.aload_n 0, 1) := by decide +kernel
theorem dX11_tellsEnd_74 : decode cX11_tellsEnd 74 = .ok (.aload_n 0, 1) := by decide +kernel
theorem dX11_tellsEnd_75 : decode cX11_tellsEnd 75 = .ok (.bipush 51, 2) := by decide +kernel
theorem dX11_tellsEnd_77 : decode cX11_tellsEnd 77 = .ok (.invokevirtual 316, 3) := by decide +kernel
theorem dX11_tellsEnd_80 : decode cX11_tellsEnd 80 = .ok (.iload_n 1, 1) := by decide +kernel
theorem dX11_tellsEnd_81 : decode cX11_tellsEnd 81 = .ok (.isub, 1) := by decide +kernel
theorem dX11_tellsEnd_82 : decode cX11_tellsEnd 82 = .ok (.i2l, 1) := by decide +kernel
theorem dX11_tellsEnd_83 : decode cX11_tellsEnd 83 = .ok (.invokevirtual 18, 3) := by decide +kernel
theorem dX11_tellsEnd_86 : decode cX11_tellsEnd 86 = .ok (.aload_n 0, 1) := by decide +kernel
theorem dX11_tellsEnd_87 : decode cX11_tellsEnd 87 = .ok (.aload_n 0, 1) := by decide +kernel
theorem dX11_tellsEnd_88 : decode cX11_tellsEnd 88 = .ok (.bipush 59, 2) := by decide +kernel
theorem dX11_tellsEnd_90 : decode cX11_tellsEnd 90 = .ok (.invokevirtual 316, 3) := by decide +kernel
theorem dX11_tellsEnd_93 : decode cX11_tellsEnd 93 = .ok (.iload_n 2, 1) := by decide +kernel
theorem dX11_tellsEnd_94 : decode cX11_tellsEnd 94 = .ok (.isub, 1) := by decide +kernel
theorem dX11_tellsEnd_95 : decode cX11_tellsEnd 95 = .ok (.i2l, 1) := by decide +kernel
theorem dX11_tellsEnd_96 : decode cX11_tellsEnd 96 = .ok (.invokevirtual 18, 3) := by decide +kernel
theorem dX11_tellsEnd_99 : decode cX11_tellsEnd 99 = .ok (.aload_n 0, 1) := by decide +kernel
theorem dX11_tellsEnd_100 : decode cX11_tellsEnd 100 = .ok (.aload_n 0, 1) := by decide +kernel
theorem dX11_tellsEnd_101 : decode cX11_tellsEnd 101 = .ok (.getfield 140, 3) := by decide +kernel
theorem dX11_tellsEnd_104 : decode cX11_tellsEnd 104 = .ok (.iconst 1, 1) := by decide +kernel
theorem dX11_tellsEnd_105 : decode cX11_tellsEnd 105 = .ok (.iaload, 1) := by decide +kernel
theorem dX11_tellsEnd_106 : decode cX11_tellsEnd 106 = .ok (.iload_n 3, 1) := by decide +kernel
theorem dX11_tellsEnd_107 : decode cX11_tellsEnd 107 = .ok (.isub, 1) := by decide +kernel
theorem dX11_tellsEnd_108 : decode cX11_tellsEnd 108 = .ok (.i2l, 1) := by decide +kernel
theorem dX11_tellsEnd_109 : decode cX11_tellsEnd 109 = .ok (.invokevirtual 18, 3) := by decide +kernel
theorem dX11_tellsEnd_112 : decode cX11_tellsEnd 112 = .ok (.iload 4, 2) := by decide +kernel
theorem dX11_tellsEnd_114 : decode cX11_tellsEnd 114 = .ok (.ireturn, 1) := by decide +kernel
theorem dX11_ends_0 : decode cX11_ends 0 = .ok (.aload_n 0, 1) := by decide +kernel
theorem dX11_ends_1 : decode cX11_ends 1 = .ok (.iconst 0, 1) := by decide +kernel
theorem dX11_ends_2 : decode cX11_ends 2 = .ok (.putfield 3, 3) := by decide +kernel
theorem dX11_ends_5 : decode cX11_ends 5 = .ok (.aload_n 0, 1) := by decide +kernel
theorem dX11_ends_6 : decode cX11_ends 6 = .ok (.getfield 151, 3) := by decide +kernel
theorem dX11_ends_9 : decode cX11_ends 9 = .ok (.ifCond .ne 5, 3) := by decide +kernel
theorem dX11_ends_12 : decode cX11_ends 12 = .ok (.iconst (-1), 1) := by decide +kernel
theorem dX11_ends_13 : decode cX11_ends 13 = .ok (.ireturn, 1) := by decide +kernel
theorem dX11_ends_14 : decode cX11_ends 14 = .ok (.aload_n 0, 1) := by decide +kernel
theorem dX11_ends_15 : decode cX11_ends 15 = .ok (.aload_n 0, 1) := by decide +kernel
theorem dX11_ends_16 : decode cX11_ends 16 = .ok (.getfield 322, 3) := by decide +kernel
theorem dX11_ends_19 : decode cX11_ends 19 = .ok (.invokevirtual 325, 3) := by decide +kernel
theorem dX11_ends_22 : decode cX11_ends 22 = .ok (.aload_n 0, 1) := by decide +kernel
theorem dX11_ends_23 : decode cX11_ends 23 = .ok (.invokevirtual 329, 3) := by decide +kernel
theorem dX11_ends_26 : decode cX11_ends 26 = .ok (.istore_n 1, 1) := by decide +kernel
theorem dX11_ends_27 : decode cX11_ends 27 = .ok (.aload_n 0, 1) := by decide +kernel
theorem dX11_ends_28 : decode cX11_ends 28 = .ok (.aload_n 0, 1) := by decide +kernel
theorem dX11_ends_29 : decode cX11_ends 29 = .ok (.getfield 322, 3) := by decide +kernel
theorem dX11_ends_32 : decode cX11_ends 32 = .ok (.invokevirtual 332, 3) := by decide +kernel
theorem dX11_ends_35 : decode cX11_ends 35 = .ok (.iload_n 1, 1) := by decide +kernel
theorem dX11_ends_36 : decode cX11_ends 36 = .ok (.ireturn, 1) := by decide +kernel
theorem dX11_judge_0 : decode cX11_judge 0 = .ok (.aload_n 0, 1) := by decide +kernel
theorem dX11_judge_1 : decode cX11_judge 1 = .ok (.iconst 0, 1) := by decide +kernel
theorem dX11_judge_2 : decode cX11_judge 2 = .ok (.putfield 3, 3) := by decide +kernel
theorem dX11_judge_5 : decode cX11_judge 5 = .ok (.aload_n 0, 1) := by decide +kernel
theorem dX11_judge_6 : decode cX11_judge 6 = .ok (.getfield 151, 3) := by decide +kernel
theorem dX11_judge_9 : decode cX11_judge 9 = .ok (.ifCond .ne 5, 3) := by decide +kernel
theorem dX11_judge_12 : decode cX11_judge 12 = .ok (.iconst (-1), 1) := by decide +kernel
theorem dX11_judge_13 : decode cX11_judge 13 = .ok (.ireturn, 1) := by decide +kernel
theorem dX11_judge_14 : decode cX11_judge 14 = .ok (.aload_n 0, 1) := by decide +kernel
theorem dX11_judge_15 : decode cX11_judge 15 = .ok (.aload_n 0, 1) := by decide +kernel
theorem dX11_judge_16 : decode cX11_judge 16 = .ok (.getfield 322, 3) := by decide +kernel
theorem dX11_judge_19 : decode cX11_judge 19 = .ok (.invokevirtual 325, 3) := by decide +kernel
theorem dX11_judge_22 : decode cX11_judge 22 = .ok (.bipush (-2), 2) := by decide +kernel
theorem dX11_judge_24 : decode cX11_judge 24 = .ok (.istore_n 1, 1) := by decide +kernel
theorem dX11_judge_25 : decode cX11_judge 25 = .ok (.iload_n 1, 1) := by decide +kernel
theorem dX11_judge_26 : decode cX11_judge 26 = .ok (.ifCond .ge 194, 3) := by decide +kernel
theorem dX11_judge_29 : decode cX11_judge 29 = .ok (.aload_n 0, 1) := by decide +kernel
theorem dX11_judge_30 : decode cX11_judge 30 = .ok (.invokevirtual 313, 3) := by decide +kernel
theorem dX11_judge_33 : decode cX11_judge 33 = .ok (.ifCond .ne 187, 3) := by decide +kernel
theorem dX11_judge_36 : decode cX11_judge 36 = .ok (.aload_n 0, 1) := by decide +kernel
theorem dX11_judge_37 : decode cX11_judge 37 = .ok (.getfield 140, 3) := by decide +kernel
theorem dX11_judge_40 : decode cX11_judge 40 = .ok (.iconst 0, 1) := by decide +kernel
theorem dX11_judge_41 : decode cX11_judge 41 = .ok (.iaload, 1) := by decide +kernel
theorem dX11_judge_42 : decode cX11_judge 42 = .ok (.sipush 2399, 3) := by decide +kernel
theorem dX11_judge_45 : decode cX11_judge 45 = .ok (.if_icmp .ge 175, 3) := by decide +kernel
theorem dX11_judge_48 : decode cX11_judge 48 = .ok (.aload_n 0, 1) := by decide +kernel
theorem dX11_judge_49 : decode cX11_judge 49 = .ok (.getfield 140, 3) := by decide +kernel
theorem dX11_judge_52 : decode cX11_judge 52 = .ok (.iconst 0, 1) := by decide +kernel
theorem dX11_judge_53 : decode cX11_judge 53 = .ok (.iaload, 1) := by decide +kernel
theorem dX11_judge_54 : decode cX11_judge 54 = .ok (.istore_n 2, 1) := by decide +kernel
theorem dX11_judge_55 : decode cX11_judge 55 = .ok (.aload_n 0, 1) := by decide +kernel
theorem dX11_judge_56 : decode cX11_judge 56 = .ok (.invokevirtual 296, 3) := by decide +kernel
theorem dX11_judge_59 : decode cX11_judge 59 = .ok (.iconst 0, 1) := by decide +kernel
theorem dX11_judge_60 : decode cX11_judge 60 = .ok (.istore_n 3, 1) := by decide +kernel
theorem dX11_judge_61 : decode cX11_judge 61 = .ok (.iload_n 3, 1) := by decide +kernel
theorem dX11_judge_62 : decode cX11_judge 62 = .ok (.aload_n 0, 1) := by decide +kernel
theorem dX11_judge_63 : decode cX11_judge 63 = .ok (.getfield 151, 3) := by decide +kernel
theorem dX11_judge_66 : decode cX11_judge 66 = .ok (.if_icmp .ge 137, 3) := by decide +kernel
theorem dX11_judge_69 : decode cX11_judge 69 = .ok (.iload_n 1, 1) := by decide +kernel
theorem dX11_judge_70 : decode cX11_judge 70 = .ok (.ifCond .ge 133, 3) := by decide +kernel
theorem dX11_judge_73 : decode cX11_judge 73 = .ok (.aload_n 0, 1) := by decide +kernel
theorem dX11_judge_74 : decode cX11_judge 74 = .ok (.getfield 278, 3) := by decide +kernel
theorem dX11_judge_77 : decode cX11_judge 77 = .ok (.iload_n 3, 1) := by decide +kernel
theorem dX11_judge_78 : decode cX11_judge 78 = .ok (.invokestatic 137, 3) := by decide +kernel
theorem dX11_judge_81 : decode cX11_judge 81 = .ok (.ifCond .eq 116, 3) := by decide +kernel
theorem dX11_judge_84 : decode cX11_judge 84 = .ok (.aload_n 0, 1) := by decide +kernel
theorem dX11_judge_85 : decode cX11_judge 85 = .ok (.getfield 281, 3) := by decide +kernel
theorem dX11_judge_88 : decode cX11_judge 88 = .ok (.iload_n 3, 1) := by decide +kernel
theorem dX11_judge_89 : decode cX11_judge 89 = .ok (.invokestatic 137, 3) := by decide +kernel
theorem dX11_judge_92 : decode cX11_judge 92 = .ok (.ifCond .ne 105, 3) := by decide +kernel
theorem dX11_judge_95 : decode cX11_judge 95 = .ok (.aload_n 0, 1) := by decide +kernel
theorem dX11_judge_96 : decode cX11_judge 96 = .ok (.getfield 284, 3) := by decide +kernel
theorem dX11_judge_99 : decode cX11_judge 99 = .ok (.iload_n 3, 1) := by decide +kernel
theorem dX11_judge_100 : decode cX11_judge 100 = .ok (.invokestatic 137, 3) := by decide +kernel
theorem dX11_judge_103 : decode cX11_judge 103 = .ok (.ifCond .eq 6, 3) := by decide +kernel
theorem dX11_judge_106 : decode cX11_judge 106 = .ok (.goto 91, 3) := by decide +kernel
theorem dX11_judge_109 : decode cX11_judge 109 = .ok (.iconst 0, 1) := by decide +kernel
theorem dX11_judge_110 : decode cX11_judge 110 = .ok (.istore 4, 2) := by decide +kernel
theorem dX11_judge_112 : decode cX11_judge 112 = .ok (.iload 4, 2) := by decide +kernel
theorem dX11_judge_114 : decode cX11_judge 114 = .ok (.aload_n 0, 1) := by decide +kernel
theorem dX11_judge_115 : decode cX11_judge 115 = .ok (.getfield 22, 3) := by decide +kernel
theorem dX11_judge_118 : decode cX11_judge 118 = .ok (.if_icmp .ge 79, 3) := by decide +kernel
theorem dX11_judge_121 : decode cX11_judge 121 = .ok (.iload_n 1, 1) := by decide +kernel
theorem dX11_judge_122 : decode cX11_judge 122 = .ok (.ifCond .ge 75, 3) := by decide +kernel
theorem dX11_judge_125 : decode cX11_judge 125 = .ok (.aload_n 0, 1) := by decide +kernel
theorem dX11_judge_126 : decode cX11_judge 126 = .ok (.iload 4, 2) := by decide +kernel
theorem dX11_judge_128 : decode cX11_judge 128 = .ok (.iload_n 2, 1) := by decide +kernel
theorem dX11_judge_129 : decode cX11_judge 129 = .ok (.invokevirtual 120, 3) := by decide +kernel
theorem dX11_judge_132 : decode cX11_judge 132 = .ok (.ifCond .eq 59, 3) := by decide +kernel
theorem dX11_judge_135 : decode cX11_judge 135 = .ok (.aload_n 0, 1) := by decide +kernel
theorem dX11_judge_136 : decode cX11_judge 136 = .ok (.getfield 47, 3) := by decide +kernel
theorem dX11_judge_139 : decode cX11_judge 139 = .ok (.iload 4, 2) := by decide +kernel
theorem dX11_judge_141 : decode cX11_judge 141 = .ok (.iaload, 1) := by decide +kernel
theorem dX11_judge_142 : decode cX11_judge 142 = .ok (.aload_n 0, 1) := by decide +kernel
theorem dX11_judge_143 : decode cX11_judge 143 = .ok (.getfield 154, 3) := by decide +kernel
theorem dX11_judge_146 : decode cX11_judge 146 = .ok (.iload_n 3, 1) := by decide +kernel
theorem dX11_judge_147 : decode cX11_judge 147 = .ok (.iaload, 1) := by decide +kernel
theorem dX11_judge_148 : decode cX11_judge 148 = .ok (.invokestatic 137, 3) := by decide +kernel
theorem dX11_judge_151 : decode cX11_judge 151 = .ok (.ifCond .eq 40, 3) := by decide +kernel
theorem dX11_judge_154 : decode cX11_judge 154 = .ok (.aload_n 0, 1) := by decide +kernel
theorem dX11_judge_155 : decode cX11_judge 155 = .ok (.getfield 287, 3) := by decide +kernel
theorem dX11_judge_158 : decode cX11_judge 158 = .ok (.iload 4, 2) := by decide +kernel
theorem dX11_judge_160 : decode cX11_judge 160 = .ok (.iaload, 1) := by decide +kernel
theorem dX11_judge_161 : decode cX11_judge 161 = .ok (.aload_n 0, 1) := by decide +kernel
theorem dX11_judge_162 : decode cX11_judge 162 = .ok (.getfield 44, 3) := by decide +kernel
theorem dX11_judge_165 : decode cX11_judge 165 = .ok (.iload 4, 2) := by decide +kernel
theorem dX11_judge_167 : decode cX11_judge 167 = .ok (.iaload, 1) := by decide +kernel
theorem dX11_judge_168 : decode cX11_judge 168 = .ok (.if_icmp .ge 23, 3) := by decide +kernel
theorem dX11_judge_171 : decode cX11_judge 171 = .ok (.iload_n 2, 1) := by decide +kernel
theorem dX11_judge_172 : decode cX11_judge 172 = .ok (.istore_n 1, 1) := by decide +kernel
theorem dX11_judge_173 : decode cX11_judge 173 = .ok (.aload_n 0, 1) := by decide +kernel
theorem dX11_judge_174 : decode cX11_judge 174 = .ok (.iconst 0, 1) := by decide +kernel
theorem dX11_judge_175 : decode cX11_judge 175 = .ok (.putfield 11, 3) := by decide +kernel
theorem dX11_judge_178 : decode cX11_judge 178 = .ok (.aload_n 0, 1) := by decide +kernel
theorem dX11_judge_179 : decode cX11_judge 179 = .ok (.iload_n 3, 1) := by decide +kernel
theorem dX11_judge_180 : decode cX11_judge 180 = .ok (.i2l, 1) := by decide +kernel
theorem dX11_judge_181 : decode cX11_judge 181 = .ok (.invokevirtual 18, 3) := by decide +kernel
theorem dX11_judge_184 : decode cX11_judge 184 = .ok (.aload_n 0, 1) := by decide +kernel
theorem dX11_judge_185 : decode cX11_judge 185 = .ok (.iload 4, 2) := by decide +kernel
theorem dX11_judge_187 : decode cX11_judge 187 = .ok (.i2l, 1) := by decide +kernel
theorem dX11_judge_188 : decode cX11_judge 188 = .ok (.invokevirtual 18, 3) := by decide +kernel
theorem dX11_judge_191 : decode cX11_judge 191 = .ok (.iinc 4 1, 3) := by decide +kernel
theorem dX11_judge_194 : decode cX11_judge 194 = .ok (.goto (-82), 3) := by decide +kernel
theorem dX11_judge_197 : decode cX11_judge 197 = .ok (.iinc 3 1, 3) := by decide +kernel
theorem dX11_judge_200 : decode cX11_judge 200 = .ok (.goto (-139), 3) := by decide +kernel
theorem dX11_judge_203 : decode cX11_judge 203 = .ok (.aload_n 0, 1) := by decide +kernel
theorem dX11_judge_204 : decode cX11_judge 204 = .ok (.invokevirtual 300, 3) := by decide +kernel
theorem dX11_judge_207 : decode cX11_judge 207 = .ok (.aload_n 0, 1) := by decide +kernel
theorem dX11_judge_208 : decode cX11_judge 208 = .ok (.getfield 140, 3) := by decide +kernel
theorem dX11_judge_211 : decode cX11_judge 211 = .ok (.iconst 0, 1) := by decide +kernel
theorem dX11_judge_212 : decode cX11_judge 212 = .ok (.dup2, 1) := by decide +kernel
theorem dX11_judge_213 : decode cX11_judge 213 = .ok (.iaload, 1) := by decide +kernel
theorem dX11_judge_214 : decode cX11_judge 214 = .ok (.iconst 1, 1) := by decide +kernel
theorem dX11_judge_215 : decode cX11_judge 215 = .ok (.iadd, 1) := by decide +kernel
theorem dX11_judge_216 : decode cX11_judge 216 = .ok (.iastore, 1) := by decide +kernel
theorem dX11_judge_217 : decode cX11_judge 217 = .ok (.goto (-192), 3) := by decide +kernel
theorem dX11_judge_220 : decode cX11_judge 220 = .ok (.aload_n 0, 1) := by decide +kernel
theorem dX11_judge_221 : decode cX11_judge 221 = .ok (.aload_n 0, 1) := by decide +kernel
theorem dX11_judge_222 : decode cX11_judge 222 = .ok (.getfield 322, 3) := by decide +kernel
theorem dX11_judge_225 : decode cX11_judge 225 = .ok (.invokevirtual 332, 3) := by decide +kernel
theorem dX11_judge_228 : decode cX11_judge 228 = .ok (.iload_n 1, 1) := by decide +kernel
theorem dX11_judge_229 : decode cX11_judge 229 = .ok (.ireturn, 1) := by decide +kernel
noncomputable def f_X11_hands_119 (fu : Nat) (x1 : Int32) (x2 : Int32) (x5 : Int32) (m : hM) : Option (Int32 × hM) :=
  if hIn (3 + x1) 127 then (
hLet (sI m 114 (Int32.toNatClampNeg (3 + x1)) x2) fun m16 =>
some (x5, m16)) else none
set_option maxRecDepth 100000 in
set_option maxHeartbeats 4000000 in
theorem r_X11_hands_119 {G : hG} {X : hX} (C : Cx G X 6 cX11_hands 6 RX11 (some .int)) (K : Cr G X) (fu : Nat) (x1 : Int32) (x2 : Int32) (x5 : Int32) (m : hM) : Rf vI G X 119 [(0, hA G 96), (1, .int x1), (2, .int x2), (5, .int x5)] [] m (f_X11_hands_119 fu x1 x2 x5 m) := by
  unfold f_X11_hands_119
  refine rf_aload_n C (n := 120) (q := 0) dX11_hands_119 rfl rfl rfl ?_
  refine rf_getS C (n := 123) fl_RX11_140 ly_96 rfl dX11_hands_120 rfl ?_
  refine rf_iconst C (n := 124) (v := 3) dX11_hands_123 rfl (by decide) ?_
  refine rf_iload_n C (n := 125) (q := 1) dX11_hands_124 rfl rfl rfl ?_
  refine rf_iadd C (n := 126) dX11_hands_125 rfl ?_
  refine rf_iload_n C (n := 127) (q := 2) dX11_hands_126 rfl rfl rfl ?_
  refine rf_guard (fun h15 => ?_)
  refine rf_iast C (n := 128) ly_114 h15 rfl dX11_hands_127 rfl ?_
  refine rf_letM (fun m16 => ?_)
  refine rf_iload C (n := 130) (q := 3) dX11_hands_128 rfl rfl ?_
  exact rf_iret C K dX11_hands_130
noncomputable def f_X11_hands (fu : Nat) (x1 : Int32) (x2 : Int32) (x3 : Int32) (m : hM) : Option (Int32 × hM) :=
  if hIn (3 + x1) 127 then (
hLet (gI m 114 (Int32.toNatClampNeg (3 + x1))) fun y2 =>
hBd (f_X11_lostOf fu y2 x2 x3 m) fun y3 m4 =>
if hIn (11 + x1) 127 then (
if hIn (11 + x1) 127 then (
hLet (sI m4 114 (Int32.toNatClampNeg (11 + x1)) ((gI m4 114 (Int32.toNatClampNeg (11 + x1))) + y3)) fun m7 =>
if hIn (59 + x1) 127 then (
if hIn (59 + x1) 127 then (
hLet (sI m7 114 (Int32.toNatClampNeg (59 + x1)) ((gI m7 114 (Int32.toNatClampNeg (59 + x1))) + y3)) fun m10 =>
if hIn (51 + x1) 127 then (
if hIn (51 + x1) 127 then (
hLet (sI m10 114 (Int32.toNatClampNeg (51 + x1)) ((gI m10 114 (Int32.toNatClampNeg (51 + x1))) + 1)) fun m13 =>
if 60 ≤ (gI m13 114 2) then (
f_X11_hands_119 fu x1 x2 y3 m13) else (
if hIn ((6 * y2) + x2) 36 then (
if hIn (67 + (gI m13 114 2)) 127 then (
hLet (sI m13 114 (Int32.toNatClampNeg (67 + (gI m13 114 2))) (((gI m13 96 15) * (10 - (gI m13 107 (Int32.toNatClampNeg ((6 * y2) + x2))))) / 10)) fun m19 =>
hLet (sI m19 114 2 ((gI m19 114 2) + 1)) fun m20 =>
f_X11_hands_119 fu x1 x2 y3 m20) else none) else none)) else none) else none) else none) else none) else none) else none) else none
set_option maxRecDepth 100000 in
set_option maxHeartbeats 4000000 in
theorem c_X11_hands (G : hG) (fu : Nat) (x1 : Int32) (x2 : Int32) (x3 : Int32) (m : hM) : Mt vI G 6 yX11_hands cX11_hands 6 (some .int) [hA G 96, .int x1, .int x2, .int x3] m (f_X11_hands fu x1 x2 x3 m) := by
  refine mt_of (by decide +kernel) (Nat.le_of_ble_eq_true rfl) (fun X C K => ?_)
  have C : Cx G X 6 cX11_hands 6 RX11 (some .int) := C
  show Rf vI G X 0 [(0, hA G 96), (1, .int x1), (2, .int x2), (3, .int x3)] [] m _
  unfold f_X11_hands
  refine rf_aload_n C (n := 1) (q := 0) dX11_hands_0 rfl rfl rfl ?_
  refine rf_getS C (n := 4) fl_RX11_140 ly_96 rfl dX11_hands_1 rfl ?_
  refine rf_iconst C (n := 5) (v := 3) dX11_hands_4 rfl (by decide) ?_
  refine rf_iload_n C (n := 6) (q := 1) dX11_hands_5 rfl rfl rfl ?_
  refine rf_iadd C (n := 7) dX11_hands_6 rfl ?_
  refine rf_guard (fun h1 => ?_)
  refine rf_iald C (n := 8) ly_114 h1 rfl dX11_hands_7 rfl ?_
  refine rf_letI (fun y2 => ?_)
  refine rf_istore C (n := 10) [(4, .int y2), (0, hA G 96), (1, .int x1), (2, .int x2), (3, .int x3)] dX11_hands_8 rfl (by decide) rfl ?_
  refine rf_aload_n C (n := 11) (q := 1) dX11_hands_10 rfl rfl rfl ?_
  refine rf_iload C (n := 13) (q := 0) dX11_hands_11 rfl rfl ?_
  refine rf_iload_n C (n := 14) (q := 3) dX11_hands_13 rfl rfl rfl ?_
  refine rf_iload_n C (n := 15) (q := 4) dX11_hands_14 rfl rfl rfl ?_
  refine rf_callVi C (n := 18) (c_X11_lostOf G fu _ _ _ _) mw_RX11_132 ly_96 rfl ⟨by decide, by decide⟩ rfl (Nat.le_of_ble_eq_true rfl) rfl dX11_hands_15 rfl (fun y3 m4 => ?_)
  refine rf_istore C (n := 20) [(5, .int y3), (4, .int y2), (0, hA G 96), (1, .int x1), (2, .int x2), (3, .int x3)] dX11_hands_18 rfl (by decide) rfl ?_
  refine rf_aload_n C (n := 21) (q := 2) dX11_hands_20 rfl rfl rfl ?_
  refine rf_getS C (n := 24) fl_RX11_140 ly_96 rfl dX11_hands_21 rfl ?_
  refine rf_bipush C (n := 26) (v := 11) dX11_hands_24 rfl (by decide) ?_
  refine rf_iload_n C (n := 27) (q := 3) dX11_hands_26 rfl rfl rfl ?_
  refine rf_iadd C (n := 28) dX11_hands_27 rfl ?_
  refine rf_dup2 C (n := 29) dX11_hands_28 rfl rfl rfl ?_
  refine rf_guard (fun h5 => ?_)
  refine rf_iald C (n := 30) ly_114 h5 rfl dX11_hands_29 rfl ?_
  refine rf_iload C (n := 32) (q := 0) dX11_hands_30 rfl rfl ?_
  refine rf_iadd C (n := 33) dX11_hands_32 rfl ?_
  refine rf_guard (fun h6 => ?_)
  refine rf_iast C (n := 34) ly_114 h6 rfl dX11_hands_33 rfl ?_
  refine rf_letM (fun m7 => ?_)
  refine rf_aload_n C (n := 35) (q := 2) dX11_hands_34 rfl rfl rfl ?_
  refine rf_getS C (n := 38) fl_RX11_140 ly_96 rfl dX11_hands_35 rfl ?_
  refine rf_bipush C (n := 40) (v := 59) dX11_hands_38 rfl (by decide) ?_
  refine rf_iload_n C (n := 41) (q := 3) dX11_hands_40 rfl rfl rfl ?_
  refine rf_iadd C (n := 42) dX11_hands_41 rfl ?_
  refine rf_dup2 C (n := 43) dX11_hands_42 rfl rfl rfl ?_
  refine rf_guard (fun h8 => ?_)
  refine rf_iald C (n := 44) ly_114 h8 rfl dX11_hands_43 rfl ?_
  refine rf_iload C (n := 46) (q := 0) dX11_hands_44 rfl rfl ?_
  refine rf_iadd C (n := 47) dX11_hands_46 rfl ?_
  refine rf_guard (fun h9 => ?_)
  refine rf_iast C (n := 48) ly_114 h9 rfl dX11_hands_47 rfl ?_
  refine rf_letM (fun m10 => ?_)
  refine rf_aload_n C (n := 49) (q := 2) dX11_hands_48 rfl rfl rfl ?_
  refine rf_getS C (n := 52) fl_RX11_140 ly_96 rfl dX11_hands_49 rfl ?_
  refine rf_bipush C (n := 54) (v := 51) dX11_hands_52 rfl (by decide) ?_
  refine rf_iload_n C (n := 55) (q := 3) dX11_hands_54 rfl rfl rfl ?_
  refine rf_iadd C (n := 56) dX11_hands_55 rfl ?_
  refine rf_dup2 C (n := 57) dX11_hands_56 rfl rfl rfl ?_
  refine rf_guard (fun h11 => ?_)
  refine rf_iald C (n := 58) ly_114 h11 rfl dX11_hands_57 rfl ?_
  refine rf_iconst C (n := 59) (v := 1) dX11_hands_58 rfl (by decide) ?_
  refine rf_iadd C (n := 60) dX11_hands_59 rfl ?_
  refine rf_guard (fun h12 => ?_)
  refine rf_iast C (n := 61) ly_114 h12 rfl dX11_hands_60 rfl ?_
  refine rf_letM (fun m13 => ?_)
  refine rf_aload_n C (n := 62) (q := 2) dX11_hands_61 rfl rfl rfl ?_
  refine rf_getS C (n := 65) fl_RX11_140 ly_96 rfl dX11_hands_62 rfl ?_
  refine rf_iconst C (n := 66) (v := 2) dX11_hands_65 rfl (by decide) ?_
  refine rf_iald C (n := 67) (j := 2) ly_114 (by decide) (by decide) dX11_hands_66 rfl ?_
  refine rf_bipush C (n := 69) (v := 60) dX11_hands_67 rfl (by decide) ?_
  refine rf_icmp_ge C (tgt := 119) (n := 72) dX11_hands_69 (by decide) rfl (fun h14 => ?_) (fun h14 => ?_)
  · exact rf_lv _ [2, 3, 4, 0] rfl (r_X11_hands_119 C K fu _ _ _ _)
  · refine rf_aload_n C (n := 73) (q := 2) dX11_hands_72 rfl rfl rfl ?_
    refine rf_getS C (n := 76) fl_RX11_140 ly_96 rfl dX11_hands_73 rfl ?_
    refine rf_bipush C (n := 78) (v := 67) dX11_hands_76 rfl (by decide) ?_
    refine rf_aload_n C (n := 79) (q := 2) dX11_hands_78 rfl rfl rfl ?_
    refine rf_getS C (n := 82) fl_RX11_140 ly_96 rfl dX11_hands_79 rfl ?_
    refine rf_iconst C (n := 83) (v := 2) dX11_hands_82 rfl (by decide) ?_
    refine rf_iald C (n := 84) (j := 2) ly_114 (by decide) (by decide) dX11_hands_83 rfl ?_
    refine rf_iadd C (n := 85) dX11_hands_84 rfl ?_
    refine rf_aload_n C (n := 86) (q := 2) dX11_hands_85 rfl rfl rfl ?_
    refine rf_getI C (n := 89) fl_RX11_111 ly_96 rfl dX11_hands_86 rfl ?_
    refine rf_bipush C (n := 91) (v := 10) dX11_hands_89 rfl (by decide) ?_
    refine rf_aload_n C (n := 92) (q := 2) dX11_hands_91 rfl rfl rfl ?_
    refine rf_getS C (n := 95) fl_RX11_60 ly_96 rfl dX11_hands_92 rfl ?_
    refine rf_bipush C (n := 97) (v := 6) dX11_hands_95 rfl (by decide) ?_
    refine rf_iload C (n := 99) (q := 1) dX11_hands_97 rfl rfl ?_
    refine rf_imul C (n := 100) dX11_hands_99 rfl ?_
    refine rf_iload_n C (n := 101) (q := 4) dX11_hands_100 rfl rfl rfl ?_
    refine rf_iadd C (n := 102) dX11_hands_101 rfl ?_
    refine rf_guard (fun h17 => ?_)
    refine rf_iald C (n := 103) ly_107 h17 rfl dX11_hands_102 rfl ?_
    refine rf_isub C (n := 104) dX11_hands_103 rfl ?_
    refine rf_imul C (n := 105) dX11_hands_104 rfl ?_
    refine rf_bipush C (n := 107) (v := 10) dX11_hands_105 rfl (by decide) ?_
    refine rf_idiv C (n := 108) dX11_hands_107 rfl (by decide) ?_
    refine rf_guard (fun h18 => ?_)
    refine rf_iast C (n := 109) ly_114 h18 rfl dX11_hands_108 rfl ?_
    refine rf_letM (fun m19 => ?_)
    refine rf_aload_n C (n := 110) (q := 2) dX11_hands_109 rfl rfl rfl ?_
    refine rf_getS C (n := 113) fl_RX11_140 ly_96 rfl dX11_hands_110 rfl ?_
    refine rf_iconst C (n := 114) (v := 2) dX11_hands_113 rfl (by decide) ?_
    refine rf_dup2 C (n := 115) dX11_hands_114 rfl rfl rfl ?_
    refine rf_iald C (n := 116) (j := 2) ly_114 (by decide) (by decide) dX11_hands_115 rfl ?_
    refine rf_iconst C (n := 117) (v := 1) dX11_hands_116 rfl (by decide) ?_
    refine rf_iadd C (n := 118) dX11_hands_117 rfl ?_
    refine rf_iast C (n := 119) (j0 := 2) ly_114 (by decide) (by decide) dX11_hands_118 rfl ?_
    refine rf_letM (fun m20 => ?_)
    exact rf_lv _ [2, 3, 4, 0] rfl (r_X11_hands_119 C K fu _ _ _ _)
noncomputable def f_X11_closes_163 (fu : Nat) (k9 : Int32 → Int32 → hM → Option (Unit × hM)) (x1 : Int32) (x2 : Int32) (m : hM) : Option (Unit × hM) :=
  hLet (x2 + 1) fun y9 =>
k9 x1 y9 m
set_option maxRecDepth 100000 in
set_option maxHeartbeats 4000000 in
theorem r_X11_closes_163 {G : hG} {X : hX} (C : Cx G X 8 cX11_closes 8 RX11 none) (K : Cr G X) (fu : Nat) (k9 : Int32 → Int32 → hM → Option (Unit × hM)) (hk9 : ∀ (x1 : Int32) (x2 : Int32) (m : hM), Rf vU G X 9 [(0, hA G 96), (1, .int x1), (2, .int x2)] [] m (k9 x1 x2 m)) (x1 : Int32) (x2 : Int32) (m : hM) : Rf vU G X 163 [(0, hA G 96), (1, .int x1), (2, .int x2)] [] m (f_X11_closes_163 fu k9 x1 x2 m) := by
  unfold f_X11_closes_163
  refine rf_iinc2 C (n := 166) (q := 2) (fun y9 => [(2, .int y9), (0, hA G 96), (1, .int x1)]) dX11_closes_163 rfl rfl (by decide) (by decide) (fun _ => rfl) (fun y9 => ?_)
  refine rf_goto C (n := 9) dX11_closes_166 (by decide) ?_
  exact rf_lv _ [1, 2, 0] rfl (hk9 _ _ _)
noncomputable def f_X11_closes_146 (fu : Nat) (k9 : Int32 → Int32 → hM → Option (Unit × hM)) (x1 : Int32) (x2 : Int32) (x3 : Int32) (x4 : Int32) (m : hM) : Option (Unit × hM) :=
  if x4 = x3 then (
f_X11_closes_163 fu k9 x1 x2 m) else (
hBd (f_X11_hands fu x2 x4 (x1 + 1) m) fun y23 m24 =>
f_X11_closes_163 fu k9 x1 x2 m24)
set_option maxRecDepth 100000 in
set_option maxHeartbeats 4000000 in
theorem r_X11_closes_146 {G : hG} {X : hX} (C : Cx G X 8 cX11_closes 8 RX11 none) (K : Cr G X) (fu : Nat) (k9 : Int32 → Int32 → hM → Option (Unit × hM)) (hk9 : ∀ (x1 : Int32) (x2 : Int32) (m : hM), Rf vU G X 9 [(0, hA G 96), (1, .int x1), (2, .int x2)] [] m (k9 x1 x2 m)) (x1 : Int32) (x2 : Int32) (x3 : Int32) (x4 : Int32) (m : hM) : Rf vU G X 146 [(0, hA G 96), (1, .int x1), (2, .int x2), (3, .int x3), (4, .int x4)] [] m (f_X11_closes_146 fu k9 x1 x2 x3 x4 m) := by
  unfold f_X11_closes_146
  refine rf_iload C (n := 148) (q := 4) dX11_closes_146 rfl rfl ?_
  refine rf_iload_n C (n := 149) (q := 3) dX11_closes_148 rfl rfl rfl ?_
  refine rf_icmp_eq C (tgt := 163) (n := 152) dX11_closes_149 (by decide) rfl (fun h22 => ?_) (fun h22 => ?_)
  · exact rf_lv _ [0, 1, 2] rfl (r_X11_closes_163 C K fu _ hk9 _ _ _)
  · refine rf_aload_n C (n := 153) (q := 0) dX11_closes_152 rfl rfl rfl ?_
    refine rf_iload_n C (n := 154) (q := 2) dX11_closes_153 rfl rfl rfl ?_
    refine rf_iload C (n := 156) (q := 4) dX11_closes_154 rfl rfl ?_
    refine rf_iload_n C (n := 157) (q := 1) dX11_closes_156 rfl rfl rfl ?_
    refine rf_iconst C (n := 158) (v := 1) dX11_closes_157 rfl (by decide) ?_
    refine rf_iadd C (n := 159) dX11_closes_158 rfl ?_
    refine rf_callVi C (n := 162) (c_X11_hands G fu _ _ _ _) mw_RX11_294 ly_96 rfl ⟨by decide, by decide⟩ rfl (Nat.le_of_ble_eq_true rfl) rfl dX11_closes_159 rfl (fun y23 m24 => ?_)
    refine rf_pop C (n := 163) dX11_closes_162 rfl rfl ?_
    exact rf_lv _ [0, 1, 2] rfl (r_X11_closes_163 C K fu _ hk9 _ _ _)
noncomputable def f_X11_closes_129 (fu : Nat) (k9 : Int32 → Int32 → hM → Option (Unit × hM)) (k94 : Int32 → Int32 → Int32 → Int32 → Int32 → Int32 → hM → Option (Unit × hM)) (x1 : Int32) (x2 : Int32) (x3 : Int32) (x5 : Int32) (x6 : Int32) (x7 : Int32) (s0 : Int32) (m : hM) : Option (Unit × hM) :=
  hBd (f_J9_max_7cf53 fu x5 x7 m) fun y28 m29 =>
hLet (x6 + 1) fun y30 =>
k94 x1 x2 x3 s0 y28 y30 m29
set_option maxRecDepth 100000 in
set_option maxHeartbeats 4000000 in
theorem r_X11_closes_129 {G : hG} {X : hX} (C : Cx G X 8 cX11_closes 8 RX11 none) (K : Cr G X) (fu : Nat) (k9 : Int32 → Int32 → hM → Option (Unit × hM)) (hk9 : ∀ (x1 : Int32) (x2 : Int32) (m : hM), Rf vU G X 9 [(0, hA G 96), (1, .int x1), (2, .int x2)] [] m (k9 x1 x2 m)) (k94 : Int32 → Int32 → Int32 → Int32 → Int32 → Int32 → hM → Option (Unit × hM)) (hk94 : ∀ (x1 : Int32) (x2 : Int32) (x3 : Int32) (x4 : Int32) (x5 : Int32) (x6 : Int32) (m : hM), Rf vU G X 94 [(0, hA G 96), (1, .int x1), (2, .int x2), (3, .int x3), (4, .int x4), (5, .int x5), (6, .int x6)] [] m (k94 x1 x2 x3 x4 x5 x6 m)) (x1 : Int32) (x2 : Int32) (x3 : Int32) (x5 : Int32) (x6 : Int32) (x7 : Int32) (s0 : Int32) (m : hM) : Rf vU G X 129 [(0, hA G 96), (1, .int x1), (2, .int x2), (3, .int x3), (5, .int x5), (6, .int x6), (7, .int x7)] [.int s0] m (f_X11_closes_129 fu k9 k94 x1 x2 x3 x5 x6 x7 s0 m) := by
  unfold f_X11_closes_129
  refine rf_istore C (n := 131) [(4, .int s0), (0, hA G 96), (1, .int x1), (2, .int x2), (3, .int x3), (5, .int x5), (6, .int x6), (7, .int x7)] dX11_closes_129 rfl (by decide) rfl ?_
  refine rf_iload C (n := 133) (q := 5) dX11_closes_131 rfl rfl ?_
  refine rf_iload C (n := 135) (q := 7) dX11_closes_133 rfl rfl ?_
  refine rf_callSi C (n := 138) (c_J9_max_7cf53 G fu _ _ _) sw_RX11_101 ⟨by decide, by decide⟩ rfl (Nat.le_of_ble_eq_true rfl) rfl dX11_closes_135 rfl (fun y28 m29 => ?_)
  refine rf_istore C (n := 140) [(5, .int y28), (4, .int s0), (0, hA G 96), (1, .int x1), (2, .int x2), (3, .int x3), (6, .int x6), (7, .int x7)] dX11_closes_138 rfl (by decide) rfl ?_
  refine rf_iinc2 C (n := 143) (q := 6) (fun y30 => [(6, .int y30), (5, .int y28), (4, .int s0), (0, hA G 96), (1, .int x1), (2, .int x2), (3, .int x3), (7, .int x7)]) dX11_closes_140 rfl rfl (by decide) (by decide) (fun _ => rfl) (fun y30 => ?_)
  refine rf_goto C (n := 94) dX11_closes_143 (by decide) ?_
  exact rf_lv _ [3, 4, 5, 6, 2, 1, 0] rfl (hk94 _ _ _ _ _ _ _)
noncomputable def s_X11_closes_94 (fu : Nat) (k9 : Int32 → Int32 → hM → Option (Unit × hM)) (ih : Int32 → Int32 → Int32 → Int32 → Int32 → Int32 → hM → Option (Unit × hM)) (x1 : Int32) (x2 : Int32) (x3 : Int32) (x4 : Int32) (x5 : Int32) (x6 : Int32) (m : hM) : Option (Unit × hM) :=
  if (gI m 96 3) ≤ x6 then (
f_X11_closes_146 fu k9 x1 x2 x3 x4 m) else (
hBd (f_X11_worked fu x2 x6 (x1 + 1) m) fun y25 m26 =>
if y25 ≤ x5 then (
f_X11_closes_129 fu k9 ih x1 x2 x3 x5 x6 y25 x4 m26) else (
f_X11_closes_129 fu k9 ih x1 x2 x3 x5 x6 y25 x6 m26))
noncomputable def f_X11_closes_94 (fu : Nat) (k9 : Int32 → Int32 → hM → Option (Unit × hM)) (n : Nat) : Int32 → Int32 → Int32 → Int32 → Int32 → Int32 → hM → Option (Unit × hM) :=
  Nat.rec (motive := fun _ => Int32 → Int32 → Int32 → Int32 → Int32 → Int32 → hM → Option (Unit × hM)) (fun _ _ _ _ _ _ _ => none) (fun _ ih => s_X11_closes_94 fu k9 ih) n
theorem f_X11_closes_94_s (fu : Nat) (k9 : Int32 → Int32 → hM → Option (Unit × hM)) (n : Nat) (x1 : Int32) (x2 : Int32) (x3 : Int32) (x4 : Int32) (x5 : Int32) (x6 : Int32) (m : hM) : f_X11_closes_94 fu k9 (n + 1) x1 x2 x3 x4 x5 x6 m = s_X11_closes_94 fu k9 (f_X11_closes_94 fu k9 n) x1 x2 x3 x4 x5 x6 m := rfl
set_option maxRecDepth 100000 in
set_option maxHeartbeats 4000000 in
theorem r_X11_closes_94 {G : hG} {X : hX} (C : Cx G X 8 cX11_closes 8 RX11 none) (K : Cr G X) (fu : Nat) (k9 : Int32 → Int32 → hM → Option (Unit × hM)) (hk9 : ∀ (x1 : Int32) (x2 : Int32) (m : hM), Rf vU G X 9 [(0, hA G 96), (1, .int x1), (2, .int x2)] [] m (k9 x1 x2 m)) (n : Nat) : ∀ (x1 : Int32) (x2 : Int32) (x3 : Int32) (x4 : Int32) (x5 : Int32) (x6 : Int32) (m : hM), Rf vU G X 94 [(0, hA G 96), (1, .int x1), (2, .int x2), (3, .int x3), (4, .int x4), (5, .int x5), (6, .int x6)] [] m (f_X11_closes_94 fu k9 n x1 x2 x3 x4 x5 x6 m) := by
  induction n with
  | zero => intros; exact rf_none
  | succ n ih =>
    intro x1 x2 x3 x4 x5 x6 m
    show Rf vU G X 94 [(0, hA G 96), (1, .int x1), (2, .int x2), (3, .int x3), (4, .int x4), (5, .int x5), (6, .int x6)] [] m (s_X11_closes_94 fu k9 (f_X11_closes_94 fu k9 n) x1 x2 x3 x4 x5 x6 m)
    unfold s_X11_closes_94
    refine rf_iload C (n := 96) (q := 6) dX11_closes_94 rfl rfl ?_
    refine rf_aload_n C (n := 97) (q := 0) dX11_closes_96 rfl rfl rfl ?_
    refine rf_getI C (n := 100) fl_RX11_22 ly_96 rfl dX11_closes_97 rfl ?_
    refine rf_icmp_ge C (tgt := 146) (n := 103) dX11_closes_100 (by decide) rfl (fun h21 => ?_) (fun h21 => ?_)
    · exact rf_lv _ [0, 1, 2, 3, 4] rfl (r_X11_closes_146 C K fu _ hk9 _ _ _ _ _)
    · refine rf_aload_n C (n := 104) (q := 0) dX11_closes_103 rfl rfl rfl ?_
      refine rf_iload_n C (n := 105) (q := 2) dX11_closes_104 rfl rfl rfl ?_
      refine rf_iload C (n := 107) (q := 6) dX11_closes_105 rfl rfl ?_
      refine rf_iload_n C (n := 108) (q := 1) dX11_closes_107 rfl rfl rfl ?_
      refine rf_iconst C (n := 109) (v := 1) dX11_closes_108 rfl (by decide) ?_
      refine rf_iadd C (n := 110) dX11_closes_109 rfl ?_
      refine rf_callVi C (n := 113) (c_X11_worked G fu _ _ _ _) mw_RX11_262 ly_96 rfl ⟨by decide, by decide⟩ rfl (Nat.le_of_ble_eq_true rfl) rfl dX11_closes_110 rfl (fun y25 m26 => ?_)
      refine rf_istore C (n := 115) [(7, .int y25), (0, hA G 96), (1, .int x1), (2, .int x2), (3, .int x3), (4, .int x4), (5, .int x5), (6, .int x6)] dX11_closes_113 rfl (by decide) rfl ?_
      refine rf_iload C (n := 117) (q := 0) dX11_closes_115 rfl rfl ?_
      refine rf_iload C (n := 119) (q := 6) dX11_closes_117 rfl rfl ?_
      refine rf_icmp_le C (tgt := 127) (n := 122) dX11_closes_119 (by decide) rfl (fun h27 => ?_) (fun h27 => ?_)
      · refine rf_iload C (n := 129) (q := 5) dX11_closes_127 rfl rfl ?_
        exact rf_lv _ [1, 2, 3, 4, 6, 7, 0] rfl (r_X11_closes_129 C K fu _ hk9 _ ih _ _ _ _ _ _ _ _)
      · refine rf_iload C (n := 124) (q := 7) dX11_closes_122 rfl rfl ?_
        refine rf_goto C (n := 129) dX11_closes_124 (by decide) ?_
        exact rf_lv _ [1, 2, 3, 4, 6, 7, 0] rfl (r_X11_closes_129 C K fu _ hk9 _ ih _ _ _ _ _ _ _ _)
noncomputable def s_X11_closes_9 (fu : Nat) (ih : Int32 → Int32 → hM → Option (Unit × hM)) (x1 : Int32) (x2 : Int32) (m : hM) : Option (Unit × hM) :=
  if (gI m 96 16) ≤ x2 then (
some ((), m)) else (
if (gI m 117 0) ≤ 0 then (
some ((), m)) else (
if hIn (3 + x2) 127 then (
hLet (gI m 114 (Int32.toNatClampNeg (3 + x2))) fun y5 =>
hBd (f_X11_has fu (gI m 96 34) x2 m) fun y6 m7 =>
if y6 = 0 then (
f_X11_closes_163 fu ih x1 x2 m7) else (
hBd (f_X11_isDone fu x2 m7) fun y10 m11 =>
if ¬ y10 = 0 then (
f_X11_closes_163 fu ih x1 x2 m11) else (
hBd (f_X11_isOpen fu y5 x1 m11) fun y13 m14 =>
if y13 = 0 then (
f_X11_closes_163 fu ih x1 x2 m14) else (
hBd (f_X11_isOpen fu y5 (x1 + 1) m14) fun y16 m17 =>
if y16 = 0 then (
hBd (f_X11_worked fu x2 0 (x1 + 1) m17) fun y19 m20 =>
f_X11_closes_94 fu ih fu x1 x2 y5 0 y19 1 m20) else (
f_X11_closes_163 fu ih x1 x2 m17))))) else none))
noncomputable def f_X11_closes_9 (fu : Nat) (n : Nat) : Int32 → Int32 → hM → Option (Unit × hM) :=
  Nat.rec (motive := fun _ => Int32 → Int32 → hM → Option (Unit × hM)) (fun _ _ _ => none) (fun _ ih => s_X11_closes_9 fu ih) n
theorem f_X11_closes_9_s (fu : Nat) (n : Nat) (x1 : Int32) (x2 : Int32) (m : hM) : f_X11_closes_9 fu (n + 1) x1 x2 m = s_X11_closes_9 fu (f_X11_closes_9 fu n) x1 x2 m := rfl
set_option maxRecDepth 100000 in
set_option maxHeartbeats 4000000 in
theorem r_X11_closes_9 {G : hG} {X : hX} (C : Cx G X 8 cX11_closes 8 RX11 none) (K : Cr G X) (fu : Nat) (n : Nat) : ∀ (x1 : Int32) (x2 : Int32) (m : hM), Rf vU G X 9 [(0, hA G 96), (1, .int x1), (2, .int x2)] [] m (f_X11_closes_9 fu n x1 x2 m) := by
  induction n with
  | zero => intros; exact rf_none
  | succ n ih =>
    intro x1 x2 m
    show Rf vU G X 9 [(0, hA G 96), (1, .int x1), (2, .int x2)] [] m (s_X11_closes_9 fu (f_X11_closes_9 fu n) x1 x2 m)
    unfold s_X11_closes_9
    refine rf_iload_n C (n := 10) (q := 2) dX11_closes_9 rfl rfl rfl ?_
    refine rf_aload_n C (n := 11) (q := 0) dX11_closes_10 rfl rfl rfl ?_
    refine rf_getI C (n := 14) fl_RX11_151 ly_96 rfl dX11_closes_11 rfl ?_
    refine rf_icmp_ge C (tgt := 169) (n := 17) dX11_closes_14 (by decide) rfl (fun h2 => ?_) (fun h2 => ?_)
    · exact rf_vret C K dX11_closes_169
    · refine rf_aload_n C (n := 18) (q := 0) dX11_closes_17 rfl rfl rfl ?_
      refine rf_getS C (n := 21) fl_RX11_199 ly_96 rfl dX11_closes_18 rfl ?_
      refine rf_iconst C (n := 22) (v := 0) dX11_closes_21 rfl (by decide) ?_
      refine rf_iald C (n := 23) (j := 0) ly_117 (by decide) (by decide) dX11_closes_22 rfl ?_
      refine rf_if_le C (tgt := 169) (n := 26) dX11_closes_23 (by decide) rfl (fun h3 => ?_) (fun h3 => ?_)
      · exact rf_vret C K dX11_closes_169
      · refine rf_aload_n C (n := 27) (q := 0) dX11_closes_26 rfl rfl rfl ?_
        refine rf_getS C (n := 30) fl_RX11_140 ly_96 rfl dX11_closes_27 rfl ?_
        refine rf_iconst C (n := 31) (v := 3) dX11_closes_30 rfl (by decide) ?_
        refine rf_iload_n C (n := 32) (q := 2) dX11_closes_31 rfl rfl rfl ?_
        refine rf_iadd C (n := 33) dX11_closes_32 rfl ?_
        refine rf_guard (fun h4 => ?_)
        refine rf_iald C (n := 34) ly_114 h4 rfl dX11_closes_33 rfl ?_
        refine rf_letI (fun y5 => ?_)
        refine rf_istore_n C (n := 35) [(3, .int y5), (0, hA G 96), (1, .int x1), (2, .int x2)] dX11_closes_34 rfl rfl (by decide) rfl ?_
        refine rf_aload_n C (n := 36) (q := 1) dX11_closes_35 rfl rfl rfl ?_
        refine rf_getI C (n := 39) fl_RX11_278 ly_96 rfl dX11_closes_36 rfl ?_
        refine rf_iload_n C (n := 40) (q := 3) dX11_closes_39 rfl rfl rfl ?_
        refine rf_callSi C (n := 43) (c_X11_has G fu _ _ _) sw_RX11_137 ⟨by decide, by decide⟩ rfl (Nat.le_of_ble_eq_true rfl) rfl dX11_closes_40 rfl (fun y6 m7 => ?_)
        refine rf_if_eq C (tgt := 163) (n := 46) dX11_closes_43 (by decide) rfl (fun h8 => ?_) (fun h8 => ?_)
        · exact rf_lv _ [1, 2, 3] rfl (r_X11_closes_163 C K fu _ ih _ _ _)
        · refine rf_aload_n C (n := 47) (q := 1) dX11_closes_46 rfl rfl rfl ?_
          refine rf_iload_n C (n := 48) (q := 3) dX11_closes_47 rfl rfl rfl ?_
          refine rf_callVi C (n := 51) (c_X11_isDone G fu _ _) mw_RX11_265 ly_96 rfl ⟨by decide, by decide⟩ rfl (Nat.le_of_ble_eq_true rfl) rfl dX11_closes_48 rfl (fun y10 m11 => ?_)
          refine rf_if_ne C (tgt := 163) (n := 54) dX11_closes_51 (by decide) rfl (fun h12 => ?_) (fun h12 => ?_)
          · exact rf_lv _ [1, 2, 3] rfl (r_X11_closes_163 C K fu _ ih _ _ _)
          · refine rf_aload_n C (n := 55) (q := 1) dX11_closes_54 rfl rfl rfl ?_
            refine rf_iload_n C (n := 56) (q := 0) dX11_closes_55 rfl rfl rfl ?_
            refine rf_iload_n C (n := 57) (q := 2) dX11_closes_56 rfl rfl rfl ?_
            refine rf_callVi C (n := 60) (c_X11_isOpen G fu _ _ _) mw_RX11_120 ly_96 rfl ⟨by decide, by decide⟩ rfl (Nat.le_of_ble_eq_true rfl) rfl dX11_closes_57 rfl (fun y13 m14 => ?_)
            refine rf_if_eq C (tgt := 163) (n := 63) dX11_closes_60 (by decide) rfl (fun h15 => ?_) (fun h15 => ?_)
            · exact rf_lv _ [1, 2, 3] rfl (r_X11_closes_163 C K fu _ ih _ _ _)
            · refine rf_aload_n C (n := 64) (q := 1) dX11_closes_63 rfl rfl rfl ?_
              refine rf_iload_n C (n := 65) (q := 0) dX11_closes_64 rfl rfl rfl ?_
              refine rf_iload_n C (n := 66) (q := 2) dX11_closes_65 rfl rfl rfl ?_
              refine rf_iconst C (n := 67) (v := 1) dX11_closes_66 rfl (by decide) ?_
              refine rf_iadd C (n := 68) dX11_closes_67 rfl ?_
              refine rf_callVi C (n := 71) (c_X11_isOpen G fu _ _ _) mw_RX11_120 ly_96 rfl ⟨by decide, by decide⟩ rfl (Nat.le_of_ble_eq_true rfl) rfl dX11_closes_68 rfl (fun y16 m17 => ?_)
              refine rf_if_eq C (tgt := 77) (n := 74) dX11_closes_71 (by decide) rfl (fun h18 => ?_) (fun h18 => ?_)
              · refine rf_iconst C (n := 78) (v := 0) dX11_closes_77 rfl (by decide) ?_
                refine rf_istore C (n := 80) [(4, .int 0), (3, .int y5), (0, hA G 96), (1, .int x1), (2, .int x2)] dX11_closes_78 rfl (by decide) rfl ?_
                refine rf_aload_n C (n := 81) (q := 2) dX11_closes_80 rfl rfl rfl ?_
                refine rf_iload_n C (n := 82) (q := 4) dX11_closes_81 rfl rfl rfl ?_
                refine rf_iconst C (n := 83) (v := 0) dX11_closes_82 rfl (by decide) ?_
                refine rf_iload_n C (n := 84) (q := 3) dX11_closes_83 rfl rfl rfl ?_
                refine rf_iconst C (n := 85) (v := 1) dX11_closes_84 rfl (by decide) ?_
                refine rf_iadd C (n := 86) dX11_closes_85 rfl ?_
                refine rf_callVi C (n := 89) (c_X11_worked G fu _ _ _ _) mw_RX11_262 ly_96 rfl ⟨by decide, by decide⟩ rfl (Nat.le_of_ble_eq_true rfl) rfl dX11_closes_86 rfl (fun y19 m20 => ?_)
                refine rf_istore C (n := 91) [(5, .int y19), (4, .int 0), (3, .int y5), (0, hA G 96), (1, .int x1), (2, .int x2)] dX11_closes_89 rfl (by decide) rfl ?_
                refine rf_iconst C (n := 92) (v := 1) dX11_closes_91 rfl (by decide) ?_
                refine rf_istore C (n := 94) [(6, .int 1), (5, .int y19), (4, .int 0), (3, .int y5), (0, hA G 96), (1, .int x1), (2, .int x2)] dX11_closes_92 rfl (by decide) rfl ?_
                exact rf_lv _ [4, 5, 6, 3, 2, 1, 0] rfl (r_X11_closes_94 C K fu _ ih fu _ _ _ _ _ _ _)
              · refine rf_goto C (n := 163) dX11_closes_74 (by decide) ?_
                exact rf_lv _ [1, 2, 3] rfl (r_X11_closes_163 C K fu _ ih _ _ _)
noncomputable def f_X11_closes (fu : Nat) (m : hM) : Option (Unit × hM) :=
  hLet (gI m 114 0) fun y1 =>
f_X11_closes_9 fu fu y1 0 m
set_option maxRecDepth 100000 in
set_option maxHeartbeats 4000000 in
theorem c_X11_closes (G : hG) (fu : Nat) (m : hM) : Mt vU G 8 yX11_closes cX11_closes 8 none [hA G 96] m (f_X11_closes fu m) := by
  refine mt_of (by decide +kernel) (Nat.le_of_ble_eq_true rfl) (fun X C K => ?_)
  have C : Cx G X 8 cX11_closes 8 RX11 none := C
  show Rf vU G X 0 [(0, hA G 96)] [] m _
  unfold f_X11_closes
  refine rf_aload_n C (n := 1) (q := 0) dX11_closes_0 rfl rfl rfl ?_
  refine rf_getS C (n := 4) fl_RX11_140 ly_96 rfl dX11_closes_1 rfl ?_
  refine rf_iconst C (n := 5) (v := 0) dX11_closes_4 rfl (by decide) ?_
  refine rf_iald C (n := 6) (j := 0) ly_114 (by decide) (by decide) dX11_closes_5 rfl ?_
  refine rf_letI (fun y1 => ?_)
  refine rf_istore_n C (n := 7) [(1, .int y1), (0, hA G 96)] dX11_closes_6 rfl rfl (by decide) rfl ?_
  refine rf_iconst C (n := 8) (v := 0) dX11_closes_7 rfl (by decide) ?_
  refine rf_istore_n C (n := 9) [(2, .int 0), (1, .int y1), (0, hA G 96)] dX11_closes_8 rfl rfl (by decide) rfl ?_
  exact rf_lv _ [2, 1, 0] rfl (r_X11_closes_9 C K fu fu _ _ _)
noncomputable def f_X11_passes (fu : Nat) (m : hM) : Option (Unit × hM) :=
  hBd (f_X11_works fu m) fun _ m1 =>
hBd (f_X11_closes fu m1) fun _ m2 =>
hLet (sI m2 114 0 ((gI m2 114 0) + 1)) fun m3 =>
some ((), m3)
set_option maxRecDepth 100000 in
set_option maxHeartbeats 4000000 in
theorem c_X11_passes (G : hG) (fu : Nat) (m : hM) : Mt vU G 9 yX11_passes cX11_passes 1 none [hA G 96] m (f_X11_passes fu m) := by
  refine mt_of (by decide +kernel) (Nat.le_of_ble_eq_true rfl) (fun X C K => ?_)
  have C : Cx G X 9 cX11_passes 1 RX11 none := C
  show Rf vU G X 0 [(0, hA G 96)] [] m _
  unfold f_X11_passes
  refine rf_aload_n C (n := 1) (q := 0) dX11_passes_0 rfl rfl rfl ?_
  refine rf_callVv C (n := 4) (c_X11_works G fu _) mw_RX11_296 ly_96 rfl ⟨by decide, by decide⟩ rfl (Nat.le_of_ble_eq_true rfl) rfl dX11_passes_1 rfl (fun _ m1 => ?_)
  refine rf_aload_n C (n := 5) (q := 0) dX11_passes_4 rfl rfl rfl ?_
  refine rf_callVv C (n := 8) (c_X11_closes G fu _) mw_RX11_300 ly_96 rfl ⟨by decide, by decide⟩ rfl (Nat.le_of_ble_eq_true rfl) rfl dX11_passes_5 rfl (fun _ m2 => ?_)
  refine rf_aload_n C (n := 9) (q := 0) dX11_passes_8 rfl rfl rfl ?_
  refine rf_getS C (n := 12) fl_RX11_140 ly_96 rfl dX11_passes_9 rfl ?_
  refine rf_iconst C (n := 13) (v := 0) dX11_passes_12 rfl (by decide) ?_
  refine rf_dup2 C (n := 14) dX11_passes_13 rfl rfl rfl ?_
  refine rf_iald C (n := 15) (j := 0) ly_114 (by decide) (by decide) dX11_passes_14 rfl ?_
  refine rf_iconst C (n := 16) (v := 1) dX11_passes_15 rfl (by decide) ?_
  refine rf_iadd C (n := 17) dX11_passes_16 rfl ?_
  refine rf_iast C (n := 18) (j0 := 0) ly_114 (by decide) (by decide) dX11_passes_17 rfl ?_
  refine rf_letM (fun m3 => ?_)
  exact rf_vret C K dX11_passes_18
noncomputable def s_X11_begins_23 (fu : Nat) (ih : Int32 → hM → Option (Unit × hM)) (x2 : Int32) (m : hM) : Option (Unit × hM) :=
  if (gI m 96 16) ≤ x2 then (
some ((), m)) else (
hBd (f_X11_lays fu x2 m) fun _ m5 =>
hLet (x2 + 1) fun y6 =>
ih y6 m5)
noncomputable def f_X11_begins_23 (fu : Nat) (n : Nat) : Int32 → hM → Option (Unit × hM) :=
  Nat.rec (motive := fun _ => Int32 → hM → Option (Unit × hM)) (fun _ _ => none) (fun _ ih => s_X11_begins_23 fu ih) n
theorem f_X11_begins_23_s (fu : Nat) (n : Nat) (x2 : Int32) (m : hM) : f_X11_begins_23 fu (n + 1) x2 m = s_X11_begins_23 fu (f_X11_begins_23 fu n) x2 m := rfl
set_option maxRecDepth 100000 in
set_option maxHeartbeats 4000000 in
theorem r_X11_begins_23 {G : hG} {X : hX} (C : Cx G X 2 cX11_begins 3 RX11 none) (K : Cr G X) (fu : Nat) (n : Nat) : ∀ (x2 : Int32) (m : hM), Rf vU G X 23 [(0, hA G 96), (2, .int x2)] [] m (f_X11_begins_23 fu n x2 m) := by
  induction n with
  | zero => intros; exact rf_none
  | succ n ih =>
    intro x2 m
    show Rf vU G X 23 [(0, hA G 96), (2, .int x2)] [] m (s_X11_begins_23 fu (f_X11_begins_23 fu n) x2 m)
    unfold s_X11_begins_23
    refine rf_iload_n C (n := 24) (q := 1) dX11_begins_23 rfl rfl rfl ?_
    refine rf_aload_n C (n := 25) (q := 0) dX11_begins_24 rfl rfl rfl ?_
    refine rf_getI C (n := 28) fl_RX11_151 ly_96 rfl dX11_begins_25 rfl ?_
    refine rf_icmp_ge C (tgt := 42) (n := 31) dX11_begins_28 (by decide) rfl (fun h4 => ?_) (fun h4 => ?_)
    · exact rf_vret C K dX11_begins_42
    · refine rf_aload_n C (n := 32) (q := 0) dX11_begins_31 rfl rfl rfl ?_
      refine rf_iload_n C (n := 33) (q := 1) dX11_begins_32 rfl rfl rfl ?_
      refine rf_callVv C (n := 36) (c_X11_lays G fu _ _) mw_RX11_166 ly_96 rfl ⟨by decide, by decide⟩ rfl (Nat.le_of_ble_eq_true rfl) rfl dX11_begins_33 rfl (fun _ m5 => ?_)
      refine rf_iinc2 C (n := 39) (q := 1) (fun y6 => [(2, .int y6), (0, hA G 96)]) dX11_begins_36 rfl rfl (by decide) (by decide) (fun _ => rfl) (fun y6 => ?_)
      refine rf_goto C (n := 23) dX11_begins_39 (by decide) ?_
      exact rf_lv _ [1, 0] rfl (ih _ _)
noncomputable def f_X11_begins (fu : Nat) (x1 : Int32) (m : hM) : Option (Unit × hM) :=
  hLet (sI m 114 0 x1) fun m1 =>
hLet (sI m1 114 1 0) fun m2 =>
hLet (sI m2 114 2 0) fun m3 =>
f_X11_begins_23 fu fu 0 m3
set_option maxRecDepth 100000 in
set_option maxHeartbeats 4000000 in
theorem c_X11_begins (G : hG) (fu : Nat) (x1 : Int32) (m : hM) : Mt vU G 2 yX11_begins cX11_begins 3 none [hA G 96, .int x1] m (f_X11_begins fu x1 m) := by
  refine mt_of (by decide +kernel) (Nat.le_of_ble_eq_true rfl) (fun X C K => ?_)
  have C : Cx G X 2 cX11_begins 3 RX11 none := C
  show Rf vU G X 0 [(0, hA G 96), (1, .int x1)] [] m _
  unfold f_X11_begins
  refine rf_aload_n C (n := 1) (q := 0) dX11_begins_0 rfl rfl rfl ?_
  refine rf_getS C (n := 4) fl_RX11_140 ly_96 rfl dX11_begins_1 rfl ?_
  refine rf_iconst C (n := 5) (v := 0) dX11_begins_4 rfl (by decide) ?_
  refine rf_iload_n C (n := 6) (q := 1) dX11_begins_5 rfl rfl rfl ?_
  refine rf_iast C (n := 7) (j0 := 0) ly_114 (by decide) (by decide) dX11_begins_6 rfl ?_
  refine rf_letM (fun m1 => ?_)
  refine rf_aload_n C (n := 8) (q := 0) dX11_begins_7 rfl rfl rfl ?_
  refine rf_getS C (n := 11) fl_RX11_140 ly_96 rfl dX11_begins_8 rfl ?_
  refine rf_iconst C (n := 12) (v := 1) dX11_begins_11 rfl (by decide) ?_
  refine rf_iconst C (n := 13) (v := 0) dX11_begins_12 rfl (by decide) ?_
  refine rf_iast C (n := 14) (j0 := 1) ly_114 (by decide) (by decide) dX11_begins_13 rfl ?_
  refine rf_letM (fun m2 => ?_)
  refine rf_aload_n C (n := 15) (q := 0) dX11_begins_14 rfl rfl rfl ?_
  refine rf_getS C (n := 18) fl_RX11_140 ly_96 rfl dX11_begins_15 rfl ?_
  refine rf_iconst C (n := 19) (v := 2) dX11_begins_18 rfl (by decide) ?_
  refine rf_iconst C (n := 20) (v := 0) dX11_begins_19 rfl (by decide) ?_
  refine rf_iast C (n := 21) (j0 := 2) ly_114 (by decide) (by decide) dX11_begins_20 rfl ?_
  refine rf_letM (fun m3 => ?_)
  refine rf_iconst C (n := 22) (v := 0) dX11_begins_21 rfl (by decide) ?_
  refine rf_istore_n C (n := 23) [(2, .int 0), (0, hA G 96), (1, .int x1)] dX11_begins_22 rfl rfl (by decide) rfl ?_
  exact rf_lv _ [1, 0] rfl (r_X11_begins_23 C K fu fu _ _)
noncomputable def f_X11_begin (fu : Nat) (x1 : Int32) (m : hM) : Option (Int32 × hM) :=
  hLet (sI m 96 0 0) fun m1 =>
hBd (f_X11_isHour fu x1 m1) fun y2 m3 =>
if ¬ y2 = 0 then (
hBd (f_X11_begins fu x1 m3) fun _ m5 =>
some (1, m5)) else (
some (0, m3))
set_option maxRecDepth 100000 in
set_option maxHeartbeats 4000000 in
theorem c_X11_begin (G : hG) (fu : Nat) (x1 : Int32) (m : hM) : Mt vI G 3 yX11_begin cX11_begin 2 (some .boolean) [hA G 96, .int x1] m (f_X11_begin fu x1 m) := by
  refine mt_of (by decide +kernel) (Nat.le_of_ble_eq_true rfl) (fun X C K => ?_)
  have C : Cx G X 3 cX11_begin 2 RX11 (some .boolean) := C
  show Rf vI G X 0 [(0, hA G 96), (1, .int x1)] [] m _
  unfold f_X11_begin
  refine rf_aload_n C (n := 1) (q := 0) dX11_begin_0 rfl rfl rfl ?_
  refine rf_iconst C (n := 2) (v := 0) dX11_begin_1 rfl (by decide) ?_
  refine rf_putI C (n := 5) pl_RX11_3 ly_96 rfl ⟨rfl, rfl⟩ dX11_begin_2 rfl ?_
  refine rf_letM (fun m1 => ?_)
  refine rf_iload_n C (n := 6) (q := 1) dX11_begin_5 rfl rfl rfl ?_
  refine rf_callSi C (n := 9) (c_X11_isHour G fu _ _) sw_RX11_81 ⟨by decide, by decide⟩ rfl (Nat.le_of_ble_eq_true rfl) rfl dX11_begin_6 rfl (fun y2 m3 => ?_)
  refine rf_if_ne C (tgt := 14) (n := 12) dX11_begin_9 (by decide) rfl (fun h4 => ?_) (fun h4 => ?_)
  · refine rf_aload_n C (n := 15) (q := 0) dX11_begin_14 rfl rfl rfl ?_
    refine rf_iload_n C (n := 16) (q := 1) dX11_begin_15 rfl rfl rfl ?_
    refine rf_callVv C (n := 19) (c_X11_begins G fu _ _) mw_RX11_303 ly_96 rfl ⟨by decide, by decide⟩ rfl (Nat.le_of_ble_eq_true rfl) rfl dX11_begin_16 rfl (fun _ m5 => ?_)
    refine rf_iconst C (n := 20) (v := 1) dX11_begin_19 rfl (by decide) ?_
    exact rf_zret C K (by decide) dX11_begin_20
  · refine rf_iconst C (n := 13) (v := 0) dX11_begin_12 rfl (by decide) ?_
    exact rf_zret C K (by decide) dX11_begin_13
noncomputable def f_X11_go_48 (fu : Nat) (m : hM) : Option (Int32 × hM) :=
  some (gI m 114 0, m)
set_option maxRecDepth 100000 in
set_option maxHeartbeats 4000000 in
theorem r_X11_go_48 {G : hG} {X : hX} (C : Cx G X 10 cX11_go 3 RX11 (some .int)) (K : Cr G X) (fu : Nat) (m : hM) : Rf vI G X 48 [(0, hA G 96)] [] m (f_X11_go_48 fu m) := by
  unfold f_X11_go_48
  refine rf_aload_n C (n := 49) (q := 0) dX11_go_48 rfl rfl rfl ?_
  refine rf_getS C (n := 52) fl_RX11_140 ly_96 rfl dX11_go_49 rfl ?_
  refine rf_iconst C (n := 53) (v := 0) dX11_go_52 rfl (by decide) ?_
  refine rf_iald C (n := 54) (j := 0) ly_114 (by decide) (by decide) dX11_go_53 rfl ?_
  exact rf_iret C K dX11_go_54
noncomputable def s_X11_go_21 (fu : Nat) (ih : Int32 → Int32 → hM → Option (Int32 × hM)) (x1 : Int32) (x2 : Int32) (m : hM) : Option (Int32 × hM) :=
  if x1 ≤ x2 then (
f_X11_go_48 fu m) else (
if 2399 ≤ (gI m 114 0) then (
f_X11_go_48 fu m) else (
hBd (f_X11_passes fu m) fun _ m7 =>
hLet (x2 + 1) fun y8 =>
ih x1 y8 m7))
noncomputable def f_X11_go_21 (fu : Nat) (n : Nat) : Int32 → Int32 → hM → Option (Int32 × hM) :=
  Nat.rec (motive := fun _ => Int32 → Int32 → hM → Option (Int32 × hM)) (fun _ _ _ => none) (fun _ ih => s_X11_go_21 fu ih) n
theorem f_X11_go_21_s (fu : Nat) (n : Nat) (x1 : Int32) (x2 : Int32) (m : hM) : f_X11_go_21 fu (n + 1) x1 x2 m = s_X11_go_21 fu (f_X11_go_21 fu n) x1 x2 m := rfl
set_option maxRecDepth 100000 in
set_option maxHeartbeats 4000000 in
theorem r_X11_go_21 {G : hG} {X : hX} (C : Cx G X 10 cX11_go 3 RX11 (some .int)) (K : Cr G X) (fu : Nat) (n : Nat) : ∀ (x1 : Int32) (x2 : Int32) (m : hM), Rf vI G X 21 [(0, hA G 96), (1, .int x1), (2, .int x2)] [] m (f_X11_go_21 fu n x1 x2 m) := by
  induction n with
  | zero => intros; exact rf_none
  | succ n ih =>
    intro x1 x2 m
    show Rf vI G X 21 [(0, hA G 96), (1, .int x1), (2, .int x2)] [] m (s_X11_go_21 fu (f_X11_go_21 fu n) x1 x2 m)
    unfold s_X11_go_21
    refine rf_iload_n C (n := 22) (q := 2) dX11_go_21 rfl rfl rfl ?_
    refine rf_iload_n C (n := 23) (q := 1) dX11_go_22 rfl rfl rfl ?_
    refine rf_icmp_ge C (tgt := 48) (n := 26) dX11_go_23 (by decide) rfl (fun h5 => ?_) (fun h5 => ?_)
    · exact rf_lv _ [0] rfl (r_X11_go_48 C K fu _)
    · refine rf_aload_n C (n := 27) (q := 0) dX11_go_26 rfl rfl rfl ?_
      refine rf_getS C (n := 30) fl_RX11_140 ly_96 rfl dX11_go_27 rfl ?_
      refine rf_iconst C (n := 31) (v := 0) dX11_go_30 rfl (by decide) ?_
      refine rf_iald C (n := 32) (j := 0) ly_114 (by decide) (by decide) dX11_go_31 rfl ?_
      refine rf_sipush C (n := 35) (v := 2399) dX11_go_32 rfl (by decide) ?_
      refine rf_icmp_ge C (tgt := 48) (n := 38) dX11_go_35 (by decide) rfl (fun h6 => ?_) (fun h6 => ?_)
      · exact rf_lv _ [0] rfl (r_X11_go_48 C K fu _)
      · refine rf_aload_n C (n := 39) (q := 0) dX11_go_38 rfl rfl rfl ?_
        refine rf_callVv C (n := 42) (c_X11_passes G fu _) mw_RX11_308 ly_96 rfl ⟨by decide, by decide⟩ rfl (Nat.le_of_ble_eq_true rfl) rfl dX11_go_39 rfl (fun _ m7 => ?_)
        refine rf_iinc2 C (n := 45) (q := 2) (fun y8 => [(2, .int y8), (0, hA G 96), (1, .int x1)]) dX11_go_42 rfl rfl (by decide) (by decide) (fun _ => rfl) (fun y8 => ?_)
        refine rf_goto C (n := 21) dX11_go_45 (by decide) ?_
        exact rf_lv _ [1, 2, 0] rfl (ih _ _ _)
noncomputable def f_X11_go (fu : Nat) (x1 : Int32) (m : hM) : Option (Int32 × hM) :=
  hLet (sI m 96 0 0) fun m1 =>
hBd (f_X11_in fu (Int32.toInt64 x1) 0 500 m1) fun y2 m3 =>
if ¬ y2 = 0 then (
f_X11_go_21 fu fu x1 0 m3) else (
some ((-1), m3))
set_option maxRecDepth 100000 in
set_option maxHeartbeats 4000000 in
theorem c_X11_go (G : hG) (fu : Nat) (x1 : Int32) (m : hM) : Mt vI G 10 yX11_go cX11_go 3 (some .int) [hA G 96, .int x1] m (f_X11_go fu x1 m) := by
  refine mt_of (by decide +kernel) (Nat.le_of_ble_eq_true rfl) (fun X C K => ?_)
  have C : Cx G X 10 cX11_go 3 RX11 (some .int) := C
  show Rf vI G X 0 [(0, hA G 96), (1, .int x1)] [] m _
  unfold f_X11_go
  refine rf_aload_n C (n := 1) (q := 0) dX11_go_0 rfl rfl rfl ?_
  refine rf_iconst C (n := 2) (v := 0) dX11_go_1 rfl (by decide) ?_
  refine rf_putI C (n := 5) pl_RX11_3 ly_96 rfl ⟨rfl, rfl⟩ dX11_go_2 rfl ?_
  refine rf_letM (fun m1 => ?_)
  refine rf_iload_n C (n := 6) (q := 1) dX11_go_5 rfl rfl rfl ?_
  refine rf_i2l C (n := 7) dX11_go_6 rfl ?_
  refine rf_lconst C (n := 8) (v := 0) dX11_go_7 rfl (by decide) ?_
  refine rf_ldc2 C (n := 11) dX11_go_8 rfl kl_RX11_306 ?_
  refine rf_callSi C (n := 14) (c_X11_in G fu _ _ _ _) sw_RX11_25 ⟨by decide, by decide⟩ rfl (Nat.le_of_ble_eq_true rfl) rfl dX11_go_11 rfl (fun y2 m3 => ?_)
  refine rf_if_ne C (tgt := 19) (n := 17) dX11_go_14 (by decide) rfl (fun h4 => ?_) (fun h4 => ?_)
  · refine rf_iconst C (n := 20) (v := 0) dX11_go_19 rfl (by decide) ?_
    refine rf_istore_n C (n := 21) [(2, .int 0), (0, hA G 96), (1, .int x1)] dX11_go_20 rfl rfl (by decide) rfl ?_
    exact rf_lv _ [1, 2, 0] rfl (r_X11_go_21 C K fu fu _ _ _)
  · refine rf_iconst C (n := 18) (v := (-1)) dX11_go_17 rfl (by decide) ?_
    exact rf_iret C K dX11_go_18
noncomputable def f_X11_of_25 (fu : Nat) (m : hM) : Option (Int32 × hM) :=
  hBd (f_X11_refuse fu m) fun y5 m6 =>
some (y5, m6)
set_option maxRecDepth 100000 in
set_option maxHeartbeats 4000000 in
theorem r_X11_of_25 {G : hG} {X : hX} (C : Cx G X 3 cX11_of 3 RX11 (some .int)) (K : Cr G X) (fu : Nat) (m : hM) : Rf vI G X 25 [(0, hA G 96)] [] m (f_X11_of_25 fu m) := by
  unfold f_X11_of_25
  refine rf_aload_n C (n := 26) (q := 0) dX11_of_25 rfl rfl rfl ?_
  refine rf_callVi C (n := 29) (c_X11_refuse G fu _) mw_RX11_259 ly_96 rfl ⟨by decide, by decide⟩ rfl (Nat.le_of_ble_eq_true rfl) rfl dX11_of_26 rfl (fun y5 m6 => ?_)
  exact rf_iret C K dX11_of_29
noncomputable def f_X11_of (fu : Nat) (x1 : Int32) (x2 : Int32) (m : hM) : Option (Int32 × hM) :=
  hLet (sI m 96 0 0) fun m1 =>
hBd (f_X11_isPiece fu x1 m1) fun y2 m3 =>
if y2 = 0 then (
f_X11_of_25 fu m3) else (
hBd (f_X11_in fu (Int32.toInt64 x2) 0 8 m3) fun y7 m8 =>
if ¬ y7 = 0 then (
if x2 = 0 then (
if hIn (3 + x1) 127 then (
some (gI m8 114 (Int32.toNatClampNeg (3 + x1)), m8)) else none) else if x2 = 1 then (
if hIn (11 + x1) 127 then (
some (gI m8 114 (Int32.toNatClampNeg (11 + x1)), m8)) else none) else if x2 = 2 then (
if hIn (19 + x1) 127 then (
some (gI m8 114 (Int32.toNatClampNeg (19 + x1)), m8)) else none) else if x2 = 3 then (
if hIn (27 + x1) 127 then (
some (gI m8 114 (Int32.toNatClampNeg (27 + x1)), m8)) else none) else if x2 = 4 then (
if hIn (35 + x1) 127 then (
some (gI m8 114 (Int32.toNatClampNeg (35 + x1)), m8)) else none) else if x2 = 5 then (
if hIn (43 + x1) 127 then (
some (gI m8 114 (Int32.toNatClampNeg (43 + x1)), m8)) else none) else if x2 = 6 then (
if hIn (51 + x1) 127 then (
some (gI m8 114 (Int32.toNatClampNeg (51 + x1)), m8)) else none) else if x2 = 7 then (
if hIn (59 + x1) 127 then (
some (gI m8 114 (Int32.toNatClampNeg (59 + x1)), m8)) else none) else (
hBd (f_X11_isReady fu x1 m8) fun y26 m27 =>
hBd (f_X11_flag fu y26 m27) fun y28 m29 =>
some (y28, m29))) else (
f_X11_of_25 fu m8))
set_option maxRecDepth 100000 in
set_option maxHeartbeats 4000000 in
theorem c_X11_of (G : hG) (fu : Nat) (x1 : Int32) (x2 : Int32) (m : hM) : Mt vI G 3 yX11_of cX11_of 3 (some .int) [hA G 96, .int x1, .int x2] m (f_X11_of fu x1 x2 m) := by
  refine mt_of (by decide +kernel) (Nat.le_of_ble_eq_true rfl) (fun X C K => ?_)
  have C : Cx G X 3 cX11_of 3 RX11 (some .int) := C
  show Rf vI G X 0 [(0, hA G 96), (1, .int x1), (2, .int x2)] [] m _
  unfold f_X11_of
  refine rf_aload_n C (n := 1) (q := 0) dX11_of_0 rfl rfl rfl ?_
  refine rf_iconst C (n := 2) (v := 0) dX11_of_1 rfl (by decide) ?_
  refine rf_putI C (n := 5) pl_RX11_3 ly_96 rfl ⟨rfl, rfl⟩ dX11_of_2 rfl ?_
  refine rf_letM (fun m1 => ?_)
  refine rf_aload_n C (n := 6) (q := 0) dX11_of_5 rfl rfl rfl ?_
  refine rf_iload_n C (n := 7) (q := 1) dX11_of_6 rfl rfl rfl ?_
  refine rf_callVi C (n := 10) (c_X11_isPiece G fu _ _) mw_RX11_256 ly_96 rfl ⟨by decide, by decide⟩ rfl (Nat.le_of_ble_eq_true rfl) rfl dX11_of_7 rfl (fun y2 m3 => ?_)
  refine rf_if_eq C (tgt := 25) (n := 13) dX11_of_10 (by decide) rfl (fun h4 => ?_) (fun h4 => ?_)
  · exact rf_lv _ [0] rfl (r_X11_of_25 C K fu _)
  · refine rf_iload_n C (n := 14) (q := 2) dX11_of_13 rfl rfl rfl ?_
    refine rf_i2l C (n := 15) dX11_of_14 rfl ?_
    refine rf_lconst C (n := 16) (v := 0) dX11_of_15 rfl (by decide) ?_
    refine rf_ldc2 C (n := 19) dX11_of_16 rfl kl_RX11_311 ?_
    refine rf_callSi C (n := 22) (c_X11_in G fu _ _ _ _) sw_RX11_25 ⟨by decide, by decide⟩ rfl (Nat.le_of_ble_eq_true rfl) rfl dX11_of_19 rfl (fun y7 m8 => ?_)
    refine rf_if_ne C (tgt := 30) (n := 25) dX11_of_22 (by decide) rfl (fun h9 => ?_) (fun h9 => ?_)
    · refine rf_iload_n C (n := 31) (q := 2) dX11_of_30 rfl rfl rfl ?_
      refine rf_sw (fun h10 => ?_) (fun h10 => ?_)
      · refine rf_tabIn C (n := 76) (off := 45) dX11_of_31 h10 (by decide) (by decide) (by decide) (by decide) ?_
        refine rf_aload_n C (n := 77) (q := 0) dX11_of_76 rfl rfl rfl ?_
        refine rf_getS C (n := 80) fl_RX11_140 ly_96 rfl dX11_of_77 rfl ?_
        refine rf_iconst C (n := 81) (v := 3) dX11_of_80 rfl (by decide) ?_
        refine rf_iload_n C (n := 82) (q := 1) dX11_of_81 rfl rfl rfl ?_
        refine rf_iadd C (n := 83) dX11_of_82 rfl ?_
        refine rf_guard (fun h11 => ?_)
        refine rf_iald C (n := 84) ly_114 h11 rfl dX11_of_83 rfl ?_
        exact rf_iret C K dX11_of_84
      refine rf_sw (fun h12 => ?_) (fun h12 => ?_)
      · refine rf_tabIn C (n := 85) (off := 54) dX11_of_31 h12 (by decide) (by decide) (by decide) (by decide) ?_
        refine rf_aload_n C (n := 86) (q := 0) dX11_of_85 rfl rfl rfl ?_
        refine rf_getS C (n := 89) fl_RX11_140 ly_96 rfl dX11_of_86 rfl ?_
        refine rf_bipush C (n := 91) (v := 11) dX11_of_89 rfl (by decide) ?_
        refine rf_iload_n C (n := 92) (q := 1) dX11_of_91 rfl rfl rfl ?_
        refine rf_iadd C (n := 93) dX11_of_92 rfl ?_
        refine rf_guard (fun h13 => ?_)
        refine rf_iald C (n := 94) ly_114 h13 rfl dX11_of_93 rfl ?_
        exact rf_iret C K dX11_of_94
      refine rf_sw (fun h14 => ?_) (fun h14 => ?_)
      · refine rf_tabIn C (n := 95) (off := 64) dX11_of_31 h14 (by decide) (by decide) (by decide) (by decide) ?_
        refine rf_aload_n C (n := 96) (q := 0) dX11_of_95 rfl rfl rfl ?_
        refine rf_getS C (n := 99) fl_RX11_140 ly_96 rfl dX11_of_96 rfl ?_
        refine rf_bipush C (n := 101) (v := 19) dX11_of_99 rfl (by decide) ?_
        refine rf_iload_n C (n := 102) (q := 1) dX11_of_101 rfl rfl rfl ?_
        refine rf_iadd C (n := 103) dX11_of_102 rfl ?_
        refine rf_guard (fun h15 => ?_)
        refine rf_iald C (n := 104) ly_114 h15 rfl dX11_of_103 rfl ?_
        exact rf_iret C K dX11_of_104
      refine rf_sw (fun h16 => ?_) (fun h16 => ?_)
      · refine rf_tabIn C (n := 105) (off := 74) dX11_of_31 h16 (by decide) (by decide) (by decide) (by decide) ?_
        refine rf_aload_n C (n := 106) (q := 0) dX11_of_105 rfl rfl rfl ?_
        refine rf_getS C (n := 109) fl_RX11_140 ly_96 rfl dX11_of_106 rfl ?_
        refine rf_bipush C (n := 111) (v := 27) dX11_of_109 rfl (by decide) ?_
        refine rf_iload_n C (n := 112) (q := 1) dX11_of_111 rfl rfl rfl ?_
        refine rf_iadd C (n := 113) dX11_of_112 rfl ?_
        refine rf_guard (fun h17 => ?_)
        refine rf_iald C (n := 114) ly_114 h17 rfl dX11_of_113 rfl ?_
        exact rf_iret C K dX11_of_114
      refine rf_sw (fun h18 => ?_) (fun h18 => ?_)
      · refine rf_tabIn C (n := 115) (off := 84) dX11_of_31 h18 (by decide) (by decide) (by decide) (by decide) ?_
        refine rf_aload_n C (n := 116) (q := 0) dX11_of_115 rfl rfl rfl ?_
        refine rf_getS C (n := 119) fl_RX11_140 ly_96 rfl dX11_of_116 rfl ?_
        refine rf_bipush C (n := 121) (v := 35) dX11_of_119 rfl (by decide) ?_
        refine rf_iload_n C (n := 122) (q := 1) dX11_of_121 rfl rfl rfl ?_
        refine rf_iadd C (n := 123) dX11_of_122 rfl ?_
        refine rf_guard (fun h19 => ?_)
        refine rf_iald C (n := 124) ly_114 h19 rfl dX11_of_123 rfl ?_
        exact rf_iret C K dX11_of_124
      refine rf_sw (fun h20 => ?_) (fun h20 => ?_)
      · refine rf_tabIn C (n := 125) (off := 94) dX11_of_31 h20 (by decide) (by decide) (by decide) (by decide) ?_
        refine rf_aload_n C (n := 126) (q := 0) dX11_of_125 rfl rfl rfl ?_
        refine rf_getS C (n := 129) fl_RX11_140 ly_96 rfl dX11_of_126 rfl ?_
        refine rf_bipush C (n := 131) (v := 43) dX11_of_129 rfl (by decide) ?_
        refine rf_iload_n C (n := 132) (q := 1) dX11_of_131 rfl rfl rfl ?_
        refine rf_iadd C (n := 133) dX11_of_132 rfl ?_
        refine rf_guard (fun h21 => ?_)
        refine rf_iald C (n := 134) ly_114 h21 rfl dX11_of_133 rfl ?_
        exact rf_iret C K dX11_of_134
      refine rf_sw (fun h22 => ?_) (fun h22 => ?_)
      · refine rf_tabIn C (n := 135) (off := 104) dX11_of_31 h22 (by decide) (by decide) (by decide) (by decide) ?_
        refine rf_aload_n C (n := 136) (q := 0) dX11_of_135 rfl rfl rfl ?_
        refine rf_getS C (n := 139) fl_RX11_140 ly_96 rfl dX11_of_136 rfl ?_
        refine rf_bipush C (n := 141) (v := 51) dX11_of_139 rfl (by decide) ?_
        refine rf_iload_n C (n := 142) (q := 1) dX11_of_141 rfl rfl rfl ?_
        refine rf_iadd C (n := 143) dX11_of_142 rfl ?_
        refine rf_guard (fun h23 => ?_)
        refine rf_iald C (n := 144) ly_114 h23 rfl dX11_of_143 rfl ?_
        exact rf_iret C K dX11_of_144
      refine rf_sw (fun h24 => ?_) (fun h24 => ?_)
      · refine rf_tabIn C (n := 145) (off := 114) dX11_of_31 h24 (by decide) (by decide) (by decide) (by decide) ?_
        refine rf_aload_n C (n := 146) (q := 0) dX11_of_145 rfl rfl rfl ?_
        refine rf_getS C (n := 149) fl_RX11_140 ly_96 rfl dX11_of_146 rfl ?_
        refine rf_bipush C (n := 151) (v := 59) dX11_of_149 rfl (by decide) ?_
        refine rf_iload_n C (n := 152) (q := 1) dX11_of_151 rfl rfl rfl ?_
        refine rf_iadd C (n := 153) dX11_of_152 rfl ?_
        refine rf_guard (fun h25 => ?_)
        refine rf_iald C (n := 154) ly_114 h25 rfl dX11_of_153 rfl ?_
        exact rf_iret C K dX11_of_154
      refine rf_tabD C (n := 155) dX11_of_31 [0, 1, 2, 3, 4, 5, 6, 7] (by intro c hc; simp only [List.mem_cons, List.not_mem_nil, or_false] at hc; rcases hc with rfl | rfl | rfl | rfl | rfl | rfl | rfl | rfl <;> assumption) (by decide) (by decide) (by decide) ?_
      refine rf_aload_n C (n := 156) (q := 0) dX11_of_155 rfl rfl rfl ?_
      refine rf_iload_n C (n := 157) (q := 1) dX11_of_156 rfl rfl rfl ?_
      refine rf_callVi C (n := 160) (c_X11_isReady G fu _ _) mw_RX11_268 ly_96 rfl ⟨by decide, by decide⟩ rfl (Nat.le_of_ble_eq_true rfl) rfl dX11_of_157 rfl (fun y26 m27 => ?_)
      refine rf_callSi C (n := 163) (c_X11_flag G fu _ _) sw_RX11_124 ⟨by decide, by decide⟩ rfl (Nat.le_of_ble_eq_true rfl) rfl dX11_of_160 rfl (fun y28 m29 => ?_)
      exact rf_iret C K dX11_of_163
    · exact rf_lv _ [0] rfl (r_X11_of_25 C K fu _)
noncomputable def f_X11_hand (fu : Nat) (x1 : Int32) (x2 : Int32) (m : hM) : Option (Int32 × hM) :=
  hLet (sI m 96 0 0) fun m1 =>
hBd (f_X11_isPiece fu x1 m1) fun y2 m3 =>
if y2 = 0 then (
some ((-1), m3)) else (
hBd (f_X11_isOffice fu x2 m3) fun y5 m6 =>
if y5 = 0 then (
some ((-1), m6)) else (
hBd (f_X11_isDone fu x1 m6) fun y8 m9 =>
if ¬ y8 = 0 then (
some ((-1), m9)) else (
if hIn (3 + x1) 127 then (
if ¬ (gI m9 114 (Int32.toNatClampNeg (3 + x1))) = x2 then (
hBd (f_X11_hands fu x1 x2 (gI m9 114 0) m9) fun y13 m14 =>
some (y13, m14)) else (
some ((-1), m9))) else none)))
set_option maxRecDepth 100000 in
set_option maxHeartbeats 4000000 in
theorem c_X11_hand (G : hG) (fu : Nat) (x1 : Int32) (x2 : Int32) (m : hM) : Mt vI G 7 yX11_hand cX11_hand 3 (some .int) [hA G 96, .int x1, .int x2] m (f_X11_hand fu x1 x2 m) := by
  refine mt_of (by decide +kernel) (Nat.le_of_ble_eq_true rfl) (fun X C K => ?_)
  have C : Cx G X 7 cX11_hand 3 RX11 (some .int) := C
  show Rf vI G X 0 [(0, hA G 96), (1, .int x1), (2, .int x2)] [] m _
  unfold f_X11_hand
  refine rf_aload_n C (n := 1) (q := 0) dX11_hand_0 rfl rfl rfl ?_
  refine rf_iconst C (n := 2) (v := 0) dX11_hand_1 rfl (by decide) ?_
  refine rf_putI C (n := 5) pl_RX11_3 ly_96 rfl ⟨rfl, rfl⟩ dX11_hand_2 rfl ?_
  refine rf_letM (fun m1 => ?_)
  refine rf_aload_n C (n := 6) (q := 0) dX11_hand_5 rfl rfl rfl ?_
  refine rf_iload_n C (n := 7) (q := 1) dX11_hand_6 rfl rfl rfl ?_
  refine rf_callVi C (n := 10) (c_X11_isPiece G fu _ _) mw_RX11_256 ly_96 rfl ⟨by decide, by decide⟩ rfl (Nat.le_of_ble_eq_true rfl) rfl dX11_hand_7 rfl (fun y2 m3 => ?_)
  refine rf_if_eq C (tgt := 41) (n := 13) dX11_hand_10 (by decide) rfl (fun h4 => ?_) (fun h4 => ?_)
  · refine rf_iconst C (n := 42) (v := (-1)) dX11_hand_41 rfl (by decide) ?_
    exact rf_iret C K dX11_hand_42
  · refine rf_aload_n C (n := 14) (q := 0) dX11_hand_13 rfl rfl rfl ?_
    refine rf_iload_n C (n := 15) (q := 2) dX11_hand_14 rfl rfl rfl ?_
    refine rf_callVi C (n := 18) (c_X11_isOffice G fu _ _) mw_RX11_77 ly_96 rfl ⟨by decide, by decide⟩ rfl (Nat.le_of_ble_eq_true rfl) rfl dX11_hand_15 rfl (fun y5 m6 => ?_)
    refine rf_if_eq C (tgt := 41) (n := 21) dX11_hand_18 (by decide) rfl (fun h7 => ?_) (fun h7 => ?_)
    · refine rf_iconst C (n := 42) (v := (-1)) dX11_hand_41 rfl (by decide) ?_
      exact rf_iret C K dX11_hand_42
    · refine rf_aload_n C (n := 22) (q := 0) dX11_hand_21 rfl rfl rfl ?_
      refine rf_iload_n C (n := 23) (q := 1) dX11_hand_22 rfl rfl rfl ?_
      refine rf_callVi C (n := 26) (c_X11_isDone G fu _ _) mw_RX11_265 ly_96 rfl ⟨by decide, by decide⟩ rfl (Nat.le_of_ble_eq_true rfl) rfl dX11_hand_23 rfl (fun y8 m9 => ?_)
      refine rf_if_ne C (tgt := 41) (n := 29) dX11_hand_26 (by decide) rfl (fun h10 => ?_) (fun h10 => ?_)
      · refine rf_iconst C (n := 42) (v := (-1)) dX11_hand_41 rfl (by decide) ?_
        exact rf_iret C K dX11_hand_42
      · refine rf_aload_n C (n := 30) (q := 0) dX11_hand_29 rfl rfl rfl ?_
        refine rf_getS C (n := 33) fl_RX11_140 ly_96 rfl dX11_hand_30 rfl ?_
        refine rf_iconst C (n := 34) (v := 3) dX11_hand_33 rfl (by decide) ?_
        refine rf_iload_n C (n := 35) (q := 1) dX11_hand_34 rfl rfl rfl ?_
        refine rf_iadd C (n := 36) dX11_hand_35 rfl ?_
        refine rf_guard (fun h11 => ?_)
        refine rf_iald C (n := 37) ly_114 h11 rfl dX11_hand_36 rfl ?_
        refine rf_iload_n C (n := 38) (q := 2) dX11_hand_37 rfl rfl rfl ?_
        refine rf_icmp_ne C (tgt := 43) (n := 41) dX11_hand_38 (by decide) rfl (fun h12 => ?_) (fun h12 => ?_)
        · refine rf_aload_n C (n := 44) (q := 0) dX11_hand_43 rfl rfl rfl ?_
          refine rf_iload_n C (n := 45) (q := 1) dX11_hand_44 rfl rfl rfl ?_
          refine rf_iload_n C (n := 46) (q := 2) dX11_hand_45 rfl rfl rfl ?_
          refine rf_aload_n C (n := 47) (q := 0) dX11_hand_46 rfl rfl rfl ?_
          refine rf_getS C (n := 50) fl_RX11_140 ly_96 rfl dX11_hand_47 rfl ?_
          refine rf_iconst C (n := 51) (v := 0) dX11_hand_50 rfl (by decide) ?_
          refine rf_iald C (n := 52) (j := 0) ly_114 (by decide) (by decide) dX11_hand_51 rfl ?_
          refine rf_callVi C (n := 55) (c_X11_hands G fu _ _ _ _) mw_RX11_294 ly_96 rfl ⟨by decide, by decide⟩ rfl (Nat.le_of_ble_eq_true rfl) rfl dX11_hand_52 rfl (fun y13 m14 => ?_)
          exact rf_iret C K dX11_hand_55
        · refine rf_iconst C (n := 42) (v := (-1)) dX11_hand_41 rfl (by decide) ?_
          exact rf_iret C K dX11_hand_42
noncomputable def f_X11_isAllDone_29 (fu : Nat) (k4 : Int32 → Int32 → hM → Option (Int32 × hM)) (x2 : Int32) (s0 : Int32) (m : hM) : Option (Int32 × hM) :=
  hLet (x2 + 1) fun y4 =>
k4 s0 y4 m
set_option maxRecDepth 100000 in
set_option maxHeartbeats 4000000 in
theorem r_X11_isAllDone_29 {G : hG} {X : hX} (C : Cx G X 2 cX11_isAllDone 3 RX11 (some .boolean)) (K : Cr G X) (fu : Nat) (k4 : Int32 → Int32 → hM → Option (Int32 × hM)) (hk4 : ∀ (x1 : Int32) (x2 : Int32) (m : hM), Rf vI G X 4 [(0, hA G 96), (1, .int x1), (2, .int x2)] [] m (k4 x1 x2 m)) (x2 : Int32) (s0 : Int32) (m : hM) : Rf vI G X 29 [(0, hA G 96), (2, .int x2)] [.int s0] m (f_X11_isAllDone_29 fu k4 x2 s0 m) := by
  unfold f_X11_isAllDone_29
  refine rf_istore_n C (n := 30) [(1, .int s0), (0, hA G 96), (2, .int x2)] dX11_isAllDone_29 rfl rfl (by decide) rfl ?_
  refine rf_iinc2 C (n := 33) (q := 2) (fun y4 => [(2, .int y4), (1, .int s0), (0, hA G 96)]) dX11_isAllDone_30 rfl rfl (by decide) (by decide) (fun _ => rfl) (fun y4 => ?_)
  refine rf_goto C (n := 4) dX11_isAllDone_33 (by decide) ?_
  exact rf_lv _ [2, 1, 0] rfl (hk4 _ _ _)
noncomputable def f_X11_isAllDone_28 (fu : Nat) (k4 : Int32 → Int32 → hM → Option (Int32 × hM)) (x2 : Int32) (m : hM) : Option (Int32 × hM) :=
  f_X11_isAllDone_29 fu k4 x2 0 m
set_option maxRecDepth 100000 in
set_option maxHeartbeats 4000000 in
theorem r_X11_isAllDone_28 {G : hG} {X : hX} (C : Cx G X 2 cX11_isAllDone 3 RX11 (some .boolean)) (K : Cr G X) (fu : Nat) (k4 : Int32 → Int32 → hM → Option (Int32 × hM)) (hk4 : ∀ (x1 : Int32) (x2 : Int32) (m : hM), Rf vI G X 4 [(0, hA G 96), (1, .int x1), (2, .int x2)] [] m (k4 x1 x2 m)) (x2 : Int32) (m : hM) : Rf vI G X 28 [(0, hA G 96), (2, .int x2)] [] m (f_X11_isAllDone_28 fu k4 x2 m) := by
  unfold f_X11_isAllDone_28
  refine rf_iconst C (n := 29) (v := 0) dX11_isAllDone_28 rfl (by decide) ?_
  exact rf_lv _ [0, 1] rfl (r_X11_isAllDone_29 C K fu _ hk4 _ _ _)
noncomputable def s_X11_isAllDone_4 (fu : Nat) (ih : Int32 → Int32 → hM → Option (Int32 × hM)) (x1 : Int32) (x2 : Int32) (m : hM) : Option (Int32 × hM) :=
  if (gI m 96 16) ≤ x2 then (
if x1 = 0 ∨ x1 = 1 then (
some (x1, m)) else none) else (
if x1 = 0 then (
f_X11_isAllDone_28 fu ih x2 m) else (
hBd (f_X11_isDone fu x2 m) fun y5 m6 =>
if y5 = 0 then (
f_X11_isAllDone_28 fu ih x2 m6) else (
f_X11_isAllDone_29 fu ih x2 1 m6)))
noncomputable def f_X11_isAllDone_4 (fu : Nat) (n : Nat) : Int32 → Int32 → hM → Option (Int32 × hM) :=
  Nat.rec (motive := fun _ => Int32 → Int32 → hM → Option (Int32 × hM)) (fun _ _ _ => none) (fun _ ih => s_X11_isAllDone_4 fu ih) n
theorem f_X11_isAllDone_4_s (fu : Nat) (n : Nat) (x1 : Int32) (x2 : Int32) (m : hM) : f_X11_isAllDone_4 fu (n + 1) x1 x2 m = s_X11_isAllDone_4 fu (f_X11_isAllDone_4 fu n) x1 x2 m := rfl
set_option maxRecDepth 100000 in
set_option maxHeartbeats 4000000 in
theorem r_X11_isAllDone_4 {G : hG} {X : hX} (C : Cx G X 2 cX11_isAllDone 3 RX11 (some .boolean)) (K : Cr G X) (fu : Nat) (n : Nat) : ∀ (x1 : Int32) (x2 : Int32) (m : hM), Rf vI G X 4 [(0, hA G 96), (1, .int x1), (2, .int x2)] [] m (f_X11_isAllDone_4 fu n x1 x2 m) := by
  induction n with
  | zero => intros; exact rf_none
  | succ n ih =>
    intro x1 x2 m
    show Rf vI G X 4 [(0, hA G 96), (1, .int x1), (2, .int x2)] [] m (s_X11_isAllDone_4 fu (f_X11_isAllDone_4 fu n) x1 x2 m)
    unfold s_X11_isAllDone_4
    refine rf_iload_n C (n := 5) (q := 2) dX11_isAllDone_4 rfl rfl rfl ?_
    refine rf_aload_n C (n := 6) (q := 0) dX11_isAllDone_5 rfl rfl rfl ?_
    refine rf_getI C (n := 9) fl_RX11_151 ly_96 rfl dX11_isAllDone_6 rfl ?_
    refine rf_icmp_ge C (tgt := 36) (n := 12) dX11_isAllDone_9 (by decide) rfl (fun h1 => ?_) (fun h1 => ?_)
    · refine rf_iload_n C (n := 37) (q := 1) dX11_isAllDone_36 rfl rfl rfl ?_
      refine rf_guard (fun h2 => ?_)
      exact rf_zret C K (hz_bool h2).1 dX11_isAllDone_37
    · refine rf_iload_n C (n := 13) (q := 1) dX11_isAllDone_12 rfl rfl rfl ?_
      refine rf_if_eq C (tgt := 28) (n := 16) dX11_isAllDone_13 (by decide) rfl (fun h3 => ?_) (fun h3 => ?_)
      · exact rf_lv _ [0, 2] rfl (r_X11_isAllDone_28 C K fu _ ih _ _)
      · refine rf_aload_n C (n := 17) (q := 0) dX11_isAllDone_16 rfl rfl rfl ?_
        refine rf_iload_n C (n := 18) (q := 2) dX11_isAllDone_17 rfl rfl rfl ?_
        refine rf_callVi C (n := 21) (c_X11_isDone G fu _ _) mw_RX11_265 ly_96 rfl ⟨by decide, by decide⟩ rfl (Nat.le_of_ble_eq_true rfl) rfl dX11_isAllDone_18 rfl (fun y5 m6 => ?_)
        refine rf_if_eq C (tgt := 28) (n := 24) dX11_isAllDone_21 (by decide) rfl (fun h7 => ?_) (fun h7 => ?_)
        · exact rf_lv _ [0, 2] rfl (r_X11_isAllDone_28 C K fu _ ih _ _)
        · refine rf_iconst C (n := 25) (v := 1) dX11_isAllDone_24 rfl (by decide) ?_
          refine rf_goto C (n := 29) dX11_isAllDone_25 (by decide) ?_
          exact rf_lv _ [0, 2] rfl (r_X11_isAllDone_29 C K fu _ ih _ _ _)
noncomputable def f_X11_isAllDone (fu : Nat) (m : hM) : Option (Int32 × hM) :=
  f_X11_isAllDone_4 fu fu 1 0 m
set_option maxRecDepth 100000 in
set_option maxHeartbeats 4000000 in
theorem c_X11_isAllDone (G : hG) (fu : Nat) (m : hM) : Mt vI G 2 yX11_isAllDone cX11_isAllDone 3 (some .boolean) [hA G 96] m (f_X11_isAllDone fu m) := by
  refine mt_of (by decide +kernel) (Nat.le_of_ble_eq_true rfl) (fun X C K => ?_)
  have C : Cx G X 2 cX11_isAllDone 3 RX11 (some .boolean) := C
  show Rf vI G X 0 [(0, hA G 96)] [] m _
  unfold f_X11_isAllDone
  refine rf_iconst C (n := 1) (v := 1) dX11_isAllDone_0 rfl (by decide) ?_
  refine rf_istore_n C (n := 2) [(1, .int 1), (0, hA G 96)] dX11_isAllDone_1 rfl rfl (by decide) rfl ?_
  refine rf_iconst C (n := 3) (v := 0) dX11_isAllDone_2 rfl (by decide) ?_
  refine rf_istore_n C (n := 4) [(2, .int 0), (1, .int 1), (0, hA G 96)] dX11_isAllDone_3 rfl rfl (by decide) rfl ?_
  exact rf_lv _ [2, 1, 0] rfl (r_X11_isAllDone_4 C K fu fu _ _ _)
noncomputable def f_X11_goesOn_44 (fu : Nat) (m : hM) : Option (Int32 × hM) :=
  some (gI m 114 0, m)
set_option maxRecDepth 100000 in
set_option maxHeartbeats 4000000 in
theorem r_X11_goesOn_44 {G : hG} {X : hX} (C : Cx G X 10 cX11_goesOn 2 RX11 (some .int)) (K : Cr G X) (fu : Nat) (m : hM) : Rf vI G X 44 [(0, hA G 96)] [] m (f_X11_goesOn_44 fu m) := by
  unfold f_X11_goesOn_44
  refine rf_aload_n C (n := 45) (q := 0) dX11_goesOn_44 rfl rfl rfl ?_
  refine rf_getS C (n := 48) fl_RX11_140 ly_96 rfl dX11_goesOn_45 rfl ?_
  refine rf_iconst C (n := 49) (v := 0) dX11_goesOn_48 rfl (by decide) ?_
  refine rf_iald C (n := 50) (j := 0) ly_114 (by decide) (by decide) dX11_goesOn_49 rfl ?_
  exact rf_iret C K dX11_goesOn_50
noncomputable def s_X11_goesOn_16 (fu : Nat) (ih : hM → Option (Int32 × hM)) (m : hM) : Option (Int32 × hM) :=
  hBd (f_X11_isAllDone fu m) fun y5 m6 =>
if ¬ y5 = 0 then (
f_X11_goesOn_44 fu m6) else (
if (gI m6 114 0) < 2399 then (
hBd (f_X11_passes fu m6) fun _ m9 =>
ih m9) else (
some ((-1), m6)))
noncomputable def f_X11_goesOn_16 (fu : Nat) (n : Nat) : hM → Option (Int32 × hM) :=
  Nat.rec (motive := fun _ => hM → Option (Int32 × hM)) (fun _ => none) (fun _ ih => s_X11_goesOn_16 fu ih) n
theorem f_X11_goesOn_16_s (fu : Nat) (n : Nat) (m : hM) : f_X11_goesOn_16 fu (n + 1) m = s_X11_goesOn_16 fu (f_X11_goesOn_16 fu n) m := rfl
set_option maxRecDepth 100000 in
set_option maxHeartbeats 4000000 in
theorem r_X11_goesOn_16 {G : hG} {X : hX} (C : Cx G X 10 cX11_goesOn 2 RX11 (some .int)) (K : Cr G X) (fu : Nat) (n : Nat) : ∀ (m : hM), Rf vI G X 16 [(0, hA G 96)] [] m (f_X11_goesOn_16 fu n m) := by
  induction n with
  | zero => intros; exact rf_none
  | succ n ih =>
    intro m
    show Rf vI G X 16 [(0, hA G 96)] [] m (s_X11_goesOn_16 fu (f_X11_goesOn_16 fu n) m)
    unfold s_X11_goesOn_16
    refine rf_aload_n C (n := 17) (q := 0) dX11_goesOn_16 rfl rfl rfl ?_
    refine rf_callVi C (n := 20) (c_X11_isAllDone G fu _) mw_RX11_313 ly_96 rfl ⟨by decide, by decide⟩ rfl (Nat.le_of_ble_eq_true rfl) rfl dX11_goesOn_17 rfl (fun y5 m6 => ?_)
    refine rf_if_ne C (tgt := 44) (n := 23) dX11_goesOn_20 (by decide) rfl (fun h7 => ?_) (fun h7 => ?_)
    · exact rf_lv _ [0] rfl (r_X11_goesOn_44 C K fu _)
    · refine rf_aload_n C (n := 24) (q := 0) dX11_goesOn_23 rfl rfl rfl ?_
      refine rf_getS C (n := 27) fl_RX11_140 ly_96 rfl dX11_goesOn_24 rfl ?_
      refine rf_iconst C (n := 28) (v := 0) dX11_goesOn_27 rfl (by decide) ?_
      refine rf_iald C (n := 29) (j := 0) ly_114 (by decide) (by decide) dX11_goesOn_28 rfl ?_
      refine rf_sipush C (n := 32) (v := 2399) dX11_goesOn_29 rfl (by decide) ?_
      refine rf_icmp_lt C (tgt := 37) (n := 35) dX11_goesOn_32 (by decide) rfl (fun h8 => ?_) (fun h8 => ?_)
      · refine rf_aload_n C (n := 38) (q := 0) dX11_goesOn_37 rfl rfl rfl ?_
        refine rf_callVv C (n := 41) (c_X11_passes G fu _) mw_RX11_308 ly_96 rfl ⟨by decide, by decide⟩ rfl (Nat.le_of_ble_eq_true rfl) rfl dX11_goesOn_38 rfl (fun _ m9 => ?_)
        refine rf_goto C (n := 16) dX11_goesOn_41 (by decide) ?_
        exact rf_lv _ [0] rfl (ih _)
      · refine rf_iconst C (n := 36) (v := (-1)) dX11_goesOn_35 rfl (by decide) ?_
        exact rf_iret C K dX11_goesOn_36
noncomputable def f_X11_goesOn (fu : Nat) (m : hM) : Option (Int32 × hM) :=
  hLet (gI m 114 0) fun y1 =>
hBd (f_X11_isAllDone fu m) fun y2 m3 =>
if y2 = 0 then (
f_X11_goesOn_16 fu fu m3) else (
some (y1, m3))
set_option maxRecDepth 100000 in
set_option maxHeartbeats 4000000 in
theorem c_X11_goesOn (G : hG) (fu : Nat) (m : hM) : Mt vI G 10 yX11_goesOn cX11_goesOn 2 (some .int) [hA G 96] m (f_X11_goesOn fu m) := by
  refine mt_of (by decide +kernel) (Nat.le_of_ble_eq_true rfl) (fun X C K => ?_)
  have C : Cx G X 10 cX11_goesOn 2 RX11 (some .int) := C
  show Rf vI G X 0 [(0, hA G 96)] [] m _
  unfold f_X11_goesOn
  refine rf_aload_n C (n := 1) (q := 0) dX11_goesOn_0 rfl rfl rfl ?_
  refine rf_getS C (n := 4) fl_RX11_140 ly_96 rfl dX11_goesOn_1 rfl ?_
  refine rf_iconst C (n := 5) (v := 0) dX11_goesOn_4 rfl (by decide) ?_
  refine rf_iald C (n := 6) (j := 0) ly_114 (by decide) (by decide) dX11_goesOn_5 rfl ?_
  refine rf_letI (fun y1 => ?_)
  refine rf_istore_n C (n := 7) [(1, .int y1), (0, hA G 96)] dX11_goesOn_6 rfl rfl (by decide) rfl ?_
  refine rf_aload_n C (n := 8) (q := 1) dX11_goesOn_7 rfl rfl rfl ?_
  refine rf_callVi C (n := 11) (c_X11_isAllDone G fu _) mw_RX11_313 ly_96 rfl ⟨by decide, by decide⟩ rfl (Nat.le_of_ble_eq_true rfl) rfl dX11_goesOn_8 rfl (fun y2 m3 => ?_)
  refine rf_if_eq C (tgt := 16) (n := 14) dX11_goesOn_11 (by decide) rfl (fun h4 => ?_) (fun h4 => ?_)
  · exact rf_lv _ [1] rfl (r_X11_goesOn_16 C K fu fu _)
  · refine rf_iload_n C (n := 15) (q := 0) dX11_goesOn_14 rfl rfl rfl ?_
    exact rf_iret C K dX11_goesOn_15
noncomputable def s_X11_sumOf_4 (fu : Nat) (ih : Int32 → Int32 → Int32 → hM → Option (Int32 × hM)) (x1 : Int32) (x2 : Int32) (x3 : Int32) (m : hM) : Option (Int32 × hM) :=
  if (gI m 96 16) ≤ x3 then (
some (x2, m)) else (
if hIn (x1 + x3) 127 then (
hLet (x2 + (gI m 114 (Int32.toNatClampNeg (x1 + x3)))) fun y3 =>
hLet (x3 + 1) fun y4 =>
ih x1 y3 y4 m) else none)
noncomputable def f_X11_sumOf_4 (fu : Nat) (n : Nat) : Int32 → Int32 → Int32 → hM → Option (Int32 × hM) :=
  Nat.rec (motive := fun _ => Int32 → Int32 → Int32 → hM → Option (Int32 × hM)) (fun _ _ _ _ => none) (fun _ ih => s_X11_sumOf_4 fu ih) n
theorem f_X11_sumOf_4_s (fu : Nat) (n : Nat) (x1 : Int32) (x2 : Int32) (x3 : Int32) (m : hM) : f_X11_sumOf_4 fu (n + 1) x1 x2 x3 m = s_X11_sumOf_4 fu (f_X11_sumOf_4 fu n) x1 x2 x3 m := rfl
set_option maxRecDepth 100000 in
set_option maxHeartbeats 4000000 in
theorem r_X11_sumOf_4 {G : hG} {X : hX} (C : Cx G X 1 cX11_sumOf 4 RX11 (some .int)) (K : Cr G X) (fu : Nat) (n : Nat) : ∀ (x1 : Int32) (x2 : Int32) (x3 : Int32) (m : hM), Rf vI G X 4 [(0, hA G 96), (1, .int x1), (2, .int x2), (3, .int x3)] [] m (f_X11_sumOf_4 fu n x1 x2 x3 m) := by
  induction n with
  | zero => intros; exact rf_none
  | succ n ih =>
    intro x1 x2 x3 m
    show Rf vI G X 4 [(0, hA G 96), (1, .int x1), (2, .int x2), (3, .int x3)] [] m (s_X11_sumOf_4 fu (f_X11_sumOf_4 fu n) x1 x2 x3 m)
    unfold s_X11_sumOf_4
    refine rf_iload_n C (n := 5) (q := 3) dX11_sumOf_4 rfl rfl rfl ?_
    refine rf_aload_n C (n := 6) (q := 0) dX11_sumOf_5 rfl rfl rfl ?_
    refine rf_getI C (n := 9) fl_RX11_151 ly_96 rfl dX11_sumOf_6 rfl ?_
    refine rf_icmp_ge C (tgt := 29) (n := 12) dX11_sumOf_9 (by decide) rfl (fun h1 => ?_) (fun h1 => ?_)
    · refine rf_iload_n C (n := 30) (q := 2) dX11_sumOf_29 rfl rfl rfl ?_
      exact rf_iret C K dX11_sumOf_30
    · refine rf_iload_n C (n := 13) (q := 2) dX11_sumOf_12 rfl rfl rfl ?_
      refine rf_aload_n C (n := 14) (q := 0) dX11_sumOf_13 rfl rfl rfl ?_
      refine rf_getS C (n := 17) fl_RX11_140 ly_96 rfl dX11_sumOf_14 rfl ?_
      refine rf_iload_n C (n := 18) (q := 1) dX11_sumOf_17 rfl rfl rfl ?_
      refine rf_iload_n C (n := 19) (q := 3) dX11_sumOf_18 rfl rfl rfl ?_
      refine rf_iadd C (n := 20) dX11_sumOf_19 rfl ?_
      refine rf_guard (fun h2 => ?_)
      refine rf_iald C (n := 21) ly_114 h2 rfl dX11_sumOf_20 rfl ?_
      refine rf_iadd C (n := 22) dX11_sumOf_21 rfl ?_
      refine rf_letI (fun y3 => ?_)
      refine rf_istore_n C (n := 23) [(2, .int y3), (0, hA G 96), (1, .int x1), (3, .int x3)] dX11_sumOf_22 rfl rfl (by decide) rfl ?_
      refine rf_iinc2 C (n := 26) (q := 3) (fun y4 => [(3, .int y4), (2, .int y3), (0, hA G 96), (1, .int x1)]) dX11_sumOf_23 rfl rfl (by decide) (by decide) (fun _ => rfl) (fun y4 => ?_)
      refine rf_goto C (n := 4) dX11_sumOf_26 (by decide) ?_
      exact rf_lv _ [2, 3, 1, 0] rfl (ih _ _ _ _)
noncomputable def f_X11_sumOf (fu : Nat) (x1 : Int32) (m : hM) : Option (Int32 × hM) :=
  f_X11_sumOf_4 fu fu x1 0 0 m
set_option maxRecDepth 100000 in
set_option maxHeartbeats 4000000 in
theorem c_X11_sumOf (G : hG) (fu : Nat) (x1 : Int32) (m : hM) : Mt vI G 1 yX11_sumOf cX11_sumOf 4 (some .int) [hA G 96, .int x1] m (f_X11_sumOf fu x1 m) := by
  refine mt_of (by decide +kernel) (Nat.le_of_ble_eq_true rfl) (fun X C K => ?_)
  have C : Cx G X 1 cX11_sumOf 4 RX11 (some .int) := C
  show Rf vI G X 0 [(0, hA G 96), (1, .int x1)] [] m _
  unfold f_X11_sumOf
  refine rf_iconst C (n := 1) (v := 0) dX11_sumOf_0 rfl (by decide) ?_
  refine rf_istore_n C (n := 2) [(2, .int 0), (0, hA G 96), (1, .int x1)] dX11_sumOf_1 rfl rfl (by decide) rfl ?_
  refine rf_iconst C (n := 3) (v := 0) dX11_sumOf_2 rfl (by decide) ?_
  refine rf_istore_n C (n := 4) [(3, .int 0), (2, .int 0), (0, hA G 96), (1, .int x1)] dX11_sumOf_3 rfl rfl (by decide) rfl ?_
  exact rf_lv _ [2, 3, 1, 0] rfl (r_X11_sumOf_4 C K fu fu _ _ _ _)
noncomputable def f_X11_tellsEnd_73 (fu : Nat) (x1 : Int32) (x2 : Int32) (x3 : Int32) (x4 : Int32) (m : hM) : Option (Int32 × hM) :=
  hBd (f_X11_sumOf fu 51 m) fun y11 m12 =>
hBd (f_X11_enters fu (Int32.toInt64 (y11 - x1)) m12) fun _ m13 =>
hBd (f_X11_sumOf fu 59 m13) fun y14 m15 =>
hBd (f_X11_enters fu (Int32.toInt64 (y14 - x2)) m15) fun _ m16 =>
hBd (f_X11_enters fu (Int32.toInt64 ((gI m16 114 1) - x3)) m16) fun _ m17 =>
some (x4, m17)
set_option maxRecDepth 100000 in
set_option maxHeartbeats 4000000 in
theorem r_X11_tellsEnd_73 {G : hG} {X : hX} (C : Cx G X 11 cX11_tellsEnd 6 RX11 (some .int)) (K : Cr G X) (fu : Nat) (x1 : Int32) (x2 : Int32) (x3 : Int32) (x4 : Int32) (m : hM) : Rf vI G X 73 [(0, hA G 96), (1, .int x1), (2, .int x2), (3, .int x3), (4, .int x4)] [] m (f_X11_tellsEnd_73 fu x1 x2 x3 x4 m) := by
  unfold f_X11_tellsEnd_73
  refine rf_aload_n C (n := 74) (q := 0) dX11_tellsEnd_73 rfl rfl rfl ?_
  refine rf_aload_n C (n := 75) (q := 0) dX11_tellsEnd_74 rfl rfl rfl ?_
  refine rf_bipush C (n := 77) (v := 51) dX11_tellsEnd_75 rfl (by decide) ?_
  refine rf_callVi C (n := 80) (c_X11_sumOf G fu _ _) mw_RX11_316 ly_96 rfl ⟨by decide, by decide⟩ rfl (Nat.le_of_ble_eq_true rfl) rfl dX11_tellsEnd_77 rfl (fun y11 m12 => ?_)
  refine rf_iload_n C (n := 81) (q := 1) dX11_tellsEnd_80 rfl rfl rfl ?_
  refine rf_isub C (n := 82) dX11_tellsEnd_81 rfl ?_
  refine rf_i2l C (n := 83) dX11_tellsEnd_82 rfl ?_
  refine rf_callVv C (n := 86) (c_X11_enters G fu _ _) mw_RX11_18 ly_96 rfl ⟨by decide, by decide⟩ rfl (Nat.le_of_ble_eq_true rfl) rfl dX11_tellsEnd_83 rfl (fun _ m13 => ?_)
  refine rf_aload_n C (n := 87) (q := 0) dX11_tellsEnd_86 rfl rfl rfl ?_
  refine rf_aload_n C (n := 88) (q := 0) dX11_tellsEnd_87 rfl rfl rfl ?_
  refine rf_bipush C (n := 90) (v := 59) dX11_tellsEnd_88 rfl (by decide) ?_
  refine rf_callVi C (n := 93) (c_X11_sumOf G fu _ _) mw_RX11_316 ly_96 rfl ⟨by decide, by decide⟩ rfl (Nat.le_of_ble_eq_true rfl) rfl dX11_tellsEnd_90 rfl (fun y14 m15 => ?_)
  refine rf_iload_n C (n := 94) (q := 2) dX11_tellsEnd_93 rfl rfl rfl ?_
  refine rf_isub C (n := 95) dX11_tellsEnd_94 rfl ?_
  refine rf_i2l C (n := 96) dX11_tellsEnd_95 rfl ?_
  refine rf_callVv C (n := 99) (c_X11_enters G fu _ _) mw_RX11_18 ly_96 rfl ⟨by decide, by decide⟩ rfl (Nat.le_of_ble_eq_true rfl) rfl dX11_tellsEnd_96 rfl (fun _ m16 => ?_)
  refine rf_aload_n C (n := 100) (q := 0) dX11_tellsEnd_99 rfl rfl rfl ?_
  refine rf_aload_n C (n := 101) (q := 0) dX11_tellsEnd_100 rfl rfl rfl ?_
  refine rf_getS C (n := 104) fl_RX11_140 ly_96 rfl dX11_tellsEnd_101 rfl ?_
  refine rf_iconst C (n := 105) (v := 1) dX11_tellsEnd_104 rfl (by decide) ?_
  refine rf_iald C (n := 106) (j := 1) ly_114 (by decide) (by decide) dX11_tellsEnd_105 rfl ?_
  refine rf_iload_n C (n := 107) (q := 3) dX11_tellsEnd_106 rfl rfl rfl ?_
  refine rf_isub C (n := 108) dX11_tellsEnd_107 rfl ?_
  refine rf_i2l C (n := 109) dX11_tellsEnd_108 rfl ?_
  refine rf_callVv C (n := 112) (c_X11_enters G fu _ _) mw_RX11_18 ly_96 rfl ⟨by decide, by decide⟩ rfl (Nat.le_of_ble_eq_true rfl) rfl dX11_tellsEnd_109 rfl (fun _ m17 => ?_)
  refine rf_iload C (n := 114) (q := 4) dX11_tellsEnd_112 rfl rfl ?_
  exact rf_iret C K dX11_tellsEnd_114
noncomputable def s_X11_tellsEnd_43 (fu : Nat) (ih : Int32 → Int32 → Int32 → Int32 → Int32 → hM → Option (Int32 × hM)) (x1 : Int32) (x2 : Int32) (x3 : Int32) (x4 : Int32) (x5 : Int32) (m : hM) : Option (Int32 × hM) :=
  if (gI m 96 16) ≤ x5 then (
f_X11_tellsEnd_73 fu x1 x2 x3 x4 m) else (
if hIn (35 + x5) 127 then (
hBd (f_X11_enters fu (Int32.toInt64 (gI m 114 (Int32.toNatClampNeg (35 + x5)))) m) fun _ m19 =>
hLet (x5 + 1) fun y20 =>
ih x1 x2 x3 x4 y20 m19) else none)
noncomputable def f_X11_tellsEnd_43 (fu : Nat) (n : Nat) : Int32 → Int32 → Int32 → Int32 → Int32 → hM → Option (Int32 × hM) :=
  Nat.rec (motive := fun _ => Int32 → Int32 → Int32 → Int32 → Int32 → hM → Option (Int32 × hM)) (fun _ _ _ _ _ _ => none) (fun _ ih => s_X11_tellsEnd_43 fu ih) n
theorem f_X11_tellsEnd_43_s (fu : Nat) (n : Nat) (x1 : Int32) (x2 : Int32) (x3 : Int32) (x4 : Int32) (x5 : Int32) (m : hM) : f_X11_tellsEnd_43 fu (n + 1) x1 x2 x3 x4 x5 m = s_X11_tellsEnd_43 fu (f_X11_tellsEnd_43 fu n) x1 x2 x3 x4 x5 m := rfl
set_option maxRecDepth 100000 in
set_option maxHeartbeats 4000000 in
theorem r_X11_tellsEnd_43 {G : hG} {X : hX} (C : Cx G X 11 cX11_tellsEnd 6 RX11 (some .int)) (K : Cr G X) (fu : Nat) (n : Nat) : ∀ (x1 : Int32) (x2 : Int32) (x3 : Int32) (x4 : Int32) (x5 : Int32) (m : hM), Rf vI G X 43 [(0, hA G 96), (1, .int x1), (2, .int x2), (3, .int x3), (4, .int x4), (5, .int x5)] [] m (f_X11_tellsEnd_43 fu n x1 x2 x3 x4 x5 m) := by
  induction n with
  | zero => intros; exact rf_none
  | succ n ih =>
    intro x1 x2 x3 x4 x5 m
    show Rf vI G X 43 [(0, hA G 96), (1, .int x1), (2, .int x2), (3, .int x3), (4, .int x4), (5, .int x5)] [] m (s_X11_tellsEnd_43 fu (f_X11_tellsEnd_43 fu n) x1 x2 x3 x4 x5 m)
    unfold s_X11_tellsEnd_43
    refine rf_iload C (n := 45) (q := 5) dX11_tellsEnd_43 rfl rfl ?_
    refine rf_aload_n C (n := 46) (q := 0) dX11_tellsEnd_45 rfl rfl rfl ?_
    refine rf_getI C (n := 49) fl_RX11_151 ly_96 rfl dX11_tellsEnd_46 rfl ?_
    refine rf_icmp_ge C (tgt := 73) (n := 52) dX11_tellsEnd_49 (by decide) rfl (fun h10 => ?_) (fun h10 => ?_)
    · exact rf_lv _ [0, 1, 2, 3, 4] rfl (r_X11_tellsEnd_73 C K fu _ _ _ _ _)
    · refine rf_aload_n C (n := 53) (q := 0) dX11_tellsEnd_52 rfl rfl rfl ?_
      refine rf_aload_n C (n := 54) (q := 0) dX11_tellsEnd_53 rfl rfl rfl ?_
      refine rf_getS C (n := 57) fl_RX11_140 ly_96 rfl dX11_tellsEnd_54 rfl ?_
      refine rf_bipush C (n := 59) (v := 35) dX11_tellsEnd_57 rfl (by decide) ?_
      refine rf_iload C (n := 61) (q := 5) dX11_tellsEnd_59 rfl rfl ?_
      refine rf_iadd C (n := 62) dX11_tellsEnd_61 rfl ?_
      refine rf_guard (fun h18 => ?_)
      refine rf_iald C (n := 63) ly_114 h18 rfl dX11_tellsEnd_62 rfl ?_
      refine rf_i2l C (n := 64) dX11_tellsEnd_63 rfl ?_
      refine rf_callVv C (n := 67) (c_X11_enters G fu _ _) mw_RX11_18 ly_96 rfl ⟨by decide, by decide⟩ rfl (Nat.le_of_ble_eq_true rfl) rfl dX11_tellsEnd_64 rfl (fun _ m19 => ?_)
      refine rf_iinc2 C (n := 70) (q := 5) (fun y20 => [(5, .int y20), (0, hA G 96), (1, .int x1), (2, .int x2), (3, .int x3), (4, .int x4)]) dX11_tellsEnd_67 rfl rfl (by decide) (by decide) (fun _ => rfl) (fun y20 => ?_)
      refine rf_goto C (n := 43) dX11_tellsEnd_70 (by decide) ?_
      exact rf_lv _ [1, 2, 3, 4, 5, 0] rfl (ih _ _ _ _ _ _)
noncomputable def f_X11_tellsEnd (fu : Nat) (m : hM) : Option (Int32 × hM) :=
  hBd (f_X11_sumOf fu 51 m) fun y1 m2 =>
hBd (f_X11_sumOf fu 59 m2) fun y3 m4 =>
hLet (gI m4 114 1) fun y5 =>
hBd (f_X11_goesOn fu m4) fun y6 m7 =>
if 0 ≤ y6 then (
hLet (sI m7 96 1 0) fun m9 =>
f_X11_tellsEnd_43 fu fu y1 y3 y5 y6 0 m9) else (
some ((-2), m7))
set_option maxRecDepth 100000 in
set_option maxHeartbeats 4000000 in
theorem c_X11_tellsEnd (G : hG) (fu : Nat) (m : hM) : Mt vI G 11 yX11_tellsEnd cX11_tellsEnd 6 (some .int) [hA G 96] m (f_X11_tellsEnd fu m) := by
  refine mt_of (by decide +kernel) (Nat.le_of_ble_eq_true rfl) (fun X C K => ?_)
  have C : Cx G X 11 cX11_tellsEnd 6 RX11 (some .int) := C
  show Rf vI G X 0 [(0, hA G 96)] [] m _
  unfold f_X11_tellsEnd
  refine rf_aload_n C (n := 1) (q := 0) dX11_tellsEnd_0 rfl rfl rfl ?_
  refine rf_bipush C (n := 3) (v := 51) dX11_tellsEnd_1 rfl (by decide) ?_
  refine rf_callVi C (n := 6) (c_X11_sumOf G fu _ _) mw_RX11_316 ly_96 rfl ⟨by decide, by decide⟩ rfl (Nat.le_of_ble_eq_true rfl) rfl dX11_tellsEnd_3 rfl (fun y1 m2 => ?_)
  refine rf_istore_n C (n := 7) [(1, .int y1), (0, hA G 96)] dX11_tellsEnd_6 rfl rfl (by decide) rfl ?_
  refine rf_aload_n C (n := 8) (q := 1) dX11_tellsEnd_7 rfl rfl rfl ?_
  refine rf_bipush C (n := 10) (v := 59) dX11_tellsEnd_8 rfl (by decide) ?_
  refine rf_callVi C (n := 13) (c_X11_sumOf G fu _ _) mw_RX11_316 ly_96 rfl ⟨by decide, by decide⟩ rfl (Nat.le_of_ble_eq_true rfl) rfl dX11_tellsEnd_10 rfl (fun y3 m4 => ?_)
  refine rf_istore_n C (n := 14) [(2, .int y3), (1, .int y1), (0, hA G 96)] dX11_tellsEnd_13 rfl rfl (by decide) rfl ?_
  refine rf_aload_n C (n := 15) (q := 2) dX11_tellsEnd_14 rfl rfl rfl ?_
  refine rf_getS C (n := 18) fl_RX11_140 ly_96 rfl dX11_tellsEnd_15 rfl ?_
  refine rf_iconst C (n := 19) (v := 1) dX11_tellsEnd_18 rfl (by decide) ?_
  refine rf_iald C (n := 20) (j := 1) ly_114 (by decide) (by decide) dX11_tellsEnd_19 rfl ?_
  refine rf_letI (fun y5 => ?_)
  refine rf_istore_n C (n := 21) [(3, .int y5), (2, .int y3), (1, .int y1), (0, hA G 96)] dX11_tellsEnd_20 rfl rfl (by decide) rfl ?_
  refine rf_aload_n C (n := 22) (q := 3) dX11_tellsEnd_21 rfl rfl rfl ?_
  refine rf_callVi C (n := 25) (c_X11_goesOn G fu _) mw_RX11_319 ly_96 rfl ⟨by decide, by decide⟩ rfl (Nat.le_of_ble_eq_true rfl) rfl dX11_tellsEnd_22 rfl (fun y6 m7 => ?_)
  refine rf_istore C (n := 27) [(4, .int y6), (3, .int y5), (2, .int y3), (1, .int y1), (0, hA G 96)] dX11_tellsEnd_25 rfl (by decide) rfl ?_
  refine rf_iload C (n := 29) (q := 0) dX11_tellsEnd_27 rfl rfl ?_
  refine rf_if_ge C (tgt := 35) (n := 32) dX11_tellsEnd_29 (by decide) rfl (fun h8 => ?_) (fun h8 => ?_)
  · refine rf_aload_n C (n := 36) (q := 4) dX11_tellsEnd_35 rfl rfl rfl ?_
    refine rf_iconst C (n := 37) (v := 0) dX11_tellsEnd_36 rfl (by decide) ?_
    refine rf_putI C (n := 40) pl_RX11_11 ly_96 rfl ⟨rfl, rfl⟩ dX11_tellsEnd_37 rfl ?_
    refine rf_letM (fun m9 => ?_)
    refine rf_iconst C (n := 41) (v := 0) dX11_tellsEnd_40 rfl (by decide) ?_
    refine rf_istore C (n := 43) [(5, .int 0), (4, .int y6), (3, .int y5), (2, .int y3), (1, .int y1), (0, hA G 96)] dX11_tellsEnd_41 rfl (by decide) rfl ?_
    exact rf_lv _ [5, 4, 3, 2, 1, 0] rfl (r_X11_tellsEnd_43 C K fu fu _ _ _ _ _ _)
  · refine rf_bipush C (n := 34) (v := (-2)) dX11_tellsEnd_32 rfl (by decide) ?_
    exact rf_iret C K dX11_tellsEnd_34
noncomputable def f_X11_ends (fu : Nat) (m : hM) : Option (Int32 × hM) :=
  hLet (sI m 96 0 0) fun m1 =>
if ¬ (gI m1 96 16) = 0 then (
hBd (f_X11_putsBy fu m1) fun _ m3 =>
hBd (f_X11_tellsEnd fu m3) fun y4 m5 =>
hBd (f_X11_takesBack fu m5) fun _ m6 =>
some (y4, m6)) else (
some ((-1), m1))
set_option maxRecDepth 100000 in
set_option maxHeartbeats 4000000 in
theorem c_X11_ends (G : hG) (fu : Nat) (m : hM) : Mt vI G 12 yX11_ends cX11_ends 2 (some .int) [hA G 96] m (f_X11_ends fu m) := by
  refine mt_of (by decide +kernel) (Nat.le_of_ble_eq_true rfl) (fun X C K => ?_)
  have C : Cx G X 12 cX11_ends 2 RX11 (some .int) := C
  show Rf vI G X 0 [(0, hA G 96)] [] m _
  unfold f_X11_ends
  refine rf_aload_n C (n := 1) (q := 0) dX11_ends_0 rfl rfl rfl ?_
  refine rf_iconst C (n := 2) (v := 0) dX11_ends_1 rfl (by decide) ?_
  refine rf_putI C (n := 5) pl_RX11_3 ly_96 rfl ⟨rfl, rfl⟩ dX11_ends_2 rfl ?_
  refine rf_letM (fun m1 => ?_)
  refine rf_aload_n C (n := 6) (q := 0) dX11_ends_5 rfl rfl rfl ?_
  refine rf_getI C (n := 9) fl_RX11_151 ly_96 rfl dX11_ends_6 rfl ?_
  refine rf_if_ne C (tgt := 14) (n := 12) dX11_ends_9 (by decide) rfl (fun h2 => ?_) (fun h2 => ?_)
  · refine rf_aload_n C (n := 15) (q := 0) dX11_ends_14 rfl rfl rfl ?_
    refine rf_aload_n C (n := 16) (q := 0) dX11_ends_15 rfl rfl rfl ?_
    refine rf_getS C (n := 19) fl_RX11_322 ly_96 rfl dX11_ends_16 rfl ?_
    refine rf_callVv C (n := 22) (c_X11_putsBy G fu _) mw_RX11_325 ly_96 rfl ⟨by decide, by decide⟩ rfl (Nat.le_of_ble_eq_true rfl) rfl dX11_ends_19 rfl (fun _ m3 => ?_)
    refine rf_aload_n C (n := 23) (q := 0) dX11_ends_22 rfl rfl rfl ?_
    refine rf_callVi C (n := 26) (c_X11_tellsEnd G fu _) mw_RX11_329 ly_96 rfl ⟨by decide, by decide⟩ rfl (Nat.le_of_ble_eq_true rfl) rfl dX11_ends_23 rfl (fun y4 m5 => ?_)
    refine rf_istore_n C (n := 27) [(1, .int y4), (0, hA G 96)] dX11_ends_26 rfl rfl (by decide) rfl ?_
    refine rf_aload_n C (n := 28) (q := 1) dX11_ends_27 rfl rfl rfl ?_
    refine rf_aload_n C (n := 29) (q := 1) dX11_ends_28 rfl rfl rfl ?_
    refine rf_getS C (n := 32) fl_RX11_322 ly_96 rfl dX11_ends_29 rfl ?_
    refine rf_callVv C (n := 35) (c_X11_takesBack G fu _) mw_RX11_332 ly_96 rfl ⟨by decide, by decide⟩ rfl (Nat.le_of_ble_eq_true rfl) rfl dX11_ends_32 rfl (fun _ m6 => ?_)
    refine rf_iload_n C (n := 36) (q := 0) dX11_ends_35 rfl rfl rfl ?_
    exact rf_iret C K dX11_ends_36
  · refine rf_iconst C (n := 13) (v := (-1)) dX11_ends_12 rfl (by decide) ?_
    exact rf_iret C K dX11_ends_13
noncomputable def f_X11_judge_220 (fu : Nat) (x1 : Int32) (m : hM) : Option (Int32 × hM) :=
  hBd (f_X11_takesBack fu m) fun _ m5 =>
some (x1, m5)
set_option maxRecDepth 100000 in
set_option maxHeartbeats 4000000 in
theorem r_X11_judge_220 {G : hG} {X : hX} (C : Cx G X 9 cX11_judge 5 RX11 (some .int)) (K : Cr G X) (fu : Nat) (x1 : Int32) (m : hM) : Rf vI G X 220 [(0, hA G 96), (1, .int x1)] [] m (f_X11_judge_220 fu x1 m) := by
  unfold f_X11_judge_220
  refine rf_aload_n C (n := 221) (q := 0) dX11_judge_220 rfl rfl rfl ?_
  refine rf_aload_n C (n := 222) (q := 0) dX11_judge_221 rfl rfl rfl ?_
  refine rf_getS C (n := 225) fl_RX11_322 ly_96 rfl dX11_judge_222 rfl ?_
  refine rf_callVv C (n := 228) (c_X11_takesBack G fu _) mw_RX11_332 ly_96 rfl ⟨by decide, by decide⟩ rfl (Nat.le_of_ble_eq_true rfl) rfl dX11_judge_225 rfl (fun _ m5 => ?_)
  refine rf_iload_n C (n := 229) (q := 1) dX11_judge_228 rfl rfl rfl ?_
  exact rf_iret C K dX11_judge_229
noncomputable def f_X11_judge_203 (fu : Nat) (k25 : Int32 → hM → Option (Int32 × hM)) (x1 : Int32) (m : hM) : Option (Int32 × hM) :=
  hBd (f_X11_closes fu m) fun _ m13 =>
hLet (sI m13 114 0 ((gI m13 114 0) + 1)) fun m14 =>
k25 x1 m14
set_option maxRecDepth 100000 in
set_option maxHeartbeats 4000000 in
theorem r_X11_judge_203 {G : hG} {X : hX} (C : Cx G X 9 cX11_judge 5 RX11 (some .int)) (K : Cr G X) (fu : Nat) (k25 : Int32 → hM → Option (Int32 × hM)) (hk25 : ∀ (x1 : Int32) (m : hM), Rf vI G X 25 [(0, hA G 96), (1, .int x1)] [] m (k25 x1 m)) (x1 : Int32) (m : hM) : Rf vI G X 203 [(0, hA G 96), (1, .int x1)] [] m (f_X11_judge_203 fu k25 x1 m) := by
  unfold f_X11_judge_203
  refine rf_aload_n C (n := 204) (q := 0) dX11_judge_203 rfl rfl rfl ?_
  refine rf_callVv C (n := 207) (c_X11_closes G fu _) mw_RX11_300 ly_96 rfl ⟨by decide, by decide⟩ rfl (Nat.le_of_ble_eq_true rfl) rfl dX11_judge_204 rfl (fun _ m13 => ?_)
  refine rf_aload_n C (n := 208) (q := 0) dX11_judge_207 rfl rfl rfl ?_
  refine rf_getS C (n := 211) fl_RX11_140 ly_96 rfl dX11_judge_208 rfl ?_
  refine rf_iconst C (n := 212) (v := 0) dX11_judge_211 rfl (by decide) ?_
  refine rf_dup2 C (n := 213) dX11_judge_212 rfl rfl rfl ?_
  refine rf_iald C (n := 214) (j := 0) ly_114 (by decide) (by decide) dX11_judge_213 rfl ?_
  refine rf_iconst C (n := 215) (v := 1) dX11_judge_214 rfl (by decide) ?_
  refine rf_iadd C (n := 216) dX11_judge_215 rfl ?_
  refine rf_iast C (n := 217) (j0 := 0) ly_114 (by decide) (by decide) dX11_judge_216 rfl ?_
  refine rf_letM (fun m14 => ?_)
  refine rf_goto C (n := 25) dX11_judge_217 (by decide) ?_
  exact rf_lv _ [0, 1] rfl (hk25 _ _)
noncomputable def f_X11_judge_197 (fu : Nat) (k25 : Int32 → hM → Option (Int32 × hM)) (k61 : Int32 → Int32 → Int32 → hM → Option (Int32 × hM)) (x1 : Int32) (x2 : Int32) (x3 : Int32) (m : hM) : Option (Int32 × hM) :=
  hLet (x3 + 1) fun y19 =>
k61 x1 x2 y19 m
set_option maxRecDepth 100000 in
set_option maxHeartbeats 4000000 in
theorem r_X11_judge_197 {G : hG} {X : hX} (C : Cx G X 9 cX11_judge 5 RX11 (some .int)) (K : Cr G X) (fu : Nat) (k25 : Int32 → hM → Option (Int32 × hM)) (hk25 : ∀ (x1 : Int32) (m : hM), Rf vI G X 25 [(0, hA G 96), (1, .int x1)] [] m (k25 x1 m)) (k61 : Int32 → Int32 → Int32 → hM → Option (Int32 × hM)) (hk61 : ∀ (x1 : Int32) (x2 : Int32) (x3 : Int32) (m : hM), Rf vI G X 61 [(0, hA G 96), (1, .int x1), (2, .int x2), (3, .int x3)] [] m (k61 x1 x2 x3 m)) (x1 : Int32) (x2 : Int32) (x3 : Int32) (m : hM) : Rf vI G X 197 [(0, hA G 96), (1, .int x1), (2, .int x2), (3, .int x3)] [] m (f_X11_judge_197 fu k25 k61 x1 x2 x3 m) := by
  unfold f_X11_judge_197
  refine rf_iinc2 C (n := 200) (q := 3) (fun y19 => [(3, .int y19), (0, hA G 96), (1, .int x1), (2, .int x2)]) dX11_judge_197 rfl rfl (by decide) (by decide) (fun _ => rfl) (fun y19 => ?_)
  refine rf_goto C (n := 61) dX11_judge_200 (by decide) ?_
  exact rf_lv _ [1, 2, 3, 0] rfl (hk61 _ _ _ _)
noncomputable def f_X11_judge_191 (fu : Nat) (k25 : Int32 → hM → Option (Int32 × hM)) (k61 : Int32 → Int32 → Int32 → hM → Option (Int32 × hM)) (k112 : Int32 → Int32 → Int32 → Int32 → hM → Option (Int32 × hM)) (x1 : Int32) (x2 : Int32) (x3 : Int32) (x4 : Int32) (m : hM) : Option (Int32 × hM) :=
  hLet (x4 + 1) fun y31 =>
k112 x1 x2 x3 y31 m
set_option maxRecDepth 100000 in
set_option maxHeartbeats 4000000 in
theorem r_X11_judge_191 {G : hG} {X : hX} (C : Cx G X 9 cX11_judge 5 RX11 (some .int)) (K : Cr G X) (fu : Nat) (k25 : Int32 → hM → Option (Int32 × hM)) (hk25 : ∀ (x1 : Int32) (m : hM), Rf vI G X 25 [(0, hA G 96), (1, .int x1)] [] m (k25 x1 m)) (k61 : Int32 → Int32 → Int32 → hM → Option (Int32 × hM)) (hk61 : ∀ (x1 : Int32) (x2 : Int32) (x3 : Int32) (m : hM), Rf vI G X 61 [(0, hA G 96), (1, .int x1), (2, .int x2), (3, .int x3)] [] m (k61 x1 x2 x3 m)) (k112 : Int32 → Int32 → Int32 → Int32 → hM → Option (Int32 × hM)) (hk112 : ∀ (x1 : Int32) (x2 : Int32) (x3 : Int32) (x4 : Int32) (m : hM), Rf vI G X 112 [(0, hA G 96), (1, .int x1), (2, .int x2), (3, .int x3), (4, .int x4)] [] m (k112 x1 x2 x3 x4 m)) (x1 : Int32) (x2 : Int32) (x3 : Int32) (x4 : Int32) (m : hM) : Rf vI G X 191 [(0, hA G 96), (1, .int x1), (2, .int x2), (3, .int x3), (4, .int x4)] [] m (f_X11_judge_191 fu k25 k61 k112 x1 x2 x3 x4 m) := by
  unfold f_X11_judge_191
  refine rf_iinc2 C (n := 194) (q := 4) (fun y31 => [(4, .int y31), (0, hA G 96), (1, .int x1), (2, .int x2), (3, .int x3)]) dX11_judge_191 rfl rfl (by decide) (by decide) (fun _ => rfl) (fun y31 => ?_)
  refine rf_goto C (n := 112) dX11_judge_194 (by decide) ?_
  exact rf_lv _ [1, 2, 3, 4, 0] rfl (hk112 _ _ _ _ _)
noncomputable def s_X11_judge_112 (fu : Nat) (k25 : Int32 → hM → Option (Int32 × hM)) (k61 : Int32 → Int32 → Int32 → hM → Option (Int32 × hM)) (ih : Int32 → Int32 → Int32 → Int32 → hM → Option (Int32 × hM)) (x1 : Int32) (x2 : Int32) (x3 : Int32) (x4 : Int32) (m : hM) : Option (Int32 × hM) :=
  if (gI m 96 3) ≤ x4 then (
f_X11_judge_197 fu k25 k61 x1 x2 x3 m) else (
if 0 ≤ x1 then (
f_X11_judge_197 fu k25 k61 x1 x2 x3 m) else (
hBd (f_X11_isOpen fu x4 x2 m) fun y28 m29 =>
if y28 = 0 then (
f_X11_judge_191 fu k25 k61 ih x1 x2 x3 x4 m29) else (
if hIn x4 6 then (
if hIn x3 8 then (
hBd (f_X11_has fu (gI m29 103 (Int32.toNatClampNeg x4)) (gI m29 108 (Int32.toNatClampNeg x3)) m29) fun y34 m35 =>
if y34 = 0 then (
f_X11_judge_191 fu k25 k61 ih x1 x2 x3 x4 m35) else (
if hIn x4 6 then (
if hIn x4 6 then (
if (gI m35 102 (Int32.toNatClampNeg x4)) ≤ (gI m35 120 (Int32.toNatClampNeg x4)) then (
f_X11_judge_191 fu k25 k61 ih x1 x2 x3 x4 m35) else (
hLet (sI m35 96 1 0) fun m40 =>
hBd (f_X11_enters fu (Int32.toInt64 x3) m40) fun _ m41 =>
hBd (f_X11_enters fu (Int32.toInt64 x4) m41) fun _ m42 =>
f_X11_judge_191 fu k25 k61 ih x2 x2 x3 x4 m42)) else none) else none)) else none) else none)))
noncomputable def f_X11_judge_112 (fu : Nat) (k25 : Int32 → hM → Option (Int32 × hM)) (k61 : Int32 → Int32 → Int32 → hM → Option (Int32 × hM)) (n : Nat) : Int32 → Int32 → Int32 → Int32 → hM → Option (Int32 × hM) :=
  Nat.rec (motive := fun _ => Int32 → Int32 → Int32 → Int32 → hM → Option (Int32 × hM)) (fun _ _ _ _ _ => none) (fun _ ih => s_X11_judge_112 fu k25 k61 ih) n
theorem f_X11_judge_112_s (fu : Nat) (k25 : Int32 → hM → Option (Int32 × hM)) (k61 : Int32 → Int32 → Int32 → hM → Option (Int32 × hM)) (n : Nat) (x1 : Int32) (x2 : Int32) (x3 : Int32) (x4 : Int32) (m : hM) : f_X11_judge_112 fu k25 k61 (n + 1) x1 x2 x3 x4 m = s_X11_judge_112 fu k25 k61 (f_X11_judge_112 fu k25 k61 n) x1 x2 x3 x4 m := rfl
set_option maxRecDepth 100000 in
set_option maxHeartbeats 4000000 in
theorem r_X11_judge_112 {G : hG} {X : hX} (C : Cx G X 9 cX11_judge 5 RX11 (some .int)) (K : Cr G X) (fu : Nat) (k25 : Int32 → hM → Option (Int32 × hM)) (hk25 : ∀ (x1 : Int32) (m : hM), Rf vI G X 25 [(0, hA G 96), (1, .int x1)] [] m (k25 x1 m)) (k61 : Int32 → Int32 → Int32 → hM → Option (Int32 × hM)) (hk61 : ∀ (x1 : Int32) (x2 : Int32) (x3 : Int32) (m : hM), Rf vI G X 61 [(0, hA G 96), (1, .int x1), (2, .int x2), (3, .int x3)] [] m (k61 x1 x2 x3 m)) (n : Nat) : ∀ (x1 : Int32) (x2 : Int32) (x3 : Int32) (x4 : Int32) (m : hM), Rf vI G X 112 [(0, hA G 96), (1, .int x1), (2, .int x2), (3, .int x3), (4, .int x4)] [] m (f_X11_judge_112 fu k25 k61 n x1 x2 x3 x4 m) := by
  induction n with
  | zero => intros; exact rf_none
  | succ n ih =>
    intro x1 x2 x3 x4 m
    show Rf vI G X 112 [(0, hA G 96), (1, .int x1), (2, .int x2), (3, .int x3), (4, .int x4)] [] m (s_X11_judge_112 fu k25 k61 (f_X11_judge_112 fu k25 k61 n) x1 x2 x3 x4 m)
    unfold s_X11_judge_112
    refine rf_iload C (n := 114) (q := 4) dX11_judge_112 rfl rfl ?_
    refine rf_aload_n C (n := 115) (q := 0) dX11_judge_114 rfl rfl rfl ?_
    refine rf_getI C (n := 118) fl_RX11_22 ly_96 rfl dX11_judge_115 rfl ?_
    refine rf_icmp_ge C (tgt := 197) (n := 121) dX11_judge_118 (by decide) rfl (fun h26 => ?_) (fun h26 => ?_)
    · exact rf_lv _ [0, 1, 2, 3] rfl (r_X11_judge_197 C K fu _ hk25 _ hk61 _ _ _ _)
    · refine rf_iload_n C (n := 122) (q := 1) dX11_judge_121 rfl rfl rfl ?_
      refine rf_if_ge C (tgt := 197) (n := 125) dX11_judge_122 (by decide) rfl (fun h27 => ?_) (fun h27 => ?_)
      · exact rf_lv _ [0, 1, 2, 3] rfl (r_X11_judge_197 C K fu _ hk25 _ hk61 _ _ _ _)
      · refine rf_aload_n C (n := 126) (q := 0) dX11_judge_125 rfl rfl rfl ?_
        refine rf_iload C (n := 128) (q := 4) dX11_judge_126 rfl rfl ?_
        refine rf_iload_n C (n := 129) (q := 2) dX11_judge_128 rfl rfl rfl ?_
        refine rf_callVi C (n := 132) (c_X11_isOpen G fu _ _ _) mw_RX11_120 ly_96 rfl ⟨by decide, by decide⟩ rfl (Nat.le_of_ble_eq_true rfl) rfl dX11_judge_129 rfl (fun y28 m29 => ?_)
        refine rf_if_eq C (tgt := 191) (n := 135) dX11_judge_132 (by decide) rfl (fun h30 => ?_) (fun h30 => ?_)
        · exact rf_lv _ [0, 1, 2, 3, 4] rfl (r_X11_judge_191 C K fu _ hk25 _ hk61 _ ih _ _ _ _ _)
        · refine rf_aload_n C (n := 136) (q := 0) dX11_judge_135 rfl rfl rfl ?_
          refine rf_getS C (n := 139) fl_RX11_47 ly_96 rfl dX11_judge_136 rfl ?_
          refine rf_iload C (n := 141) (q := 4) dX11_judge_139 rfl rfl ?_
          refine rf_guard (fun h32 => ?_)
          refine rf_iald C (n := 142) ly_103 h32 rfl dX11_judge_141 rfl ?_
          refine rf_aload_n C (n := 143) (q := 0) dX11_judge_142 rfl rfl rfl ?_
          refine rf_getS C (n := 146) fl_RX11_154 ly_96 rfl dX11_judge_143 rfl ?_
          refine rf_iload_n C (n := 147) (q := 3) dX11_judge_146 rfl rfl rfl ?_
          refine rf_guard (fun h33 => ?_)
          refine rf_iald C (n := 148) ly_108 h33 rfl dX11_judge_147 rfl ?_
          refine rf_callSi C (n := 151) (c_X11_has G fu _ _ _) sw_RX11_137 ⟨by decide, by decide⟩ rfl (Nat.le_of_ble_eq_true rfl) rfl dX11_judge_148 rfl (fun y34 m35 => ?_)
          refine rf_if_eq C (tgt := 191) (n := 154) dX11_judge_151 (by decide) rfl (fun h36 => ?_) (fun h36 => ?_)
          · exact rf_lv _ [0, 1, 2, 3, 4] rfl (r_X11_judge_191 C K fu _ hk25 _ hk61 _ ih _ _ _ _ _)
          · refine rf_aload_n C (n := 155) (q := 0) dX11_judge_154 rfl rfl rfl ?_
            refine rf_getS C (n := 158) fl_RX11_287 ly_96 rfl dX11_judge_155 rfl ?_
            refine rf_iload C (n := 160) (q := 4) dX11_judge_158 rfl rfl ?_
            refine rf_guard (fun h37 => ?_)
            refine rf_iald C (n := 161) ly_120 h37 rfl dX11_judge_160 rfl ?_
            refine rf_aload_n C (n := 162) (q := 0) dX11_judge_161 rfl rfl rfl ?_
            refine rf_getS C (n := 165) fl_RX11_44 ly_96 rfl dX11_judge_162 rfl ?_
            refine rf_iload C (n := 167) (q := 4) dX11_judge_165 rfl rfl ?_
            refine rf_guard (fun h38 => ?_)
            refine rf_iald C (n := 168) ly_102 h38 rfl dX11_judge_167 rfl ?_
            refine rf_icmp_ge C (tgt := 191) (n := 171) dX11_judge_168 (by decide) rfl (fun h39 => ?_) (fun h39 => ?_)
            · exact rf_lv _ [0, 1, 2, 3, 4] rfl (r_X11_judge_191 C K fu _ hk25 _ hk61 _ ih _ _ _ _ _)
            · refine rf_iload_n C (n := 172) (q := 2) dX11_judge_171 rfl rfl rfl ?_
              refine rf_istore_n C (n := 173) [(1, .int x2), (0, hA G 96), (2, .int x2), (3, .int x3), (4, .int x4)] dX11_judge_172 rfl rfl (by decide) rfl ?_
              refine rf_aload_n C (n := 174) (q := 1) dX11_judge_173 rfl rfl rfl ?_
              refine rf_iconst C (n := 175) (v := 0) dX11_judge_174 rfl (by decide) ?_
              refine rf_putI C (n := 178) pl_RX11_11 ly_96 rfl ⟨rfl, rfl⟩ dX11_judge_175 rfl ?_
              refine rf_letM (fun m40 => ?_)
              refine rf_aload_n C (n := 179) (q := 1) dX11_judge_178 rfl rfl rfl ?_
              refine rf_iload_n C (n := 180) (q := 3) dX11_judge_179 rfl rfl rfl ?_
              refine rf_i2l C (n := 181) dX11_judge_180 rfl ?_
              refine rf_callVv C (n := 184) (c_X11_enters G fu _ _) mw_RX11_18 ly_96 rfl ⟨by decide, by decide⟩ rfl (Nat.le_of_ble_eq_true rfl) rfl dX11_judge_181 rfl (fun _ m41 => ?_)
              refine rf_aload_n C (n := 185) (q := 1) dX11_judge_184 rfl rfl rfl ?_
              refine rf_iload C (n := 187) (q := 4) dX11_judge_185 rfl rfl ?_
              refine rf_i2l C (n := 188) dX11_judge_187 rfl ?_
              refine rf_callVv C (n := 191) (c_X11_enters G fu _ _) mw_RX11_18 ly_96 rfl ⟨by decide, by decide⟩ rfl (Nat.le_of_ble_eq_true rfl) rfl dX11_judge_188 rfl (fun _ m42 => ?_)
              exact rf_lv _ [1, 0, 2, 3, 4] rfl (r_X11_judge_191 C K fu _ hk25 _ hk61 _ ih _ _ _ _ _)
noncomputable def s_X11_judge_61 (fu : Nat) (k25 : Int32 → hM → Option (Int32 × hM)) (ih : Int32 → Int32 → Int32 → hM → Option (Int32 × hM)) (x1 : Int32) (x2 : Int32) (x3 : Int32) (m : hM) : Option (Int32 × hM) :=
  if (gI m 96 16) ≤ x3 then (
f_X11_judge_203 fu k25 x1 m) else (
if 0 ≤ x1 then (
f_X11_judge_203 fu k25 x1 m) else (
hBd (f_X11_has fu (gI m 96 34) x3 m) fun y16 m17 =>
if y16 = 0 then (
f_X11_judge_197 fu k25 ih x1 x2 x3 m17) else (
hBd (f_X11_has fu (gI m17 96 35) x3 m17) fun y20 m21 =>
if ¬ y20 = 0 then (
f_X11_judge_197 fu k25 ih x1 x2 x3 m21) else (
hBd (f_X11_has fu (gI m21 96 36) x3 m21) fun y23 m24 =>
if y23 = 0 then (
f_X11_judge_112 fu k25 ih fu x1 x2 x3 0 m24) else (
f_X11_judge_197 fu k25 ih x1 x2 x3 m24)))))
noncomputable def f_X11_judge_61 (fu : Nat) (k25 : Int32 → hM → Option (Int32 × hM)) (n : Nat) : Int32 → Int32 → Int32 → hM → Option (Int32 × hM) :=
  Nat.rec (motive := fun _ => Int32 → Int32 → Int32 → hM → Option (Int32 × hM)) (fun _ _ _ _ => none) (fun _ ih => s_X11_judge_61 fu k25 ih) n
theorem f_X11_judge_61_s (fu : Nat) (k25 : Int32 → hM → Option (Int32 × hM)) (n : Nat) (x1 : Int32) (x2 : Int32) (x3 : Int32) (m : hM) : f_X11_judge_61 fu k25 (n + 1) x1 x2 x3 m = s_X11_judge_61 fu k25 (f_X11_judge_61 fu k25 n) x1 x2 x3 m := rfl
set_option maxRecDepth 100000 in
set_option maxHeartbeats 4000000 in
theorem r_X11_judge_61 {G : hG} {X : hX} (C : Cx G X 9 cX11_judge 5 RX11 (some .int)) (K : Cr G X) (fu : Nat) (k25 : Int32 → hM → Option (Int32 × hM)) (hk25 : ∀ (x1 : Int32) (m : hM), Rf vI G X 25 [(0, hA G 96), (1, .int x1)] [] m (k25 x1 m)) (n : Nat) : ∀ (x1 : Int32) (x2 : Int32) (x3 : Int32) (m : hM), Rf vI G X 61 [(0, hA G 96), (1, .int x1), (2, .int x2), (3, .int x3)] [] m (f_X11_judge_61 fu k25 n x1 x2 x3 m) := by
  induction n with
  | zero => intros; exact rf_none
  | succ n ih =>
    intro x1 x2 x3 m
    show Rf vI G X 61 [(0, hA G 96), (1, .int x1), (2, .int x2), (3, .int x3)] [] m (s_X11_judge_61 fu k25 (f_X11_judge_61 fu k25 n) x1 x2 x3 m)
    unfold s_X11_judge_61
    refine rf_iload_n C (n := 62) (q := 3) dX11_judge_61 rfl rfl rfl ?_
    refine rf_aload_n C (n := 63) (q := 0) dX11_judge_62 rfl rfl rfl ?_
    refine rf_getI C (n := 66) fl_RX11_151 ly_96 rfl dX11_judge_63 rfl ?_
    refine rf_icmp_ge C (tgt := 203) (n := 69) dX11_judge_66 (by decide) rfl (fun h12 => ?_) (fun h12 => ?_)
    · exact rf_lv _ [0, 1] rfl (r_X11_judge_203 C K fu _ hk25 _ _)
    · refine rf_iload_n C (n := 70) (q := 1) dX11_judge_69 rfl rfl rfl ?_
      refine rf_if_ge C (tgt := 203) (n := 73) dX11_judge_70 (by decide) rfl (fun h15 => ?_) (fun h15 => ?_)
      · exact rf_lv _ [0, 1] rfl (r_X11_judge_203 C K fu _ hk25 _ _)
      · refine rf_aload_n C (n := 74) (q := 0) dX11_judge_73 rfl rfl rfl ?_
        refine rf_getI C (n := 77) fl_RX11_278 ly_96 rfl dX11_judge_74 rfl ?_
        refine rf_iload_n C (n := 78) (q := 3) dX11_judge_77 rfl rfl rfl ?_
        refine rf_callSi C (n := 81) (c_X11_has G fu _ _ _) sw_RX11_137 ⟨by decide, by decide⟩ rfl (Nat.le_of_ble_eq_true rfl) rfl dX11_judge_78 rfl (fun y16 m17 => ?_)
        refine rf_if_eq C (tgt := 197) (n := 84) dX11_judge_81 (by decide) rfl (fun h18 => ?_) (fun h18 => ?_)
        · exact rf_lv _ [0, 1, 2, 3] rfl (r_X11_judge_197 C K fu _ hk25 _ ih _ _ _ _)
        · refine rf_aload_n C (n := 85) (q := 0) dX11_judge_84 rfl rfl rfl ?_
          refine rf_getI C (n := 88) fl_RX11_281 ly_96 rfl dX11_judge_85 rfl ?_
          refine rf_iload_n C (n := 89) (q := 3) dX11_judge_88 rfl rfl rfl ?_
          refine rf_callSi C (n := 92) (c_X11_has G fu _ _ _) sw_RX11_137 ⟨by decide, by decide⟩ rfl (Nat.le_of_ble_eq_true rfl) rfl dX11_judge_89 rfl (fun y20 m21 => ?_)
          refine rf_if_ne C (tgt := 197) (n := 95) dX11_judge_92 (by decide) rfl (fun h22 => ?_) (fun h22 => ?_)
          · exact rf_lv _ [0, 1, 2, 3] rfl (r_X11_judge_197 C K fu _ hk25 _ ih _ _ _ _)
          · refine rf_aload_n C (n := 96) (q := 0) dX11_judge_95 rfl rfl rfl ?_
            refine rf_getI C (n := 99) fl_RX11_284 ly_96 rfl dX11_judge_96 rfl ?_
            refine rf_iload_n C (n := 100) (q := 3) dX11_judge_99 rfl rfl rfl ?_
            refine rf_callSi C (n := 103) (c_X11_has G fu _ _ _) sw_RX11_137 ⟨by decide, by decide⟩ rfl (Nat.le_of_ble_eq_true rfl) rfl dX11_judge_100 rfl (fun y23 m24 => ?_)
            refine rf_if_eq C (tgt := 109) (n := 106) dX11_judge_103 (by decide) rfl (fun h25 => ?_) (fun h25 => ?_)
            · refine rf_iconst C (n := 110) (v := 0) dX11_judge_109 rfl (by decide) ?_
              refine rf_istore C (n := 112) [(4, .int 0), (0, hA G 96), (1, .int x1), (2, .int x2), (3, .int x3)] dX11_judge_110 rfl (by decide) rfl ?_
              exact rf_lv _ [1, 2, 3, 4, 0] rfl (r_X11_judge_112 C K fu _ hk25 _ ih fu _ _ _ _ _)
            · refine rf_goto C (n := 197) dX11_judge_106 (by decide) ?_
              exact rf_lv _ [0, 1, 2, 3] rfl (r_X11_judge_197 C K fu _ hk25 _ ih _ _ _ _)
noncomputable def s_X11_judge_25 (fu : Nat) (ih : Int32 → hM → Option (Int32 × hM)) (x1 : Int32) (m : hM) : Option (Int32 × hM) :=
  if 0 ≤ x1 then (
f_X11_judge_220 fu x1 m) else (
hBd (f_X11_isAllDone fu m) fun y6 m7 =>
if ¬ y6 = 0 then (
f_X11_judge_220 fu x1 m7) else (
if 2399 ≤ (gI m7 114 0) then (
f_X11_judge_220 fu x1 m7) else (
hLet (gI m7 114 0) fun y10 =>
hBd (f_X11_works fu m7) fun _ m11 =>
f_X11_judge_61 fu ih fu x1 y10 0 m11)))
noncomputable def f_X11_judge_25 (fu : Nat) (n : Nat) : Int32 → hM → Option (Int32 × hM) :=
  Nat.rec (motive := fun _ => Int32 → hM → Option (Int32 × hM)) (fun _ _ => none) (fun _ ih => s_X11_judge_25 fu ih) n
theorem f_X11_judge_25_s (fu : Nat) (n : Nat) (x1 : Int32) (m : hM) : f_X11_judge_25 fu (n + 1) x1 m = s_X11_judge_25 fu (f_X11_judge_25 fu n) x1 m := rfl
set_option maxRecDepth 100000 in
set_option maxHeartbeats 4000000 in
theorem r_X11_judge_25 {G : hG} {X : hX} (C : Cx G X 9 cX11_judge 5 RX11 (some .int)) (K : Cr G X) (fu : Nat) (n : Nat) : ∀ (x1 : Int32) (m : hM), Rf vI G X 25 [(0, hA G 96), (1, .int x1)] [] m (f_X11_judge_25 fu n x1 m) := by
  induction n with
  | zero => intros; exact rf_none
  | succ n ih =>
    intro x1 m
    show Rf vI G X 25 [(0, hA G 96), (1, .int x1)] [] m (s_X11_judge_25 fu (f_X11_judge_25 fu n) x1 m)
    unfold s_X11_judge_25
    refine rf_iload_n C (n := 26) (q := 1) dX11_judge_25 rfl rfl rfl ?_
    refine rf_if_ge C (tgt := 220) (n := 29) dX11_judge_26 (by decide) rfl (fun h4 => ?_) (fun h4 => ?_)
    · exact rf_lv _ [0, 1] rfl (r_X11_judge_220 C K fu _ _)
    · refine rf_aload_n C (n := 30) (q := 0) dX11_judge_29 rfl rfl rfl ?_
      refine rf_callVi C (n := 33) (c_X11_isAllDone G fu _) mw_RX11_313 ly_96 rfl ⟨by decide, by decide⟩ rfl (Nat.le_of_ble_eq_true rfl) rfl dX11_judge_30 rfl (fun y6 m7 => ?_)
      refine rf_if_ne C (tgt := 220) (n := 36) dX11_judge_33 (by decide) rfl (fun h8 => ?_) (fun h8 => ?_)
      · exact rf_lv _ [0, 1] rfl (r_X11_judge_220 C K fu _ _)
      · refine rf_aload_n C (n := 37) (q := 0) dX11_judge_36 rfl rfl rfl ?_
        refine rf_getS C (n := 40) fl_RX11_140 ly_96 rfl dX11_judge_37 rfl ?_
        refine rf_iconst C (n := 41) (v := 0) dX11_judge_40 rfl (by decide) ?_
        refine rf_iald C (n := 42) (j := 0) ly_114 (by decide) (by decide) dX11_judge_41 rfl ?_
        refine rf_sipush C (n := 45) (v := 2399) dX11_judge_42 rfl (by decide) ?_
        refine rf_icmp_ge C (tgt := 220) (n := 48) dX11_judge_45 (by decide) rfl (fun h9 => ?_) (fun h9 => ?_)
        · exact rf_lv _ [0, 1] rfl (r_X11_judge_220 C K fu _ _)
        · refine rf_aload_n C (n := 49) (q := 0) dX11_judge_48 rfl rfl rfl ?_
          refine rf_getS C (n := 52) fl_RX11_140 ly_96 rfl dX11_judge_49 rfl ?_
          refine rf_iconst C (n := 53) (v := 0) dX11_judge_52 rfl (by decide) ?_
          refine rf_iald C (n := 54) (j := 0) ly_114 (by decide) (by decide) dX11_judge_53 rfl ?_
          refine rf_letI (fun y10 => ?_)
          refine rf_istore_n C (n := 55) [(2, .int y10), (0, hA G 96), (1, .int x1)] dX11_judge_54 rfl rfl (by decide) rfl ?_
          refine rf_aload_n C (n := 56) (q := 1) dX11_judge_55 rfl rfl rfl ?_
          refine rf_callVv C (n := 59) (c_X11_works G fu _) mw_RX11_296 ly_96 rfl ⟨by decide, by decide⟩ rfl (Nat.le_of_ble_eq_true rfl) rfl dX11_judge_56 rfl (fun _ m11 => ?_)
          refine rf_iconst C (n := 60) (v := 0) dX11_judge_59 rfl (by decide) ?_
          refine rf_istore_n C (n := 61) [(3, .int 0), (2, .int y10), (0, hA G 96), (1, .int x1)] dX11_judge_60 rfl rfl (by decide) rfl ?_
          exact rf_lv _ [2, 3, 1, 0] rfl (r_X11_judge_61 C K fu _ ih fu _ _ _ _)
noncomputable def f_X11_judge (fu : Nat) (m : hM) : Option (Int32 × hM) :=
  hLet (sI m 96 0 0) fun m1 =>
if ¬ (gI m1 96 16) = 0 then (
hBd (f_X11_putsBy fu m1) fun _ m3 =>
f_X11_judge_25 fu fu (-2) m3) else (
some ((-1), m1))
set_option maxRecDepth 100000 in
set_option maxHeartbeats 4000000 in
theorem c_X11_judge (G : hG) (fu : Nat) (m : hM) : Mt vI G 9 yX11_judge cX11_judge 5 (some .int) [hA G 96] m (f_X11_judge fu m) := by
  refine mt_of (by decide +kernel) (Nat.le_of_ble_eq_true rfl) (fun X C K => ?_)
  have C : Cx G X 9 cX11_judge 5 RX11 (some .int) := C
  show Rf vI G X 0 [(0, hA G 96)] [] m _
  unfold f_X11_judge
  refine rf_aload_n C (n := 1) (q := 0) dX11_judge_0 rfl rfl rfl ?_
  refine rf_iconst C (n := 2) (v := 0) dX11_judge_1 rfl (by decide) ?_
  refine rf_putI C (n := 5) pl_RX11_3 ly_96 rfl ⟨rfl, rfl⟩ dX11_judge_2 rfl ?_
  refine rf_letM (fun m1 => ?_)
  refine rf_aload_n C (n := 6) (q := 0) dX11_judge_5 rfl rfl rfl ?_
  refine rf_getI C (n := 9) fl_RX11_151 ly_96 rfl dX11_judge_6 rfl ?_
  refine rf_if_ne C (tgt := 14) (n := 12) dX11_judge_9 (by decide) rfl (fun h2 => ?_) (fun h2 => ?_)
  · refine rf_aload_n C (n := 15) (q := 0) dX11_judge_14 rfl rfl rfl ?_
    refine rf_aload_n C (n := 16) (q := 0) dX11_judge_15 rfl rfl rfl ?_
    refine rf_getS C (n := 19) fl_RX11_322 ly_96 rfl dX11_judge_16 rfl ?_
    refine rf_callVv C (n := 22) (c_X11_putsBy G fu _) mw_RX11_325 ly_96 rfl ⟨by decide, by decide⟩ rfl (Nat.le_of_ble_eq_true rfl) rfl dX11_judge_19 rfl (fun _ m3 => ?_)
    refine rf_bipush C (n := 24) (v := (-2)) dX11_judge_22 rfl (by decide) ?_
    refine rf_istore_n C (n := 25) [(1, .int (-2)), (0, hA G 96)] dX11_judge_24 rfl rfl (by decide) rfl ?_
    exact rf_lv _ [1, 0] rfl (r_X11_judge_25 C K fu fu _ _)
  · refine rf_iconst C (n := 13) (v := (-1)) dX11_judge_12 rfl (by decide) ?_
    exact rf_iret C K dX11_judge_13
