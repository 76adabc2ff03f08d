theorem dX11_passes_0 : decode cX11_passes 0 = .ok (.aload_n 0, 1) := by decide +kernel
theorem dX11_passes_1 : decode cX11_passes 1 = .ok (.invokevirtual 296, 3) := by decide +kernel
theorem dX11_passes_4 : decode cX11_passes 4 = .ok (.aload_n 0, 1) := by decide +kernel
theorem dX11_passes_5 : decode cX11_passes 5 = .ok (.invokevirtual 300, 3) := by decide +kernel
theorem dX11_passes_8 : decode cX11_passes 8 = .ok (.aload_n 0, 1) := by decide +kernel
theorem dX11_passes_9 : decode cX11_passes 9 = .ok (.getfield 140, 3) := by decide +kernel
theorem dX11_passes_12 : decode cX11_passes 12 = .ok (.iconst 0, 1) := by decide +kernel
theorem dX11_passes_13 : decode cX11_passes 13 = .ok (.dup2, 1) := by decide +kernel
theorem dX11_passes_14 : decode cX11_passes 14 = .ok (.iaload, 1) := by decide +kernel
theorem dX11_passes_15 : decode cX11_passes 15 = .ok (.iconst 1, 1) := by decide +kernel
theorem dX11_passes_16 : decode cX11_passes 16 = .ok (.iadd, 1) := by decide +kernel
theorem dX11_passes_17 : decode cX11_passes 17 = .ok (.iastore, 1) := by decide +kernel
theorem dX11_passes_18 : decode cX11_passes 18 = .ok (.return_, 1) := by decide +kernel
theorem dX11_begins_0 : decode cX11_begins 0 = .ok (.aload_n 0, 1) := by decide +kernel
theorem dX11_begins_1 : decode cX11_begins 1 = .ok (.getfield 140, 3) := by decide +kernel
theorem dX11_begins_4 : decode cX11_begins 4 = .ok (.iconst 0, 1) := by decide +kernel
theorem dX11_begins_5 : decode cX11_begins 5 = .ok (.iload_n 1, 1) := by decide +kernel
theorem dX11_begins_6 : decode cX11_begins 6 = .ok (.iastore, 1) := by decide +kernel
theorem dX11_begins_7 : decode cX11_begins 7 = .ok (.aload_n 0, 1) := by decide +kernel
theorem dX11_begins_8 : decode cX11_begins 8 = .ok (.getfield 140, 3) := by decide +kernel
theorem dX11_begins_11 : decode cX11_begins 11 = .ok (.iconst 1, 1) := by decide +kernel
theorem dX11_begins_12 : decode cX11_begins 12 = .ok (.iconst 0, 1) := by decide +kernel
theorem dX11_begins_13 : decode cX11_begins 13 = .ok (.iastore, 1) := by decide +kernel
theorem dX11_begins_14 : decode cX11_begins 14 = .ok (.aload_n 0, 1) := by decide +kernel
theorem dX11_begins_15 : decode cX11_begins 15 = .ok (.getfield 140, 3) := by decide +kernel
theorem dX11_begins_18 : decode cX11_begins 18 = .ok (.iconst 2, 1) := by decide +kernel
theorem dX11_begins_19 : decode cX11_begins 19 = .ok (.iconst 0, 1) := by decide +kernel
theorem dX11_begins_20 : decode cX11_begins 20 = .ok (.iastore, 1) := by decide +kernel
theorem dX11_begins_21 : decode cX11_begins 21 = .ok (.iconst 0, 1) := by decide +kernel
theorem dX11_begins_22 : decode cX11_begins 22 = .ok (.istore_n 2, 1) := by decide +kernel
theorem dX11_begins_23 : decode cX11_begins 23 = .ok (.iload_n 2, 1) := by decide +kernel
theorem dX11_begins_24 : decode cX11_begins 24 = .ok (.aload_n 0, 1) := by decide +kernel
theorem dX11_begins_25 : decode cX11_begins 25 = .ok (.getfield 151, 3) := by decide +kernel
theorem dX11_begins_28 : decode cX11_begins 28 = .ok (.if_icmp .ge 14, 3) := by decide +kernel
theorem dX11_begins_31 : decode cX11_begins 31 = .ok (.aload_n 0, 1) := by decide +kernel
theorem dX11_begins_32 : decode cX11_begins 32 = .ok (.iload_n 2, 1) := by decide +kernel
theorem dX11_begins_33 : decode cX11_begins 33 = .ok (.invokevirtual 166, 3) := by decide +kernel
theorem dX11_begins_36 : decode cX11_begins 36 = .ok (.iinc 2 1, 3) := by decide +kernel
theorem dX11_begins_39 : decode cX11_begins 39 = .ok (.goto (-16), 3) := by decide +kernel
theorem dX11_begins_42 : decode cX11_begins 42 = .ok (.return_, 1) := by decide +kernel
theorem dX11_begin_0 : decode cX11_begin 0 = .ok (.aload_n 0, 1) := by decide +kernel
theorem dX11_begin_1 : decode cX11_begin 1 = .ok (.iconst 0, 1) := by decide +kernel
theorem dX11_begin_2 : decode cX11_begin 2 = .ok (.putfield 3, 3) := by decide +kernel
theorem dX11_begin_5 : decode cX11_begin 5 = .ok (.iload_n 1, 1) := by decide +kernel
theorem dX11_begin_6 : decode cX11_begin 6 = .ok (.invokestatic 81, 3) := by decide +kernel
theorem dX11_begin_9 : decode cX11_begin 9 = .ok (.ifCond .ne 5, 3) := by decide +kernel
theorem dX11_begin_12 : decode cX11_begin 12 = .ok (.iconst 0, 1) := by decide +kernel
theorem dX11_begin_13 : decode cX11_begin 13 = .ok (.ireturn, 1) := by decide +kernel
theorem dX11_begin_14 : decode cX11_begin 14 = .ok (.aload_n 0, 1) := by decide +kernel
theorem dX11_begin_15 : decode cX11_begin 15 = .ok (.iload_n 1, 1) := by decide +kernel
theorem dX11_begin_16 : decode cX11_begin 16 = .ok (.invokevirtual 303, 3) := by decide +kernel
theorem dX11_begin_19 : decode cX11_begin 19 = .ok (.iconst 1, 1) := by decide +kernel
theorem dX11_begin_20 : decode cX11_begin 20 = .ok (.ireturn, 1) := by decide +kernel
theorem dX11_go_0 : decode cX11_go 0 = .ok (.aload_n 0, 1) := by decide +kernel
theorem dX11_go_1 : decode cX11_go 1 = .ok (.iconst 0, 1) := by decide +kernel
theorem dX11_go_2 : decode cX11_go 2 = .ok (.putfield 3, 3) := by decide +kernel
theorem dX11_go_5 : decode cX11_go 5 = .ok (.iload_n 1, 1) := by decide +kernel
theorem dX11_go_6 : decode cX11_go 6 = .ok (.i2l, 1) := by decide +kernel
theorem dX11_go_7 : decode cX11_go 7 = .ok (.lconst 0, 1) := by decide +kernel
theorem dX11_go_8 : decode cX11_go 8 = .ok (.ldc2_w 306, 3) := by decide +kernel
theorem dX11_go_11 : decode cX11_go 11 = .ok (.invokestatic 25, 3) := by decide +kernel
theorem dX11_go_14 : decode cX11_go 14 = .ok (.ifCond .ne 5, 3) := by decide +kernel
theorem dX11_go_17 : decode cX11_go 17 = .ok (.iconst (-1), 1) := by decide +kernel
theorem dX11_go_18 : decode cX11_go 18 = .ok (.ireturn, 1) := by decide +kernel
theorem dX11_go_19 : decode cX11_go 19 = .ok (.iconst 0, 1) := by decide +kernel
theorem dX11_go_20 : decode cX11_go 20 = .ok (.istore_n 2, 1) := by decide +kernel
theorem dX11_go_21 : decode cX11_go 21 = .ok (.iload_n 2, 1) := by decide +kernel
theorem dX11_go_22 : decode cX11_go 22 = .ok (.iload_n 1, 1) := by decide +kernel
theorem dX11_go_23 : decode cX11_go 23 = .ok (.if_icmp .ge 25, 3) := by decide +kernel
theorem dX11_go_26 : decode cX11_go 26 = .ok (.aload_n 0, 1) := by decide +kernel
theorem dX11_go_27 : decode cX11_go 27 = .ok (.getfield 140, 3) := by decide +kernel
theorem dX11_go_30 : decode cX11_go 30 = .ok (.iconst 0, 1) := by decide +kernel
theorem dX11_go_31 : decode cX11_go 31 = .ok (.iaload, 1) := by decide +kernel
theorem dX11_go_32 : decode cX11_go 32 = .ok (.sipush 2399, 3) := by decide +kernel
theorem dX11_go_35 : decode cX11_go 35 = .ok (.if_icmp .ge 13, 3) := by decide +kernel
theorem dX11_go_38 : decode cX11_go 38 = .ok (.aload_n 0, 1) := by decide +kernel
theorem dX11_go_39 : decode cX11_go 39 = .ok (.invokevirtual 308, 3) := by decide +kernel
theorem dX11_go_42 : decode cX11_go 42 = .ok (.iinc 2 1, 3) := by decide +kernel
theorem dX11_go_45 : decode cX11_go 45 = .ok (.goto (-24), 3) := by decide +kernel
theorem dX11_go_48 : decode cX11_go 48 = .ok (.aload_n 0, 1) := by decide +kernel
theorem dX11_go_49 : decode cX11_go 49 = .ok (.getfield 140, 3) := by decide +kernel
theorem dX11_go_52 : decode cX11_go 52 = .ok (.iconst 0, 1) := by decide +kernel
theorem dX11_go_53 : decode cX11_go 53 = .ok (.iaload, 1) := by decide +kernel
theorem dX11_go_54 : decode cX11_go 54 = .ok (.ireturn, 1) := by decide +kernel
theorem dX11_of_0 : decode cX11_of 0 = .ok (.aload_n 0, 1) := by decide +kernel
theorem dX11_of_1 : decode cX11_of 1 = .ok (.iconst 0, 1) := by decide +kernel
theorem dX11_of_2 : decode cX11_of 2 = .ok (.putfield 3, 3) := by decide +kernel
theorem dX11_of_5 : decode cX11_of 5 = .ok (.aload_n 0, 1) := by decide +kernel
theorem dX11_of_6 : decode cX11_of 6 = .ok (.iload_n 1, 1) := by decide +kernel
theorem dX11_of_7 : decode cX11_of 7 = .ok (.invokevirtual 256, 3) := by decide +kernel
theorem dX11_of_10 : decode cX11_of 10 = .ok (.ifCond .eq 15, 3) := by decide +kernel
theorem dX11_of_13 : decode cX11_of 13 = .ok (.iload_n 2, 1) := by decide +kernel
theorem dX11_of_14 : decode cX11_of 14 = .ok (.i2l, 1) := by decide +kernel
theorem dX11_of_15 : decode cX11_of 15 = .ok (.lconst 0, 1) := by decide +kernel
theorem dX11_of_16 : decode cX11_of 16 = .ok (.ldc2_w 311, 3) := by decide +kernel
theorem dX11_of_19 : decode cX11_of 19 = .ok (.invokestatic 25, 3) := by decide +kernel
theorem dX11_of_22 : decode cX11_of 22 = .ok (.ifCond .ne 8, 3) := by decide +kernel
theorem dX11_of_25 : decode cX11_of 25 = .ok (.aload_n 0, 1) := by decide +kernel
theorem dX11_of_26 : decode cX11_of 26 = .ok (.invokevirtual 259, 3) := by decide +kernel
theorem dX11_of_29 : decode cX11_of 29 = .ok (.ireturn, 1) := by decide +kernel
theorem dX11_of_30 : decode cX11_of 30 = .ok (.iload_n 2, 1) := by decide +kernel
theorem dX11_of_31 : decode cX11_of 31 = .ok (.tableswitch 124 0 7 #[45, 54, 64, 74, 84, 94, 104, 114], 45) := by decide +kernel
theorem dX11_of_76 : decode cX11_of 76 = .ok (.aload_n 0, 1) := by decide +kernel
theorem dX11_of_77 : decode cX11_of 77 = .ok (.getfield 140, 3) := by decide +kernel
theorem dX11_of_80 : decode cX11_of 80 = .ok (.iconst 3, 1) := by decide +kernel
theorem dX11_of_81 : decode cX11_of 81 = .ok (.iload_n 1, 1) := by decide +kernel
theorem dX11_of_82 : decode cX11_of 82 = .ok (.iadd, 1) := by decide +kernel
theorem dX11_of_83 : decode cX11_of 83 = .ok (.iaload, 1) := by decide +kernel
theorem dX11_of_84 : decode cX11_of 84 = .ok (.ireturn, 1) := by decide +kernel
theorem dX11_of_85 : decode cX11_of 85 = .ok (.aload_n 0, 1) := by decide +kernel
theorem dX11_of_86 : decode cX11_of 86 = .ok (.getfield 140, 3) := by decide +kernel
theorem dX11_of_89 : decode cX11_of 89 = .ok (.bipush 11, 2) := by decide +kernel
theorem dX11_of_91 : decode cX11_of 91 = .ok (.iload_n 1, 1) := by decide +kernel
theorem dX11_of_92 : decode cX11_of 92 = .ok (.iadd, 1) := by decide +kernel
theorem dX11_of_93 : decode cX11_of 93 = .ok (.iaload, 1) := by decide +kernel
theorem dX11_of_94 : decode cX11_of 94 = .ok (.ireturn, 1) := by decide +kernel
theorem dX11_of_95 : decode cX11_of 95 = .ok (.aload_n 0, 1) := by decide +kernel
theorem dX11_of_96 : decode cX11_of 96 = .ok (.getfield 140, 3) := by decide +kernel
theorem dX11_of_99 : decode cX11_of 99 = .ok (.bipush 19, 2) := by decide +kernel
theorem dX11_of_101 : decode cX11_of 101 = .ok (.iload_n 1, 1) := by decide +kernel
theorem dX11_of_102 : decode cX11_of 102 = .ok (.iadd, 1) := by decide +kernel
theorem dX11_of_103 : decode cX11_of 103 = .ok (.iaload, 1) := by decide +kernel
theorem dX11_of_104 : decode cX11_of 104 = .ok (.ireturn, 1) := by decide +kernel
theorem dX11_of_105 : decode cX11_of 105 = .ok (.aload_n 0, 1) := by decide +kernel
theorem dX11_of_106 : decode cX11_of 106 = .ok (.getfield 140, 3) := by decide +kernel
theorem dX11_of_109 : decode cX11_of 109 = .ok (.bipush 27, 2) := by decide +kernel
theorem dX11_of_111 : decode cX11_of 111 = .ok (.iload_n 1, 1) := by decide +kernel
theorem dX11_of_112 : decode cX11_of 112 = .ok (.iadd, 1) := by decide +kernel
theorem dX11_of_113 : decode cX11_of 113 = .ok (.iaload, 1) := by decide +kernel
theorem dX11_of_114 : decode cX11_of 114 = .ok (.ireturn, 1) := by decide +kernel
theorem dX11_of_115 : decode cX11_of 115 = .ok (.aload_n 0, 1) := by decide +kernel
theorem dX11_of_116 : decode cX11_of 116 = .ok (.getfield 140, 3) := by decide +kernel
theorem dX11_of_119 : decode cX11_of 119 = .ok (.bipush 35, 2) := by decide +kernel
theorem dX11_of_121 : decode cX11_of 121 = .ok (.iload_n 1, 1) := by decide +kernel
theorem dX11_of_122 : decode cX11_of 122 = .ok (.iadd, 1) := by decide +kernel
theorem dX11_of_123 : decode cX11_of 123 = .ok (.iaload, 1) := by decide +kernel
theorem dX11_of_124 : decode cX11_of 124 = .ok (.ireturn, 1) := by decide +kernel
theorem dX11_of_125 : decode cX11_of 125 = .ok (.aload_n 0, 1) := by decide +kernel
theorem dX11_of_126 : decode cX11_of 126 = .ok (.getfield 140, 3) := by decide +kernel
theorem dX11_of_129 : decode cX11_of 129 = .ok (.bipush 43, 2) := by decide +kernel
theorem dX11_of_131 : decode cX11_of 131 = .ok (.iload_n 1, 1) := by decide +kernel
theorem dX11_of_132 : decode cX11_of 132 = .ok (.iadd, 1) := by decide +kernel
theorem dX11_of_133 : decode cX11_of 133 = .ok (.iaload, 1) := by decide +kernel
theorem dX11_of_134 : decode cX11_of 134 = .ok (.ireturn, 1) := by decide +kernel
theorem dX11_of_135 : decode cX11_of 135 = .ok (.aload_n 0, 1) := by decide +kernel
theorem dX11_of_136 : decode cX11_of 136 = .ok (.getfield 140, 3) := by decide +kernel
theorem dX11_of_139 : decode cX11_of 139 = .ok (.bipush 51, 2) := by decide +kernel
theorem dX11_of_141 : decode cX11_of 141 = .ok (.iload_n 1, 1) := by decide +kernel
theorem dX11_of_142 : decode cX11_of 142 = .ok (.iadd, 1) := by decide +kernel
theorem dX11_of_143 : decode cX11_of 143 = .ok (.iaload, 1) := by decide +kernel
theorem dX11_of_144 : decode cX11_of 144 = .ok (.ireturn, 1) := by decide +kernel
theorem dX11_of_145 : decode cX11_of 145 = .ok (.aload_n 0, 1) := by decide +kernel
theorem dX11_of_146 : decode cX11_of 146 = .ok (.getfield 140, 3) := by decide +kernel
theorem dX11_of_149 : decode cX11_of 149 = .ok (.bipush 59, 2) := by decide +kernel
theorem dX11_of_151 : decode cX11_of 151 = .ok (.iload_n 1, 1) := by decide +kernel
theorem dX11_of_152 : decode cX11_of 152 = .ok (.iadd, 1) := by decide +kernel
theorem dX11_of_153 : decode cX11_of 153 = .ok (.iaload, 1) := by decide +kernel
theorem dX11_of_154 : decode cX11_of 154 = .ok (.ireturn, 1) := by decide +kernel
theorem dX11_of_155 : decode cX11_of 155 = .ok (.aload_n 0, 1) := by decide +kernel
theorem dX11_of_156 : decode cX11_of 156 = .ok (.iload_n 1, 1) := by decide +kernel
theorem dX11_of_157 : decode cX11_of 157 = .ok (.invokevirtual 268, 3) := by decide +kernel
theorem dX11_of_160 : decode cX11_of 160 = .ok (.invokestatic 124, 3) := by decide +kernel
theorem dX11_of_163 : decode cX11_of 163 = .ok (.ireturn, 1) := by decide +kernel
theorem dX11_hand_0 : decode cX11_hand 0 = .ok (.aload_n 0, 1) := by decide +kernel
theorem dX11_hand_1 : decode cX11_hand 1 = .ok (.iconst 0, 1) := by decide +kernel
theorem dX11_hand_2 : decode cX11_hand 2 = .ok (.putfield 3, 3) := by decide +kernel
theorem dX11_hand_5 : decode cX11_hand 5 = .ok (.aload_n 0, 1) := by decide +kernel
theorem dX11_hand_6 : decode cX11_hand 6 = .ok (.iload_n 1, 1) := by decide +kernel
theorem dX11_hand_7 : decode cX11_hand 7 = .ok (.invokevirtual 256, 3) := by decide +kernel
theorem dX11_hand_10 : decode cX11_hand 10 = .ok (.ifCond .eq 31, 3) := by decide +kernel
theorem dX11_hand_13 : decode cX11_hand 13 = .ok (.aload_n 0, 1) := by decide +kernel
theorem dX11_hand_14 : decode cX11_hand 14 = .ok (.iload_n 2, 1) := by decide +kernel
theorem dX11_hand_15 : decode cX11_hand 15 = .ok (.invokevirtual 77, 3) := by decide +kernel
theorem dX11_hand_18 : decode cX11_hand 18 = .ok (.ifCond .eq 23, 3) := by decide +kernel
theorem dX11_hand_21 : decode cX11_hand 21 = .ok (.aload_n 0, 1) := by decide +kernel
theorem dX11_hand_22 : decode cX11_hand 22 = .ok (.iload_n 1, 1) := by decide +kernel
theorem dX11_hand_23 : decode cX11_hand 23 = .ok (.invokevirtual 265, 3) := by decide +kernel
theorem dX11_hand_26 : decode cX11_hand 26 = .ok (.ifCond .ne 15, 3) := by decide +kernel
theorem dX11_hand_29 : decode cX11_hand 29 = .ok (.aload_n 0, 1) := by decide +kernel
theorem dX11_hand_30 : decode cX11_hand 30 = .ok (.getfield 140, 3) := by decide +kernel
theorem dX11_hand_33 : decode cX11_hand 33 = .ok (.iconst 3, 1) := by decide +kernel
theorem dX11_hand_34 : decode cX11_hand 34 = .ok (.iload_n 1, 1) := by decide +kernel
theorem dX11_hand_35 : decode cX11_hand 35 = .ok (.iadd, 1) := by decide +kernel
theorem dX11_hand_36 : decode cX11_hand 36 = .ok (.iaload, 1) := by decide +kernel
theorem dX11_hand_37 : decode cX11_hand 37 = .ok (.iload_n 2, 1) := by decide +kernel
theorem dX11_hand_38 : decode cX11_hand 38 = .ok (.if_icmp .ne 5, 3) := by decide +kernel
theorem dX11_hand_41 : decode cX11_hand 41 = .ok (.iconst (-1), 1) := by decide +kernel
theorem dX11_hand_42 : decode cX11_hand 42 = .ok (.ireturn, 1) := by decide +kernel
theorem dX11_hand_43 : decode cX11_hand 43 = .ok (.aload_n 0, 1) := by decide +kernel
theorem dX11_hand_44 : decode cX11_hand 44 = .ok (.iload_n 1, 1) := by decide +kernel
theorem dX11_hand_45 : decode cX11_hand 45 = .ok (.iload_n 2, 1) := by decide +kernel
theorem dX11_hand_46 : decode cX11_hand 46 = .ok (.aload_n 0, 1) := by decide +kernel
theorem dX11_hand_47 : decode cX11_hand 47 = .ok (.getfield 140, 3) := by decide +kernel
theorem dX11_hand_50 : decode cX11_hand 50 = .ok (.iconst 0, 1) := by decide +kernel
theorem dX11_hand_51 : decode cX11_hand 51 = .ok (.iaload, 1) := by decide +kernel
theorem dX11_hand_52 : decode cX11_hand 52 = .ok (.invokevirtual 294, 3) := by decide +kernel
theorem dX11_hand_55 : decode cX11_hand 55 = .ok (.ireturn, 1) := by decide +kernel
theorem dX11_isAllDone_0 : decode cX11_isAllDone 0 = .ok (.iconst 1, 1) := by decide +kernel
theorem dX11_isAllDone_1 : decode cX11_isAllDone 1 = .ok (.istore_n 1, 1) := by decide +kernel
theorem dX11_isAllDone_2 : decode cX11_isAllDone 2 = .ok (.iconst 0, 1) := by decide +kernel
theorem dX11_isAllDone_3 : decode cX11_isAllDone 3 = .ok (.istore_n 2, 1) := by decide +kernel
theorem dX11_isAllDone_4 : decode cX11_isAllDone 4 = .ok (.iload_n 2, 1) := by decide +kernel
theorem dX11_isAllDone_5 : decode cX11_isAllDone 5 = .ok (.aload_n 0, 1) := by decide +kernel
theorem dX11_isAllDone_6 : decode cX11_isAllDone 6 = .ok (.getfield 151, 3) := by decide +kernel
theorem dX11_isAllDone_9 : decode cX11_isAllDone 9 = .ok (.if_icmp .ge 27, 3) := by decide +kernel
theorem dX11_isAllDone_12 : decode cX11_isAllDone 12 = .ok (.iload_n 1, 1) := by decide +kernel
theorem dX11_isAllDone_13 : decode cX11_isAllDone 13 = .ok (.ifCond .eq 15, 3) := by decide +kernel
theorem dX11_isAllDone_16 : decode cX11_isAllDone 16 = .ok (.aload_n 0, 1) := by decide +kernel
theorem dX11_isAllDone_17 : decode cX11_isAllDone 17 = .ok (.iload_n 2, 1) := by decide +kernel
theorem dX11_isAllDone_18 : decode cX11_isAllDone 18 = .ok (.invokevirtual 265, 3) := by decide +kernel
theorem dX11_isAllDone_21 : decode cX11_isAllDone 21 = .ok (.ifCond .eq 7, 3) := by decide +kernel
theorem dX11_isAllDone_24 : decode cX11_isAllDone 24 = .ok (.iconst 1, 1) := by decide +kernel
theorem dX11_isAllDone_25 : decode cX11_isAllDone 25 = .ok (.goto 4, 3) := by decide +kernel
theorem dX11_isAllDone_28 : decode cX11_isAllDone 28 = .ok (.iconst 0, 1) := by decide +kernel
theorem dX11_isAllDone_29 : decode cX11_isAllDone 29 = .ok (.istore_n 1, 1) := by decide +kernel
theorem dX11_isAllDone_30 : decode cX11_isAllDone 30 = .ok (.iinc 2 1, 3) := by decide +kernel
theorem dX11_isAllDone_33 : decode cX11_isAllDone 33 = .ok (.goto (-29), 3) := by decide +kernel
theorem dX11_isAllDone_36 : decode cX11_isAllDone 36 = .ok (.iload_n 1, 1) := by decide +kernel
theorem dX11_isAllDone_37 : decode cX11_isAllDone 37 = .ok (.ireturn, 1) := by decide +kernel
theorem dX11_goesOn_0 : decode cX11_goesOn 0 = .ok (.aload_n 0, 1) := by decide +kernel
theorem dX11_goesOn_1 : decode cX11_goesOn 1 = .ok (.getfield 140, 3) := by decide +kernel
theorem dX11_goesOn_4 : decode cX11_goesOn 4 = .ok (.iconst 0, 1) := by decide +kernel
theorem dX11_goesOn_5 : decode cX11_goesOn 5 = .ok (.iaload, 1) := by decide +kernel
theorem dX11_goesOn_6 : decode cX11_goesOn 6 = .ok (.istore_n 1, 1) := by decide +kernel
theorem dX11_goesOn_7 : decode cX11_goesOn 7 = .ok (.aload_n 0, 1) := by decide +kernel
theorem dX11_goesOn_8 : decode cX11_goesOn 8 = .ok (.invokevirtual 313, 3) := by decide +kernel
theorem dX11_goesOn_11 : decode cX11_goesOn 11 = .ok (.ifCond .eq 5, 3) := by decide +kernel
theorem dX11_goesOn_14 : decode cX11_goesOn 14 = .ok (.iload_n 1, 1) := by decide +kernel
theorem dX11_goesOn_15 : decode cX11_goesOn 15 = .ok (.ireturn, 1) := by decide +kernel
theorem dX11_goesOn_16 : decode cX11_goesOn 16 = .ok (.aload_n 0, 1) := by decide +kernel
theorem dX11_goesOn_17 : decode cX11_goesOn 17 = .ok (.invokevirtual 313, 3) := by decide +kernel
theorem dX11_goesOn_20 : decode cX11_goesOn 20 = .ok (.ifCond .ne 24, 3) := by decide +kernel
theorem dX11_goesOn_23 : decode cX11_goesOn 23 = .ok (.aload_n 0, 1) := by decide +kernel
theorem dX11_goesOn_24 : decode cX11_goesOn 24 = .ok (.getfield 140, 3) := by decide +kernel
theorem dX11_goesOn_27 : decode cX11_goesOn 27 = .ok (.iconst 0, 1) := by decide +kernel
theorem dX11_goesOn_28 : decode cX11_goesOn 28 = .ok (.iaload, 1) := by decide +kernel
theorem dX11_goesOn_29 : decode cX11_goesOn 29 = .ok (.sipush 2399, 3) := by decide +kernel
theorem dX11_goesOn_32 : decode cX11_goesOn 32 = .ok (.if_icmp .lt 5, 3) := by decide +kernel
theorem dX11_goesOn_35 : decode cX11_goesOn 35 = .ok (.iconst (-1), 1) := by decide +kernel
theorem dX11_goesOn_36 : decode cX11_goesOn 36 = .ok (.ireturn, 1) := by decide +kernel
theorem dX11_goesOn_37 : decode cX11_goesOn 37 = .ok (.aload_n 0, 1) := by decide +kernel
theorem dX11_goesOn_38 : decode cX11_goesOn 38 = .ok (.invokevirtual 308, 3) := by decide +kernel
theorem dX11_goesOn_41 : decode cX11_goesOn 41 = .ok (.goto (-25), 3) := by decide +kernel
theorem dX11_goesOn_44 : decode cX11_goesOn 44 = .ok (.aload_n 0, 1) := by decide +kernel
theorem dX11_goesOn_45 : decode cX11_goesOn 45 = .ok (.getfield 140, 3) := by decide +kernel
theorem dX11_goesOn_48 : decode cX11_goesOn 48 = .ok (.iconst 0, 1) := by decide +kernel
theorem dX11_goesOn_49 : decode cX11_goesOn 49 = .ok (.iaload, 1) := by decide +kernel
theorem dX11_goesOn_50 : decode cX11_goesOn 50 = .ok (.ireturn, 1) := by decide +kernel
theorem dX11_sumOf_0 : decode cX11_sumOf 0 = .ok (.iconst 0, 1) := by decide +kernel
theorem dX11_sumOf_1 : decode cX11_sumOf 1 = .ok (.istore_n 2, 1) := by decide +kernel
theorem dX11_sumOf_2 : decode cX11_sumOf 2 = .ok (.iconst 0, 1) := by decide +kernel
theorem dX11_sumOf_3 : decode cX11_sumOf 3 = .ok (.istore_n 3, 1) := by decide +kernel
theorem dX11_sumOf_4 : decode cX11_sumOf 4 = .ok (.iload_n 3, 1) := by decide +kernel
theorem dX11_sumOf_5 : decode cX11_sumOf 5 = .ok (.aload_n 0, 1) := by decide +kernel
theorem dX11_sumOf_6 : decode cX11_sumOf 6 = .ok (.getfield 151, 3) := by decide +kernel
theorem dX11_sumOf_9 : decode cX11_sumOf 9 = .ok (.if_icmp .ge 20, 3) := by decide +kernel
theorem dX11_sumOf_12 : decode cX11_sumOf 12 = .ok (.iload_n 2, 1) := by decide +kernel
theorem dX11_sumOf_13 : decode cX11_sumOf 13 = .ok (.aload_n 0, 1) := by decide +kernel
theorem dX11_sumOf_14 : decode cX11_sumOf 14 = .ok (.getfield 140, 3) := by decide +kernel
theorem dX11_sumOf_17 : decode cX11_sumOf 17 = .ok (.iload_n 1, 1) := by decide +kernel
theorem dX11_sumOf_18 : decode cX11_sumOf 18 = .ok (.iload_n 3, 1) := by decide +kernel
theorem dX11_sumOf_19 : decode cX11_sumOf 19 = .ok (.iadd, 1) := by decide +kernel
theorem dX11_sumOf_20 : decode cX11_sumOf 20 = .ok (.iaload, 1) := by decide +kernel
theorem dX11_sumOf_21 : decode cX11_sumOf 21 = .ok (.iadd, 1) := by decide +kernel
theorem dX11_sumOf_22 : decode cX11_sumOf 22 = .ok (.istore_n 2, 1) := by decide +kernel
theorem dX11_sumOf_23 : decode cX11_sumOf 23 = .ok (.iinc 3 1, 3) := by decide +kernel
theorem dX11_sumOf_26 : decode cX11_sumOf 26 = .ok (.goto (-22), 3) := by decide +kernel
theorem dX11_sumOf_29 : decode cX11_sumOf 29 = .ok (.iload_n 2, 1) := by decide +kernel
theorem dX11_sumOf_30 : decode cX11_sumOf 30 = .ok (.ireturn, 1) := by decide +kernel
theorem dX11_tellsEnd_0 : decode cX11_tellsEnd 0 = .ok (.aload_n 0, 1) := by decide +kernel
theorem dX11_tellsEnd_1 : decode cX11_tellsEnd 1 = .ok (.bipush 51, 2) := by decide +kernel
theorem dX11_tellsEnd_3 : decode cX11_tellsEnd 3 = .ok (.invokevirtual 316, 3) := by decide +kernel
theorem dX11_tellsEnd_6 : decode cX11_tellsEnd 6 = .ok (.istore_n 1, 1) := by decide +kernel
theorem dX11_tellsEnd_7 : decode cX11_tellsEnd 7 = .ok (.aload_n 0, 1) := by decide +kernel
theorem dX11_tellsEnd_8 : decode cX11_tellsEnd 8 = .ok (.bipush 59, 2) := by decide +kernel
theorem dX11_tellsEnd_10 : decode cX11_tellsEnd 10 = .ok (.invokevirtual 316, 3) := by decide +kernel
theorem dX11_tellsEnd_13 : decode cX11_tellsEnd 13 = .ok (.istore_n 2, 1) := by decide +kernel
theorem dX11_tellsEnd_14 : decode cX11_tellsEnd 14 = .ok (.aload_n 0, 1) := by decide +kernel
theorem dX11_tellsEnd_15 : decode cX11_tellsEnd 15 = .ok (.getfield 140, 3) := by decide +kernel
theorem dX11_tellsEnd_18 : decode cX11_tellsEnd 18 = .ok (.iconst 1, 1) := by decide +kernel
theorem dX11_tellsEnd_19 : decode cX11_tellsEnd 19 = .ok (.iaload, 1) := by decide +kernel
theorem dX11_tellsEnd_20 : decode cX11_tellsEnd 20 = .ok (.istore_n 3, 1) := by decide +kernel
theorem dX11_tellsEnd_21 : decode cX11_tellsEnd 21 = .ok (.aload_n 0, 1) := by decide +kernel
theorem dX11_tellsEnd_22 : decode cX11_tellsEnd 22 = .ok (.invokevirtual 319, 3) := by decide +kernel
theorem dX11_tellsEnd_25 : decode cX11_tellsEnd 25 = .ok (.istore 4, 2) := by decide +kernel
theorem dX11_tellsEnd_27 : decode cX11_tellsEnd 27 = .ok (.iload 4, 2) := by decide +kernel
theorem dX11_tellsEnd_29 : decode cX11_tellsEnd 29 = .ok (.ifCond .ge 6, 3) := by decide +kernel
theorem dX11_tellsEnd_32 : decode cX11_tellsEnd 32 = .ok (.bipush (-2), 2) := by decide +kernel
theorem dX11_tellsEnd_34 : decode cX11_tellsEnd 34 = .ok (.ireturn, 1) := by decide +kernel
theorem dX11_tellsEnd_35 : decode cX11_tellsEnd 35 = .ok (.aload_n 0, 1) := by decide +kernel
theorem dX11_tellsEnd_36 : decode cX11_tellsEnd 36 = .ok (.iconst 0, 1) := by decide +kernel
theorem dX11_tellsEnd_37 : decode cX11_tellsEnd 37 = .ok (.putfield 11, 3) := by decide +kernel
theorem dX11_tellsEnd_40 : decode cX11_tellsEnd 40 = .ok (.iconst 0, 1) := by decide +kernel
theorem dX11_tellsEnd_41 : decode cX11_tellsEnd 41 = .ok (.istore 5, 2) := by decide +kernel
theorem dX11_tellsEnd_43 : decode cX11_tellsEnd 43 = .ok (.iload 5, 2) := by decide +kernel
theorem dX11_tellsEnd_45 : decode cX11_tellsEnd 45 = .ok (.aload_n 0, 1) := by decide +kernel
theorem dX11_tellsEnd_46 : decode cX11_tellsEnd 46 = .ok (.getfield 151, 3) := by decide +kernel
theorem dX11_tellsEnd_49 : decode cX11_tellsEnd 49 = .ok (.if_icmp .ge 24, 3) := by decide +kernel
theorem dX11_tellsEnd_52 : decode cX11_tellsEnd 52 = .ok (.aload_n 0, 1) := by decide +kernel
theorem dX11_tellsEnd_53 : decode cX11_tellsEnd 53 = .ok (.aload_n 0, 1) := by decide +kernel
theorem dX11_tellsEnd_54 : decode cX11_tellsEnd 54 = .ok (.getfield 140, 3) := by decide +kernel
theorem dX11_tellsEnd_57 : decode cX11_tellsEnd 57 = .ok (.bipush 35, 2) := by decide +kernel
theorem dX11_tellsEnd_59 : decode cX11_tellsEnd 59 = .ok (.iload 5, 2) := by decide +kernel
theorem dX11_tellsEnd_61 : decode cX11_tellsEnd 61 = .ok (.iadd, 1) := by decide +kernel
theorem dX11_tellsEnd_62 : decode cX11_tellsEnd 62 = .ok (.iaload, 1) := by decide +kernel
theorem dX11_tellsEnd_63 : decode cX11_tellsEnd 63 = .ok (.i2l, 1) := by decide +kernel
theorem dX11_tellsEnd_64 : decode cX11_tellsEnd 64 = .ok (.invokevirtual 18, 3) := by decide +kernel
theorem dX11_tellsEnd_67 : decode cX11_tellsEnd 67 = .ok (.iinc 5 1, 3) := by decide +kernel
theorem dX11_tellsEnd_70 : decode cX11_tellsEnd 70 = .ok (.goto (-27), 3) := by decide +kernel
theorem dX11_tellsEnd_73 : decode cX11_tellsEnd 73 = .ok (.aload_n 0, 1) := by decide +kernel
theorem dX11_tellsEnd_74 : decode cX11_tellsEnd 74 = .ok (.aload_n 0, 1) := by decide +kernel
theorem dX11_tellsEnd_75 : decode cX11_tellsEnd 75 = .ok (.bipush 51, 2) := by decide +kernel
theorem dX11_tellsEnd_77 : decode cX11_tellsEnd 77 = .ok (.invokevirtual 316, 3) := by decide +kernel
theorem dX11_tellsEnd_80 : decode cX11_tellsEnd 80 = .ok (.iload_n 1, 1) := by decide +kernel
theorem dX11_tellsEnd_81 : decode cX11_tellsEnd 81 = .ok (.isub, 1) := by decide +kernel
theorem dX11_tellsEnd_82 : decode cX11_tellsEnd 82 = .ok (.i2l, 1) := by decide +kernel
theorem dX11_tellsEnd_83 : decode cX11_tellsEnd 83 = .ok (.invokevirtual 18, 3) := by decide +kernel
theorem dX11_tellsEnd_86 : decode cX11_tellsEnd 86 = .ok (.aload_n 0, 1) := by decide +kernel
theorem dX11_tellsEnd_87 : decode cX11_tellsEnd 87 = .ok (.aload_n 0, 1) := by decide +kernel
theorem dX11_tellsEnd_88 : decode cX11_tellsEnd 88 = .ok (.bipush 59, 2) := by decide +kernel
theorem dX11_tellsEnd_90 : decode cX11_tellsEnd 90 = .ok (.invokevirtual 316, 3) := by decide +kernel
theorem dX11_tellsEnd_93 : decode cX11_tellsEnd 93 = .ok (.iload_n 2, 1) := by decide +kernel
theorem dX11_tellsEnd_94 : decode cX11_tellsEnd 94 = .ok (.isub, 1) := by decide +kernel
theorem dX11_tellsEnd_95 : decode cX11_tellsEnd 95 = .ok (.i2l, 1) := by decide +kernel
theorem dX11_tellsEnd_96 : decode cX11_tellsEnd 96 = .ok (.invokevirtual 18, 3) := by decide +kernel
theorem dX11_tellsEnd_99 : decode cX11_tellsEnd 99 = .ok (.aload_n 0, 1) := by decide +kernel
theorem dX11_tellsEnd_100 : decode cX11_tellsEnd 100 = .ok (.aload_n 0, 1) := by decide +kernel
theorem dX11_tellsEnd_101 : decode cX11_tellsEnd 101 = .ok (.getfield 140, 3) := by decide +kernel
theorem dX11_tellsEnd_104 : decode cX11_tellsEnd 104 = .ok (.iconst 1, 1) := by decide +kernel
theorem dX11_tellsEnd_105 : decode cX11_tellsEnd 105 = .ok (.iaload, 1) := by decide +kernel
theorem dX11_tellsEnd_106 : decode cX11_tellsEnd 106 = .ok (.iload_n 3, 1) := by decide +kernel
theorem dX11_tellsEnd_107 : decode cX11_tellsEnd 107 = .ok (.isub, 1) := by decide +kernel
theorem dX11_tellsEnd_108 : decode cX11_tellsEnd 108 = .ok (.i2l, 1) := by decide +kernel
theorem dX11_tellsEnd_109 : decode cX11_tellsEnd 109 = .ok (.invokevirtual 18, 3) := by decide +kernel
theorem dX11_tellsEnd_112 : decode cX11_tellsEnd 112 = .ok (.iload 4, 2) := by decide +kernel
theorem dX11_tellsEnd_114 : decode cX11_tellsEnd 114 = .ok (.ireturn, 1) := by decide +kernel
theorem dX11_ends_0 : decode cX11_ends 0 = .ok (.aload_n 0, 1) := by decide +kernel
theorem dX11_ends_1 : decode cX11_ends 1 = .ok (.iconst 0, 1) := by decide +kernel
theorem dX11_ends_2 : decode cX11_ends 2 = .ok (.putfield 3, 3) := by decide +kernel
theorem dX11_ends_5 : decode cX11_ends 5 = .ok (.aload_n 0, 1) := by decide +kernel
theorem dX11_ends_6 : decode cX11_ends 6 = .ok (.getfield 151, 3) := by decide +kernel
theorem dX11_ends_9 : decode cX11_ends 9 = .ok (.ifCond .ne 5, 3) := by decide +kernel
theorem dX11_ends_12 : decode cX11_ends 12 = .ok (.iconst (-1), 1) := by decide +kernel
theorem dX11_ends_13 : decode cX11_ends 13 = .ok (.ireturn, 1) := by decide +kernel
theorem dX11_ends_14 : decode cX11_ends 14 = .ok (.aload_n 0, 1) := by decide +kernel
theorem dX11_ends_15 : decode cX11_ends 15 = .ok (.aload_n 0, 1) := by decide +kernel
theorem dX11_ends_16 : decode cX11_ends 16 = .ok (.getfield 322, 3) := by decide +kernel
theorem dX11_ends_19 : decode cX11_ends 19 = .ok (.invokevirtual 325, 3) := by decide +kernel
theorem dX11_ends_22 : decode cX11_ends 22 = .ok (.aload_n 0, 1) := by decide +kernel
theorem dX11_ends_23 : decode cX11_ends 23 = .ok (.invokevirtual 329, 3) := by decide +kernel
theorem dX11_ends_26 : decode cX11_ends 26 = .ok (.istore_n 1, 1) := by decide +kernel
theorem dX11_ends_27 : decode cX11_ends 27 = .ok (.aload_n 0, 1) := by decide +kernel
theorem dX11_ends_28 : decode cX11_ends 28 = .ok (.aload_n 0, 1) := by decide +kernel
theorem dX11_ends_29 : decode cX11_ends 29 = .ok (.getfield 322, 3) := by decide +kernel
theorem dX11_ends_32 : decode cX11_ends 32 = .ok (.invokevirtual 332, 3) := by decide +kernel
theorem dX11_ends_35 : decode cX11_ends 35 = .ok (.iload_n 1, 1) := by decide +kernel
theorem dX11_ends_36 : decode cX11_ends 36 = .ok (.ireturn, 1) := by decide +kernel
theorem dX11_judge_0 : decode cX11_judge 0 = .ok (.aload_n 0, 1) := by decide +kernel
theorem dX11_judge_1 : decode cX11_judge 1 = .ok (.iconst 0, 1) := by decide +kernel
theorem dX11_judge_2 : decode cX11_judge 2 = .ok (.putfield 3, 3) := by decide +kernel
theorem dX11_judge_5 : decode cX11_judge 5 = .ok (.aload_n 0, 1) := by decide +kernel
theorem dX11_judge_6 : decode cX11_judge 6 = .ok (.getfield 151, 3) := by decide +kernel
theorem dX11_judge_9 : decode cX11_judge 9 = .ok (.ifCond .ne 5, 3) := by decide +kernel
theorem dX11_judge_12 : decode cX11_judge 12 = .ok (.iconst (-1), 1) := by decide +kernel
theorem dX11_judge_13 : decode cX11_judge 13 = .ok (.ireturn, 1) := by decide +kernel
theorem dX11_judge_14 : decode cX11_judge 14 = .ok (.aload_n 0, 1) := by decide +kernel
theorem dX11_judge_15 : decode cX11_judge 15 = .ok (.aload_n 0, 1) := by decide +kernel
theorem dX11_judge_16 : decode cX11_judge 16 = .ok (.getfield 322, 3) := by decide +kernel
theorem dX11_judge_19 : decode cX11_judge 19 = .ok (.invokevirtual 325, 3) := by decide +kernel
theorem dX11_judge_22 : decode cX11_judge 22 = .ok (.bipush (-2), 2) := by decide +kernel
theorem dX11_judge_24 : decode cX11_judge 24 = .ok (.istore_n 1, 1) := by decide +kernel
theorem dX11_judge_25 : decode cX11_judge 25 = .ok (.iload_n 1, 1) := by decide +kernel
theorem dX11_judge_26 : decode cX11_judge 26 = .ok (.ifCond .ge 194, 3) := by decide +kernel
theorem dX11_judge_29 : decode cX11_judge 29 = .ok (.aload_n 0, 1) := by decide +kernel
theorem dX11_judge_30 : decode cX11_judge 30 = .ok (.invokevirtual 313, 3) := by decide +kernel
theorem dX11_judge_33 : decode cX11_judge 33 = .ok (.ifCond .ne 187, 3) := by decide +kernel
theorem dX11_judge_36 : decode cX11_judge 36 = .ok (.aload_n 0, 1) := by decide +kernel
theorem dX11_judge_37 : decode cX11_judge 37 = .ok (.getfield 140, 3) := by decide +kernel
theorem dX11_judge_40 : decode cX11_judge 40 = .ok (.iconst 0, 1) := by decide +kernel
theorem dX11_judge_41 : decode cX11_judge 41 = .ok (.iaload, 1) := by decide +kernel
theorem dX11_judge_42 : decode cX11_judge 42 = .ok (.sipush 2399, 3) := by decide +kernel
theorem dX11_judge_45 : decode cX11_judge 45 = .ok (.if_icmp .ge 175, 3) := by decide +kernel
theorem dX11_judge_48 : decode cX11_judge 48 = .ok (.aload_n 0, 1) := by decide +kernel
theorem dX11_judge_49 : decode cX11_judge 49 = .ok (.getfield 140, 3) := by decide +kernel
theorem dX11_judge_52 : decode cX11_judge 52 = .ok (.iconst 0, 1) := by decide +kernel
theorem dX11_judge_53 : decode cX11_judge 53 = .ok (.iaload, 1) := by decide +kernel
theorem dX11_judge_54 : decode cX11_judge 54 = .ok (.istore_n 2, 1) := by decide +kernel
theorem dX11_judge_55 : decode cX11_judge 55 = .ok (.aload_n 0, 1) := by decide +kernel
theorem dX11_judge_56 : decode cX11_judge 56 = .ok (.invokevirtual 296, 3) := by decide +kernel
theorem dX11_judge_59 : decode cX11_judge 59 = .ok (.iconst 0, 1) := by decide +kernel
theorem dX11_judge_60 : decode cX11_judge 60 = .ok (.istore_n 3, 1) := by decide +kernel
theorem dX11_judge_61 : decode cX11_judge 61 = .ok (.iload_n 3, 1) := by decide +kernel
theorem dX11_judge_62 : decode cX11_judge 62 = .ok (.aload_n 0, 1) := by decide +kernel
theorem dX11_judge_63 : decode cX11_judge 63 = .ok (.getfield 151, 3) := by decide +kernel
theorem dX11_judge_66 : decode cX11_judge 66 = .ok (.if_icmp .ge 137, 3) := by decide +kernel
theorem dX11_judge_69 : decode cX11_judge 69 = .ok (.iload_n 1, 1) := by decide +kernel
theorem dX11_judge_70 : decode cX11_judge 70 = .ok (.ifCond .ge 133, 3) := by decide +kernel
theorem dX11_judge_73 : decode cX11_judge 73 = .ok (.aload_n 0, 1) := by decide +kernel
theorem dX11_judge_74 : decode cX11_judge 74 = .ok (.getfield 278, 3) := by decide +kernel
theorem dX11_judge_77 : decode cX11_judge 77 = .ok (.iload_n 3, 1) := by decide +kernel
theorem dX11_judge_78 : decode cX11_judge 78 = .ok (.invokestatic 137, 3) := by decide +kernel
theorem dX11_judge_81 : decode cX11_judge 81 = .ok (.ifCond .eq 116, 3) := by decide +kernel
theorem dX11_judge_84 : decode cX11_judge 84 = .ok (.aload_n 0, 1) := by decide +kernel
theorem dX11_judge_85 : decode cX11_judge 85 = .ok (.getfield 281, 3) := by decide +kernel
theorem dX11_judge_88 : decode cX11_judge 88 = .ok (.iload_n 3, 1) := by decide +kernel
theorem dX11_judge_89 : decode cX11_judge 89 = .ok (.invokestatic 137, 3) := by decide +kernel
theorem dX11_judge_92 : decode cX11_judge 92 = .ok (.ifCond .ne 105, 3) := by decide +kernel
theorem dX11_judge_95 : decode cX11_judge 95 = .ok (.aload_n 0, 1) := by decide +kernel
theorem dX11_judge_96 : decode cX11_judge 96 = .ok (.getfield 284, 3) := by decide +kernel
theorem dX11_judge_99 : decode cX11_judge 99 = .ok (.iload_n 3, 1) := by decide +kernel
theorem dX11_judge_100 : decode cX11_judge 100 = .ok (.invokestatic 137, 3) := by decide +kernel
theorem dX11_judge_103 : decode cX11_judge 103 = .ok (.ifCond .eq 6, 3) := by decide +kernel
theorem dX11_judge_106 : decode cX11_judge 106 = .ok (.goto 91, 3) := by decide +kernel
theorem dX11_judge_109 : decode cX11_judge 109 = .ok (.iconst 0, 1) := by decide +kernel
theorem dX11_judge_110 : decode cX11_judge 110 = .ok (.istore 4, 2) := by decide +kernel
theorem dX11_judge_112 : decode cX11_judge 112 = .ok (.iload 4, 2) := by decide +kernel
theorem dX11_judge_114 : decode cX11_judge 114 = .ok (.aload_n 0, 1) := by decide +kernel
theorem dX11_judge_115 : decode cX11_judge 115 = .ok (.getfield 22, 3) := by decide +kernel
theorem dX11_judge_118 : decode cX11_judge 118 = .ok (.if_icmp .ge 79, 3) := by decide +kernel
theorem dX11_judge_121 : decode cX11_judge 121 = .ok (.iload_n 1, 1) := by decide +kernel
theorem dX11_judge_122 : decode cX11_judge 122 = .ok (.ifCond .ge 75, 3) := by decide +kernel
theorem dX11_judge_125 : decode cX11_judge 125 = .ok (.aload_n 0, 1) := by decide +kernel
theorem dX11_judge_126 : decode cX11_judge 126 = .ok (.iload 4, 2) := by decide +kernel
theorem dX11_judge_128 : decode cX11_judge 128 = .ok (.iload_n 2, 1) := by decide +kernel
theorem dX11_judge_129 : decode cX11_judge 129 = .ok (.invokevirtual 120, 3) := by decide +kernel
theorem dX11_judge_132 : decode cX11_judge 132 = .ok (.ifCond .eq 59, 3) := by decide +kernel
theorem dX11_judge_135 : decode cX11_judge 135 = .ok (.aload_n 0, 1) := by decide +kernel
theorem dX11_judge_136 : decode cX11_judge 136 = .ok (.getfield 47, 3) := by decide +kernel
theorem dX11_judge_139 : decode cX11_judge 139 = .ok (.iload 4, 2) := by decide +kernel
theorem dX11_judge_141 : decode cX11_judge 141 = .ok (.iaload, 1) := by decide +kernel
theorem dX11_judge_142 : decode cX11_judge 142 = .ok (.aload_n 0, 1) := by decide +kernel
theorem dX11_judge_143 : decode cX11_judge 143 = .ok (.getfield 154, 3) := by decide +kernel
theorem dX11_judge_146 : decode cX11_judge 146 = .ok (.iload_n 3, 1) := by decide +kernel
theorem dX11_judge_147 : decode cX11_judge 147 = .ok (.iaload, 1) := by decide +kernel
theorem dX11_judge_148 : decode cX11_judge 148 = .ok (.invokestatic 137, 3) := by decide +kernel
theorem dX11_judge_151 : decode cX11_judge 151 = .ok (.ifCond .eq 40, 3) := by decide +kernel
theorem dX11_judge_154 : decode cX11_judge 154 = .ok (.aload_n 0, 1) := by decide +kernel
theorem dX11_judge_155 : decode cX11_judge 155 = .ok (.getfield 287, 3) := by decide +kernel
theorem dX11_judge_158 : decode cX11_judge 158 = .ok (.iload 4, 2) := by decide +kernel
theorem dX11_judge_160 : decode cX11_judge 160 = .ok (.iaload, 1) := by decide +kernel
theorem dX11_judge_161 : decode cX11_judge 161 = .ok (.aload_n 0, 1) := by decide +kernel
theorem dX11_judge_162 : decode cX11_judge 162 = .ok (.getfield 44, 3) := by decide +kernel
theorem dX11_judge_165 : decode cX11_judge 165 = .ok (.iload 4, 2) := by decide +kernel
theorem dX11_judge_167 : decode cX11_judge 167 = .ok (.iaload, 1) := by decide +kernel
theorem dX11_judge_168 : decode cX11_judge 168 = .ok (.if_icmp .ge 23, 3) := by decide +kernel
theorem dX11_judge_171 : decode cX11_judge 171 = .ok (.iload_n 2, 1) := by decide +kernel
theorem dX11_judge_172 : decode cX11_judge 172 = .ok (.istore_n 1, 1) := by decide +kernel
theorem dX11_judge_173 : decode cX11_judge 173 = .ok (.aload_n 0, 1) := by decide +kernel
theorem dX11_judge_174 : decode cX11_judge 174 = .ok (.iconst 0, 1) := by decide +kernel
theorem dX11_judge_175 : decode cX11_judge 175 = .ok (.putfield 11, 3) := by decide +kernel
theorem dX11_judge_178 : decode cX11_judge 178 = .ok (.aload_n 0, 1) := by decide +kernel
theorem dX11_judge_179 : decode cX11_judge 179 = .ok (.iload_n 3, 1) := by decide +kernel
theorem dX11_judge_180 : decode cX11_judge 180 = .ok (.i2l, 1) := by decide +kernel
theorem dX11_judge_181 : decode cX11_judge 181 = .ok (.invokevirtual 18, 3) := by decide +kernel
theorem dX11_judge_184 : decode cX11_judge 184 = .ok (.aload_n 0, 1) := by decide +kernel
theorem dX11_judge_185 : decode cX11_judge 185 = .ok (.iload 4, 2) := by decide +kernel
theorem dX11_judge_187 : decode cX11_judge 187 = .ok (.i2l, 1) := by decide +kernel
theorem dX11_judge_188 : decode cX11_judge 188 = .ok (.invokevirtual 18, 3) := by decide +kernel
theorem dX11_judge_191 : decode cX11_judge 191 = .ok (.iinc 4 1, 3) := by decide +kernel
theorem dX11_judge_194 : decode cX11_judge 194 = .ok (.goto (-82), 3) := by decide +kernel
theorem dX11_judge_197 : decode cX11_judge 197 = .ok (.iinc 3 1, 3) := by decide +kernel
theorem dX11_judge_200 : decode cX11_judge 200 = .ok (.goto (-139), 3) := by decide +kernel
theorem dX11_judge_203 : decode cX11_judge 203 = .ok (.aload_n 0, 1) := by decide +kernel
theorem dX11_judge_204 : decode cX11_judge 204 = .ok (.invokevirtual 300, 3) := by decide +kernel
theorem dX11_judge_207 : decode cX11_judge 207 = .ok (.aload_n 0, 1) := by decide +kernel
theorem dX11_judge_208 : decode cX11_judge 208 = .ok (.getfield 140, 3) := by decide +kernel
theorem dX11_judge_211 : decode cX11_judge 211 = .ok (.iconst 0, 1) := by decide +kernel
theorem dX11_judge_212 : decode cX11_judge 212 = .ok (.dup2, 1) := by decide +kernel
theorem dX11_judge_213 : decode cX11_judge 213 = .ok (.iaload, 1) := by decide +kernel
theorem dX11_judge_214 : decode cX11_judge 214 = .ok (.iconst 1, 1) := by decide +kernel
theorem dX11_judge_215 : decode cX11_judge 215 = .ok (.iadd, 1) := by decide +kernel
theorem dX11_judge_216 : decode cX11_judge 216 = .ok (.iastore, 1) := by decide +kernel
theorem dX11_judge_217 : decode cX11_judge 217 = .ok (.goto (-192), 3) := by decide +kernel
theorem dX11_judge_220 : decode cX11_judge 220 = .ok (.aload_n 0, 1) := by decide +kernel
theorem dX11_judge_221 : decode cX11_judge 221 = .ok (.aload_n 0, 1) := by decide +kernel
theorem dX11_judge_222 : decode cX11_judge 222 = .ok (.getfield 322, 3) := by decide +kernel
theorem dX11_judge_225 : decode cX11_judge 225 = .ok (.invokevirtual 332, 3) := by decide +kernel
theorem dX11_judge_228 : decode cX11_judge 228 = .ok (.iload_n 1, 1) := by decide +kernel
theorem dX11_judge_229 : decode cX11_judge 229 = .ok (.ireturn, 1) := by decide +kernel
theorem dX11_endsFrom_0 : decode cX11_endsFrom 0 = .ok (.aload_n 0, 1) := by decide +kernel
theorem dX11_endsFrom_1 : decode cX11_endsFrom 1 = .ok (.aload_n 0, 1) := by decide +kernel
theorem dX11_endsFrom_2 : decode cX11_endsFrom 2 = .ok (.getfield 322, 3) := by decide +kernel
theorem dX11_endsFrom_5 : decode cX11_endsFrom 5 = .ok (.invokevirtual 325, 3) := by decide +kernel
theorem dX11_endsFrom_8 : decode cX11_endsFrom 8 = .ok (.aload_n 0, 1) := by decide +kernel
theorem dX11_endsFrom_9 : decode cX11_endsFrom 9 = .ok (.iload_n 1, 1) := by decide +kernel
theorem dX11_endsFrom_10 : decode cX11_endsFrom 10 = .ok (.invokevirtual 303, 3) := by decide +kernel
theorem dX11_endsFrom_13 : decode cX11_endsFrom 13 = .ok (.aload_n 0, 1) := by decide +kernel
theorem dX11_endsFrom_14 : decode cX11_endsFrom 14 = .ok (.invokevirtual 319, 3) := by decide +kernel
theorem dX11_endsFrom_17 : decode cX11_endsFrom 17 = .ok (.istore_n 2, 1) := by decide +kernel
theorem dX11_endsFrom_18 : decode cX11_endsFrom 18 = .ok (.aload_n 0, 1) := by decide +kernel
theorem dX11_endsFrom_19 : decode cX11_endsFrom 19 = .ok (.aload_n 0, 1) := by decide +kernel
theorem dX11_endsFrom_20 : decode cX11_endsFrom 20 = .ok (.getfield 322, 3) := by decide +kernel
theorem dX11_endsFrom_23 : decode cX11_endsFrom 23 = .ok (.invokevirtual 332, 3) := by decide +kernel
theorem dX11_endsFrom_26 : decode cX11_endsFrom 26 = .ok (.iload_n 2, 1) := by decide +kernel
theorem dX11_endsFrom_27 : decode cX11_endsFrom 27 = .ok (.ireturn, 1) := by decide +kernel
theorem dX11_endsNow_0 : decode cX11_endsNow 0 = .ok (.aload_n 0, 1) := by decide +kernel
theorem dX11_endsNow_1 : decode cX11_endsNow 1 = .ok (.aload_n 0, 1) := by decide +kernel
theorem dX11_endsNow_2 : decode cX11_endsNow 2 = .ok (.getfield 322, 3) := by decide +kernel
theorem dX11_endsNow_5 : decode cX11_endsNow 5 = .ok (.invokevirtual 325, 3) := by decide +kernel
theorem dX11_endsNow_8 : decode cX11_endsNow 8 = .ok (.aload_n 0, 1) := by decide +kernel
theorem dX11_endsNow_9 : decode cX11_endsNow 9 = .ok (.invokevirtual 319, 3) := by decide +kernel
theorem dX11_endsNow_12 : decode cX11_endsNow 12 = .ok (.istore_n 1, 1) := by decide +kernel
theorem dX11_endsNow_13 : decode cX11_endsNow 13 = .ok (.aload_n 0, 1) := by decide +kernel
theorem dX11_endsNow_14 : decode cX11_endsNow 14 = .ok (.aload_n 0, 1) := by decide +kernel
theorem dX11_endsNow_15 : decode cX11_endsNow 15 = .ok (.getfield 322, 3) := by decide +kernel
theorem dX11_endsNow_18 : decode cX11_endsNow 18 = .ok (.invokevirtual 332, 3) := by decide +kernel
theorem dX11_endsNow_21 : decode cX11_endsNow 21 = .ok (.iload_n 1, 1) := by decide +kernel
theorem dX11_endsNow_22 : decode cX11_endsNow 22 = .ok (.ireturn, 1) := by decide +kernel
theorem dX11_placeAt_0 : decode cX11_placeAt 0 = .ok (.iload_n 0, 1) := by decide +kernel
theorem dX11_placeAt_1 : decode cX11_placeAt 1 = .ok (.bipush 6, 2) := by decide +kernel
theorem dX11_placeAt_3 : decode cX11_placeAt 3 = .ok (.imul, 1) := by decide +kernel
theorem dX11_placeAt_4 : decode cX11_placeAt 4 = .ok (.iload_n 1, 1) := by decide +kernel
theorem dX11_placeAt_5 : decode cX11_placeAt 5 = .ok (.iadd, 1) := by decide +kernel
theorem dX11_placeAt_6 : decode cX11_placeAt 6 = .ok (.sipush 128, 3) := by decide +kernel
theorem dX11_placeAt_9 : decode cX11_placeAt 9 = .ok (.imul, 1) := by decide +kernel
theorem dX11_placeAt_10 : decode cX11_placeAt 10 = .ok (.iload_n 2, 1) := by decide +kernel
theorem dX11_placeAt_11 : decode cX11_placeAt 11 = .ok (.iadd, 1) := by decide +kernel
theorem dX11_placeAt_12 : decode cX11_placeAt 12 = .ok (.ireturn, 1) := by decide +kernel
theorem dX11_empties_0 : decode cX11_empties 0 = .ok (.iconst 0, 1) := by decide +kernel
theorem dX11_empties_1 : decode cX11_empties 1 = .ok (.istore_n 2, 1) := by decide +kernel
theorem dX11_empties_2 : decode cX11_empties 2 = .ok (.iload_n 2, 1) := by decide +kernel
theorem dX11_empties_3 : decode cX11_empties 3 = .ok (.aload_n 1, 1) := by decide +kernel
theorem dX11_empties_4 : decode cX11_empties 4 = .ok (.arraylength, 1) := by decide +kernel
theorem dX11_empties_5 : decode cX11_empties 5 = .ok (.if_icmp .ge 13, 3) := by decide +kernel
theorem dX11_empties_8 : decode cX11_empties 8 = .ok (.aload_n 1, 1) := by decide +kernel
theorem dX11_empties_9 : decode cX11_empties 9 = .ok (.iload_n 2, 1) := by decide +kernel
theorem dX11_empties_10 : decode cX11_empties 10 = .ok (.iconst (-1), 1) := by decide +kernel
theorem dX11_empties_11 : decode cX11_empties 11 = .ok (.iastore, 1) := by decide +kernel
theorem dX11_empties_12 : decode cX11_empties 12 = .ok (.iinc 2 1, 3) := by decide +kernel
theorem dX11_empties_15 : decode cX11_empties 15 = .ok (.goto (-13), 3) := by decide +kernel
theorem dX11_empties_18 : decode cX11_empties 18 = .ok (.return_, 1) := by decide +kernel
theorem dX11_losesAll_0 : decode cX11_losesAll 0 = .ok (.iconst 0, 1) := by decide +kernel
theorem dX11_losesAll_1 : decode cX11_losesAll 1 = .ok (.istore_n 2, 1) := by decide +kernel
theorem dX11_losesAll_2 : decode cX11_losesAll 2 = .ok (.iload_n 2, 1) := by decide +kernel
theorem dX11_losesAll_3 : decode cX11_losesAll 3 = .ok (.aload_n 0, 1) := by decide +kernel
theorem dX11_losesAll_4 : decode cX11_losesAll 4 = .ok (.getfield 22, 3) := by decide +kernel
theorem dX11_losesAll_7 : decode cX11_losesAll 7 = .ok (.if_icmp .ge 43, 3) := by decide +kernel
theorem dX11_losesAll_10 : decode cX11_losesAll 10 = .ok (.iconst 0, 1) := by decide +kernel
theorem dX11_losesAll_11 : decode cX11_losesAll 11 = .ok (.istore_n 3, 1) := by decide +kernel
theorem dX11_losesAll_12 : decode cX11_losesAll 12 = .ok (.iload_n 3, 1) := by decide +kernel
theorem dX11_losesAll_13 : decode cX11_losesAll 13 = .ok (.aload_n 0, 1) := by decide +kernel
theorem dX11_losesAll_14 : decode cX11_losesAll 14 = .ok (.getfield 22, 3) := by decide +kernel
theorem dX11_losesAll_17 : decode cX11_losesAll 17 = .ok (.if_icmp .ge 27, 3) := by decide +kernel
theorem dX11_losesAll_20 : decode cX11_losesAll 20 = .ok (.aload_n 0, 1) := by decide +kernel
theorem dX11_losesAll_21 : decode cX11_losesAll 21 = .ok (.getfield 335, 3) := by decide +kernel
theorem dX11_losesAll_24 : decode cX11_losesAll 24 = .ok (.bipush 6, 2) := by decide +kernel
theorem dX11_losesAll_26 : decode cX11_losesAll 26 = .ok (.iload_n 2, 1) := by decide +kernel
theorem dX11_losesAll_27 : decode cX11_losesAll 27 = .ok (.imul, 1) := by decide +kernel
theorem dX11_losesAll_28 : decode cX11_losesAll 28 = .ok (.iload_n 3, 1) := by decide +kernel
theorem dX11_losesAll_29 : decode cX11_losesAll 29 = .ok (.iadd, 1) := by decide +kernel
theorem dX11_losesAll_30 : decode cX11_losesAll 30 = .ok (.aload_n 0, 1) := by decide +kernel
theorem dX11_losesAll_31 : decode cX11_losesAll 31 = .ok (.iload_n 2, 1) := by decide +kernel
theorem dX11_losesAll_32 : decode cX11_losesAll 32 = .ok (.iload_n 3, 1) := by decide +kernel
theorem dX11_losesAll_33 : decode cX11_losesAll 33 = .ok (.iload_n 1, 1) := by decide +kernel
theorem dX11_losesAll_34 : decode cX11_losesAll 34 = .ok (.invokevirtual 132, 3) := by decide +kernel
theorem dX11_losesAll_37 : decode cX11_losesAll 37 = .ok (.iastore, 1) := by decide +kernel
theorem dX11_losesAll_38 : decode cX11_losesAll 38 = .ok (.iinc 3 1, 3) := by decide +kernel
theorem dX11_losesAll_41 : decode cX11_losesAll 41 = .ok (.goto (-29), 3) := by decide +kernel
theorem dX11_losesAll_44 : decode cX11_losesAll 44 = .ok (.iinc 2 1, 3) := by decide +kernel
theorem dX11_losesAll_47 : decode cX11_losesAll 47 = .ok (.goto (-45), 3) := by decide +kernel
theorem dX11_losesAll_50 : decode cX11_losesAll 50 = .ok (.return_, 1) := by decide +kernel
theorem dX11_least_0 : decode cX11_least 0 = .ok (.aload_n 0, 1) := by decide +kernel
theorem dX11_least_1 : decode cX11_least 1 = .ok (.iload_n 1, 1) := by decide +kernel
theorem dX11_least_2 : decode cX11_least 2 = .ok (.aload_n 0, 1) := by decide +kernel
theorem dX11_least_3 : decode cX11_least 3 = .ok (.iload_n 1, 1) := by decide +kernel
theorem dX11_least_4 : decode cX11_least 4 = .ok (.iaload, 1) := by decide +kernel
theorem dX11_least_5 : decode cX11_least 5 = .ok (.ifCond .ge 7, 3) := by decide +kernel
theorem dX11_least_8 : decode cX11_least 8 = .ok (.iload_n 2, 1) := by decide +kernel
theorem dX11_least_9 : decode cX11_least 9 = .ok (.goto 10, 3) := by decide +kernel
theorem dX11_least_12 : decode cX11_least 12 = .ok (.aload_n 0, 1) := by decide +kernel
theorem dX11_least_13 : decode cX11_least 13 = .ok (.iload_n 1, 1) := by decide +kernel
theorem dX11_least_14 : decode cX11_least 14 = .ok (.iaload, 1) := by decide +kernel
theorem dX11_least_15 : decode cX11_least 15 = .ok (.iload_n 2, 1) := by decide +kernel
theorem dX11_least_16 : decode cX11_least 16 = .ok (.invokestatic 95, 3) := by decide +kernel
theorem dX11_least_19 : decode cX11_least 19 = .ok (.iastore, 1) := by decide +kernel
theorem dX11_least_20 : decode cX11_least 20 = .ok (.return_, 1) := by decide +kernel
theorem dX11_goesFrom_0 : decode cX11_goesFrom 0 = .ok (.iload_n 3, 1) := by decide +kernel
theorem dX11_goesFrom_1 : decode cX11_goesFrom 1 = .ok (.ifCond .ne 39, 3) := by decide +kernel
theorem dX11_goesFrom_4 : decode cX11_goesFrom 4 = .ok (.aload_n 0, 1) := by decide +kernel
theorem dX11_goesFrom_5 : decode cX11_goesFrom 5 = .ok (.getfield 350, 3) := by decide +kernel
theorem dX11_goesFrom_8 : decode cX11_goesFrom 8 = .ok (.ifCond .lt 20, 3) := by decide +kernel
theorem dX11_goesFrom_11 : decode cX11_goesFrom 11 = .ok (.iload_n 1, 1) := by decide +kernel
theorem dX11_goesFrom_12 : decode cX11_goesFrom 12 = .ok (.aload_n 0, 1) := by decide +kernel
theorem dX11_goesFrom_13 : decode cX11_goesFrom 13 = .ok (.getfield 350, 3) := by decide +kernel
theorem dX11_goesFrom_16 : decode cX11_goesFrom 16 = .ok (.if_icmp .ne 23, 3) := by decide +kernel
theorem dX11_goesFrom_19 : decode cX11_goesFrom 19 = .ok (.iload 4, 2) := by decide +kernel
theorem dX11_goesFrom_21 : decode cX11_goesFrom 21 = .ok (.aload_n 0, 1) := by decide +kernel
theorem dX11_goesFrom_22 : decode cX11_goesFrom 22 = .ok (.getfield 360, 3) := by decide +kernel
theorem dX11_goesFrom_25 : decode cX11_goesFrom 25 = .ok (.if_icmp .ge 14, 3) := by decide +kernel
theorem dX11_goesFrom_28 : decode cX11_goesFrom 28 = .ok (.aload_n 0, 1) := by decide +kernel
theorem dX11_goesFrom_29 : decode cX11_goesFrom 29 = .ok (.iload_n 1, 1) := by decide +kernel
theorem dX11_goesFrom_30 : decode cX11_goesFrom 30 = .ok (.putfield 350, 3) := by decide +kernel
theorem dX11_goesFrom_33 : decode cX11_goesFrom 33 = .ok (.aload_n 0, 1) := by decide +kernel
theorem dX11_goesFrom_34 : decode cX11_goesFrom 34 = .ok (.iload 4, 2) := by decide +kernel
theorem dX11_goesFrom_36 : decode cX11_goesFrom 36 = .ok (.putfield 360, 3) := by decide +kernel
theorem dX11_goesFrom_39 : decode cX11_goesFrom 39 = .ok (.return_, 1) := by decide +kernel
theorem dX11_goesFrom_40 : decode cX11_goesFrom 40 = .ok (.aload_n 0, 1) := by decide +kernel
theorem dX11_goesFrom_41 : decode cX11_goesFrom 41 = .ok (.getfield 347, 3) := by decide +kernel
theorem dX11_goesFrom_44 : decode cX11_goesFrom 44 = .ok (.iload_n 1, 1) := by decide +kernel
theorem dX11_goesFrom_45 : decode cX11_goesFrom 45 = .ok (.iload_n 2, 1) := by decide +kernel
theorem dX11_goesFrom_46 : decode cX11_goesFrom 46 = .ok (.iload_n 3, 1) := by decide +kernel
theorem dX11_goesFrom_47 : decode cX11_goesFrom 47 = .ok (.invokestatic 344, 3) := by decide +kernel
theorem dX11_goesFrom_50 : decode cX11_goesFrom 50 = .ok (.iload 4, 2) := by decide +kernel
theorem dX11_goesFrom_52 : decode cX11_goesFrom 52 = .ok (.invokestatic 363, 3) := by decide +kernel
theorem dX11_goesFrom_55 : decode cX11_goesFrom 55 = .ok (.iconst 0, 1) := by decide +kernel
theorem dX11_goesFrom_56 : decode cX11_goesFrom 56 = .ok (.istore 6, 2) := by decide +kernel
theorem dX11_goesFrom_58 : decode cX11_goesFrom 58 = .ok (.iload 6, 2) := by decide +kernel
theorem dX11_goesFrom_60 : decode cX11_goesFrom 60 = .ok (.aload_n 0, 1) := by decide +kernel
theorem dX11_goesFrom_61 : decode cX11_goesFrom 61 = .ok (.getfield 22, 3) := by decide +kernel
theorem dX11_goesFrom_64 : decode cX11_goesFrom 64 = .ok (.if_icmp .ge 58, 3) := by decide +kernel
theorem dX11_goesFrom_67 : decode cX11_goesFrom 67 = .ok (.iload_n 1, 1) := by decide +kernel
theorem dX11_goesFrom_68 : decode cX11_goesFrom 68 = .ok (.iload 5, 2) := by decide +kernel
theorem dX11_goesFrom_70 : decode cX11_goesFrom 70 = .ok (.if_icmp .ge 52, 3) := by decide +kernel
theorem dX11_goesFrom_73 : decode cX11_goesFrom 73 = .ok (.iload 6, 2) := by decide +kernel
theorem dX11_goesFrom_75 : decode cX11_goesFrom 75 = .ok (.iload_n 2, 1) := by decide +kernel
theorem dX11_goesFrom_76 : decode cX11_goesFrom 76 = .ok (.if_icmp .eq 40, 3) := by decide +kernel
theorem dX11_goesFrom_79 : decode cX11_goesFrom 79 = .ok (.aload_n 0, 1) := by decide +kernel
theorem dX11_goesFrom_80 : decode cX11_goesFrom 80 = .ok (.getfield 347, 3) := by decide +kernel
theorem dX11_goesFrom_83 : decode cX11_goesFrom 83 = .ok (.iload_n 1, 1) := by decide +kernel
theorem dX11_goesFrom_84 : decode cX11_goesFrom 84 = .ok (.iconst 1, 1) := by decide +kernel
theorem dX11_goesFrom_85 : decode cX11_goesFrom 85 = .ok (.iadd, 1) := by decide +kernel
theorem dX11_goesFrom_86 : decode cX11_goesFrom 86 = .ok (.iload 6, 2) := by decide +kernel
theorem dX11_goesFrom_88 : decode cX11_goesFrom 88 = .ok (.iload_n 3, 1) := by decide +kernel
theorem dX11_goesFrom_89 : decode cX11_goesFrom 89 = .ok (.aload_n 0, 1) := by decide +kernel
theorem dX11_goesFrom_90 : decode cX11_goesFrom 90 = .ok (.getfield 335, 3) := by decide +kernel
theorem dX11_goesFrom_93 : decode cX11_goesFrom 93 = .ok (.bipush 6, 2) := by decide +kernel
theorem dX11_goesFrom_95 : decode cX11_goesFrom 95 = .ok (.iload_n 2, 1) := by decide +kernel
theorem dX11_goesFrom_96 : decode cX11_goesFrom 96 = .ok (.imul, 1) := by decide +kernel
theorem dX11_goesFrom_97 : decode cX11_goesFrom 97 = .ok (.iload 6, 2) := by decide +kernel
theorem dX11_goesFrom_99 : decode cX11_goesFrom 99 = .ok (.iadd, 1) := by decide +kernel
theorem dX11_goesFrom_100 : decode cX11_goesFrom 100 = .ok (.iaload, 1) := by decide +kernel
theorem dX11_goesFrom_101 : decode cX11_goesFrom 101 = .ok (.iadd, 1) := by decide +kernel
theorem dX11_goesFrom_102 : decode cX11_goesFrom 102 = .ok (.invokestatic 344, 3) := by decide +kernel
theorem dX11_goesFrom_105 : decode cX11_goesFrom 105 = .ok (.bipush 8, 2) := by decide +kernel
theorem dX11_goesFrom_107 : decode cX11_goesFrom 107 = .ok (.iload 4, 2) := by decide +kernel
theorem dX11_goesFrom_109 : decode cX11_goesFrom 109 = .ok (.imul, 1) := by decide +kernel
theorem dX11_goesFrom_110 : decode cX11_goesFrom 110 = .ok (.iload 6, 2) := by decide +kernel
theorem dX11_goesFrom_112 : decode cX11_goesFrom 112 = .ok (.iadd, 1) := by decide +kernel
theorem dX11_goesFrom_113 : decode cX11_goesFrom 113 = .ok (.invokestatic 363, 3) := by decide +kernel
theorem dX11_goesFrom_116 : decode cX11_goesFrom 116 = .ok (.iinc 6 1, 3) := by decide +kernel
theorem dX11_goesFrom_119 : decode cX11_goesFrom 119 = .ok (.goto (-61), 3) := by decide +kernel
theorem dX11_goesFrom_122 : decode cX11_goesFrom 122 = .ok (.return_, 1) := by decide +kernel
noncomputable def f_X11_passes (fu : Nat) (m : hM) : Option (Unit × hM) :=
  hBd (f_X11_works fu m) fun _ m1 =>
hBd (f_X11_closes fu m1) fun _ m2 =>
hLet (sI m2 114 0 ((gI m2 114 0) + 1)) fun m3 =>
some ((), m3)
set_option maxRecDepth 100000 in
set_option maxHeartbeats 4000000 in
theorem c_X11_passes (G : hG) (fu : Nat) (m : hM) : Mt vU G 9 yX11_passes cX11_passes 1 none [hA G 96] m (f_X11_passes fu m) := by
  refine mt_of (by decide +kernel) (Nat.le_of_ble_eq_true rfl) (fun X C K => ?_)
  have C : Cx G X 9 cX11_passes 1 RX11 none := C
  show Rf vU G X 0 [(0, hA G 96)] [] m _
  unfold f_X11_passes
  refine rf_aload_n C (n := 1) (q := 0) dX11_passes_0 rfl rfl rfl ?_
  refine rf_callVv C (n := 4) (c_X11_works G fu _) mw_RX11_296 ly_96 rfl ⟨by decide, by decide⟩ rfl (Nat.le_of_ble_eq_true rfl) rfl dX11_passes_1 rfl (fun _ m1 => ?_)
  refine rf_aload_n C (n := 5) (q := 0) dX11_passes_4 rfl rfl rfl ?_
  refine rf_callVv C (n := 8) (c_X11_closes G fu _) mw_RX11_300 ly_96 rfl ⟨by decide, by decide⟩ rfl (Nat.le_of_ble_eq_true rfl) rfl dX11_passes_5 rfl (fun _ m2 => ?_)
  refine rf_aload_n C (n := 9) (q := 0) dX11_passes_8 rfl rfl rfl ?_
  refine rf_getS C (n := 12) fl_RX11_140 ly_96 rfl dX11_passes_9 rfl ?_
  refine rf_iconst C (n := 13) (v := 0) dX11_passes_12 rfl (by decide) ?_
  refine rf_dup2 C (n := 14) dX11_passes_13 rfl rfl rfl ?_
  refine rf_iald C (n := 15) (j := 0) ly_114 (by decide) (by decide) dX11_passes_14 rfl ?_
  refine rf_iconst C (n := 16) (v := 1) dX11_passes_15 rfl (by decide) ?_
  refine rf_iadd C (n := 17) dX11_passes_16 rfl ?_
  refine rf_iast C (n := 18) (j0 := 0) ly_114 (by decide) (by decide) dX11_passes_17 rfl ?_
  refine rf_letM (fun m3 => ?_)
  exact rf_vret C K dX11_passes_18
noncomputable def s_X11_begins_23 (fu : Nat) (ih : Int32 → hM → Option (Unit × hM)) (x2 : Int32) (m : hM) : Option (Unit × hM) :=
  if (gI m 96 16) ≤ x2 then (
some ((), m)) else (
hBd (f_X11_lays fu x2 m) fun _ m5 =>
hLet (x2 + 1) fun y6 =>
ih y6 m5)
noncomputable def f_X11_begins_23 (fu : Nat) (n : Nat) : Int32 → hM → Option (Unit × hM) :=
  Nat.rec (motive := fun _ => Int32 → hM → Option (Unit × hM)) (fun _ _ => none) (fun _ ih => s_X11_begins_23 fu ih) n
theorem f_X11_begins_23_s (fu : Nat) (n : Nat) (x2 : Int32) (m : hM) : f_X11_begins_23 fu (n + 1) x2 m = s_X11_begins_23 fu (f_X11_begins_23 fu n) x2 m := rfl
set_option maxRecDepth 100000 in
set_option maxHeartbeats 4000000 in
theorem r_X11_begins_23 {G : hG} {X : hX} (C : Cx G X 2 cX11_begins 3 RX11 none) (K : Cr G X) (fu : Nat) (n : Nat) : ∀ (x2 : Int32) (m : hM), Rf vU G X 23 [(0, hA G 96), (2, .int x2)] [] m (f_X11_begins_23 fu n x2 m) := by
  induction n with
  | zero => intros; exact rf_none
  | succ n ih =>
    intro x2 m
    show Rf vU G X 23 [(0, hA G 96), (2, .int x2)] [] m (s_X11_begins_23 fu (f_X11_begins_23 fu n) x2 m)
    unfold s_X11_begins_23
    refine rf_iload_n C (n := 24) (q := 1) dX11_begins_23 rfl rfl rfl ?_
    refine rf_aload_n C (n := 25) (q := 0) dX11_begins_24 rfl rfl rfl ?_
    refine rf_getI C (n := 28) fl_RX11_151 ly_96 rfl dX11_begins_25 rfl ?_
    refine rf_icmp_ge C (tgt := 42) (n := 31) dX11_begins_28 (by decide) rfl (fun h4 => ?_) (fun h4 => ?_)
    · exact rf_vret C K dX11_begins_42
    · refine rf_aload_n C (n := 32) (q := 0) dX11_begins_31 rfl rfl rfl ?_
      refine rf_iload_n C (n := 33) (q := 1) dX11_begins_32 rfl rfl rfl ?_
      refine rf_callVv C (n := 36) (c_X11_lays G fu _ _) mw_RX11_166 ly_96 rfl ⟨by decide, by decide⟩ rfl (Nat.le_of_ble_eq_true rfl) rfl dX11_begins_33 rfl (fun _ m5 => ?_)
      refine rf_iinc2 C (n := 39) (q := 1) (fun y6 => [(2, .int y6), (0, hA G 96)]) dX11_begins_36 rfl rfl (by decide) (by decide) (fun _ => rfl) (fun y6 => ?_)
      refine rf_goto C (n := 23) dX11_begins_39 (by decide) ?_
      exact rf_lv _ [1, 0] rfl (ih _ _)
noncomputable def f_X11_begins (fu : Nat) (x1 : Int32) (m : hM) : Option (Unit × hM) :=
  hLet (sI m 114 0 x1) fun m1 =>
hLet (sI m1 114 1 0) fun m2 =>
hLet (sI m2 114 2 0) fun m3 =>
f_X11_begins_23 fu fu 0 m3
set_option maxRecDepth 100000 in
set_option maxHeartbeats 4000000 in
theorem c_X11_begins (G : hG) (fu : Nat) (x1 : Int32) (m : hM) : Mt vU G 2 yX11_begins cX11_begins 3 none [hA G 96, .int x1] m (f_X11_begins fu x1 m) := by
  refine mt_of (by decide +kernel) (Nat.le_of_ble_eq_true rfl) (fun X C K => ?_)
  have C : Cx G X 2 cX11_begins 3 RX11 none := C
  show Rf vU G X 0 [(0, hA G 96), (1, .int x1)] [] m _
  unfold f_X11_begins
  refine rf_aload_n C (n := 1) (q := 0) dX11_begins_0 rfl rfl rfl ?_
  refine rf_getS C (n := 4) fl_RX11_140 ly_96 rfl dX11_begins_1 rfl ?_
  refine rf_iconst C (n := 5) (v := 0) dX11_begins_4 rfl (by decide) ?_
  refine rf_iload_n C (n := 6) (q := 1) dX11_begins_5 rfl rfl rfl ?_
  refine rf_iast C (n := 7) (j0 := 0) ly_114 (by decide) (by decide) dX11_begins_6 rfl ?_
  refine rf_letM (fun m1 => ?_)
  refine rf_aload_n C (n := 8) (q := 0) dX11_begins_7 rfl rfl rfl ?_
  refine rf_getS C (n := 11) fl_RX11_140 ly_96 rfl dX11_begins_8 rfl ?_
  refine rf_iconst C (n := 12) (v := 1) dX11_begins_11 rfl (by decide) ?_
  refine rf_iconst C (n := 13) (v := 0) dX11_begins_12 rfl (by decide) ?_
  refine rf_iast C (n := 14) (j0 := 1) ly_114 (by decide) (by decide) dX11_begins_13 rfl ?_
  refine rf_letM (fun m2 => ?_)
  refine rf_aload_n C (n := 15) (q := 0) dX11_begins_14 rfl rfl rfl ?_
  refine rf_getS C (n := 18) fl_RX11_140 ly_96 rfl dX11_begins_15 rfl ?_
  refine rf_iconst C (n := 19) (v := 2) dX11_begins_18 rfl (by decide) ?_
  refine rf_iconst C (n := 20) (v := 0) dX11_begins_19 rfl (by decide) ?_
  refine rf_iast C (n := 21) (j0 := 2) ly_114 (by decide) (by decide) dX11_begins_20 rfl ?_
  refine rf_letM (fun m3 => ?_)
  refine rf_iconst C (n := 22) (v := 0) dX11_begins_21 rfl (by decide) ?_
  refine rf_istore_n C (n := 23) [(2, .int 0), (0, hA G 96), (1, .int x1)] dX11_begins_22 rfl rfl (by decide) rfl ?_
  exact rf_lv _ [1, 0] rfl (r_X11_begins_23 C K fu fu _ _)
noncomputable def f_X11_begin (fu : Nat) (x1 : Int32) (m : hM) : Option (Int32 × hM) :=
  hLet (sI m 96 0 0) fun m1 =>
hBd (f_X11_isHour fu x1 m1) fun y2 m3 =>
if ¬ y2 = 0 then (
hBd (f_X11_begins fu x1 m3) fun _ m5 =>
some (1, m5)) else (
some (0, m3))
set_option maxRecDepth 100000 in
set_option maxHeartbeats 4000000 in
theorem c_X11_begin (G : hG) (fu : Nat) (x1 : Int32) (m : hM) : Mt vI G 3 yX11_begin cX11_begin 2 (some .boolean) [hA G 96, .int x1] m (f_X11_begin fu x1 m) := by
  refine mt_of (by decide +kernel) (Nat.le_of_ble_eq_true rfl) (fun X C K => ?_)
  have C : Cx G X 3 cX11_begin 2 RX11 (some .boolean) := C
  show Rf vI G X 0 [(0, hA G 96), (1, .int x1)] [] m _
  unfold f_X11_begin
  refine rf_aload_n C (n := 1) (q := 0) dX11_begin_0 rfl rfl rfl ?_
  refine rf_iconst C (n := 2) (v := 0) dX11_begin_1 rfl (by decide) ?_
  refine rf_putI C (n := 5) pl_RX11_3 ly_96 rfl ⟨rfl, rfl⟩ dX11_begin_2 rfl ?_
  refine rf_letM (fun m1 => ?_)
  refine rf_iload_n C (n := 6) (q := 1) dX11_begin_5 rfl rfl rfl ?_
  refine rf_callSi C (n := 9) (c_X11_isHour G fu _ _) sw_RX11_81 ⟨by decide, by decide⟩ rfl (Nat.le_of_ble_eq_true rfl) rfl dX11_begin_6 rfl (fun y2 m3 => ?_)
  refine rf_if_ne C (tgt := 14) (n := 12) dX11_begin_9 (by decide) rfl (fun h4 => ?_) (fun h4 => ?_)
  · refine rf_aload_n C (n := 15) (q := 0) dX11_begin_14 rfl rfl rfl ?_
    refine rf_iload_n C (n := 16) (q := 1) dX11_begin_15 rfl rfl rfl ?_
    refine rf_callVv C (n := 19) (c_X11_begins G fu _ _) mw_RX11_303 ly_96 rfl ⟨by decide, by decide⟩ rfl (Nat.le_of_ble_eq_true rfl) rfl dX11_begin_16 rfl (fun _ m5 => ?_)
    refine rf_iconst C (n := 20) (v := 1) dX11_begin_19 rfl (by decide) ?_
    exact rf_zret C K (by decide) dX11_begin_20
  · refine rf_iconst C (n := 13) (v := 0) dX11_begin_12 rfl (by decide) ?_
    exact rf_zret C K (by decide) dX11_begin_13
noncomputable def f_X11_go_48 (fu : Nat) (m : hM) : Option (Int32 × hM) :=
  some (gI m 114 0, m)
set_option maxRecDepth 100000 in
set_option maxHeartbeats 4000000 in
theorem r_X11_go_48 {G : hG} {X : hX} (C : Cx G X 10 cX11_go 3 RX11 (some .int)) (K : Cr G X) (fu : Nat) (m : hM) : Rf vI G X 48 [(0, hA G 96)] [] m (f_X11_go_48 fu m) := by
  unfold f_X11_go_48
  refine rf_aload_n C (n := 49) (q := 0) dX11_go_48 rfl rfl rfl ?_
  refine rf_getS C (n := 52) fl_RX11_140 ly_96 rfl dX11_go_49 rfl ?_
  refine rf_iconst C (n := 53) (v := 0) dX11_go_52 rfl (by decide) ?_
  refine rf_iald C (n := 54) (j := 0) ly_114 (by decide) (by decide) dX11_go_53 rfl ?_
  exact rf_iret C K dX11_go_54
noncomputable def s_X11_go_21 (fu : Nat) (ih : Int32 → Int32 → hM → Option (Int32 × hM)) (x1 : Int32) (x2 : Int32) (m : hM) : Option (Int32 × hM) :=
  if x1 ≤ x2 then (
f_X11_go_48 fu m) else (
if 2399 ≤ (gI m 114 0) then (
f_X11_go_48 fu m) else (
hBd (f_X11_passes fu m) fun _ m7 =>
hLet (x2 + 1) fun y8 =>
ih x1 y8 m7))
noncomputable def f_X11_go_21 (fu : Nat) (n : Nat) : Int32 → Int32 → hM → Option (Int32 × hM) :=
  Nat.rec (motive := fun _ => Int32 → Int32 → hM → Option (Int32 × hM)) (fun _ _ _ => none) (fun _ ih => s_X11_go_21 fu ih) n
theorem f_X11_go_21_s (fu : Nat) (n : Nat) (x1 : Int32) (x2 : Int32) (m : hM) : f_X11_go_21 fu (n + 1) x1 x2 m = s_X11_go_21 fu (f_X11_go_21 fu n) x1 x2 m := rfl
set_option maxRecDepth 100000 in
set_option maxHeartbeats 4000000 in
theorem r_X11_go_21 {G : hG} {X : hX} (C : Cx G X 10 cX11_go 3 RX11 (some .int)) (K : Cr G X) (fu : Nat) (n : Nat) : ∀ (x1 : Int32) (x2 : Int32) (m : hM), Rf vI G X 21 [(0, hA G 96), (1, .int x1), (2, .int x2)] [] m (f_X11_go_21 fu n x1 x2 m) := by
  induction n with
  | zero => intros; exact rf_none
  | succ n ih =>
    intro x1 x2 m
    show Rf vI G X 21 [(0, hA G 96), (1, .int x1), (2, .int x2)] [] m (s_X11_go_21 fu (f_X11_go_21 fu n) x1 x2 m)
    unfold s_X11_go_21
    refine rf_iload_n C (n := 22) (q := 2) dX11_go_21 rfl rfl rfl ?_
    refine rf_iload_n C (n := 23) (q := 1) dX11_go_22 rfl rfl rfl ?_
    refine rf_icmp_ge C (tgt := 48) (n := 26) dX11_go_23 (by decide) rfl (fun h5 => ?_) (fun h5 => ?_)
    · exact rf_lv _ [0] rfl (r_X11_go_48 C K fu _)
    · refine rf_aload_n C (n := 27) (q := 0) dX11_go_26 rfl rfl rfl ?_
      refine rf_getS C (n := 30) fl_RX11_140 ly_96 rfl dX11_go_27 rfl ?_
      refine rf_iconst C (n := 31) (v := 0) dX11_go_30 rfl (by decide) ?_
      refine rf_iald C (n := 32) (j := 0) ly_114 (by decide) (by decide) dX11_go_31 rfl ?_
      refine rf_sipush C (n := 35) (v := 2399) dX11_go_32 rfl (by decide) ?_
      refine rf_icmp_ge C (tgt := 48) (n := 38) dX11_go_35 (by decide) rfl (fun h6 => ?_) (fun h6 => ?_)
      · exact rf_lv _ [0] rfl (r_X11_go_48 C K fu _)
      · refine rf_aload_n C (n := 39) (q := 0) dX11_go_38 rfl rfl rfl ?_
        refine rf_callVv C (n := 42) (c_X11_passes G fu _) mw_RX11_308 ly_96 rfl ⟨by decide, by decide⟩ rfl (Nat.le_of_ble_eq_true rfl) rfl dX11_go_39 rfl (fun _ m7 => ?_)
        refine rf_iinc2 C (n := 45) (q := 2) (fun y8 => [(2, .int y8), (0, hA G 96), (1, .int x1)]) dX11_go_42 rfl rfl (by decide) (by decide) (fun _ => rfl) (fun y8 => ?_)
        refine rf_goto C (n := 21) dX11_go_45 (by decide) ?_
        exact rf_lv _ [1, 2, 0] rfl (ih _ _ _)
noncomputable def f_X11_go (fu : Nat) (x1 : Int32) (m : hM) : Option (Int32 × hM) :=
  hLet (sI m 96 0 0) fun m1 =>
hBd (f_X11_in fu (Int32.toInt64 x1) 0 500 m1) fun y2 m3 =>
if ¬ y2 = 0 then (
f_X11_go_21 fu fu x1 0 m3) else (
some ((-1), m3))
set_option maxRecDepth 100000 in
set_option maxHeartbeats 4000000 in
theorem c_X11_go (G : hG) (fu : Nat) (x1 : Int32) (m : hM) : Mt vI G 10 yX11_go cX11_go 3 (some .int) [hA G 96, .int x1] m (f_X11_go fu x1 m) := by
  refine mt_of (by decide +kernel) (Nat.le_of_ble_eq_true rfl) (fun X C K => ?_)
  have C : Cx G X 10 cX11_go 3 RX11 (some .int) := C
  show Rf vI G X 0 [(0, hA G 96), (1, .int x1)] [] m _
  unfold f_X11_go
  refine rf_aload_n C (n := 1) (q := 0) dX11_go_0 rfl rfl rfl ?_
  refine rf_iconst C (n := 2) (v := 0) dX11_go_1 rfl (by decide) ?_
  refine rf_putI C (n := 5) pl_RX11_3 ly_96 rfl ⟨rfl, rfl⟩ dX11_go_2 rfl ?_
  refine rf_letM (fun m1 => ?_)
  refine rf_iload_n C (n := 6) (q := 1) dX11_go_5 rfl rfl rfl ?_
  refine rf_i2l C (n := 7) dX11_go_6 rfl ?_
  refine rf_lconst C (n := 8) (v := 0) dX11_go_7 rfl (by decide) ?_
  refine rf_ldc2 C (n := 11) dX11_go_8 rfl kl_RX11_306 ?_
  refine rf_callSi C (n := 14) (c_X11_in G fu _ _ _ _) sw_RX11_25 ⟨by decide, by decide⟩ rfl (Nat.le_of_ble_eq_true rfl) rfl dX11_go_11 rfl (fun y2 m3 => ?_)
  refine rf_if_ne C (tgt := 19) (n := 17) dX11_go_14 (by decide) rfl (fun h4 => ?_) (fun h4 => ?_)
  · refine rf_iconst C (n := 20) (v := 0) dX11_go_19 rfl (by decide) ?_
    refine rf_istore_n C (n := 21) [(2, .int 0), (0, hA G 96), (1, .int x1)] dX11_go_20 rfl rfl (by decide) rfl ?_
    exact rf_lv _ [1, 2, 0] rfl (r_X11_go_21 C K fu fu _ _ _)
  · refine rf_iconst C (n := 18) (v := (-1)) dX11_go_17 rfl (by decide) ?_
    exact rf_iret C K dX11_go_18
noncomputable def f_X11_of_25 (fu : Nat) (m : hM) : Option (Int32 × hM) :=
  hBd (f_X11_refuse fu m) fun y5 m6 =>
some (y5, m6)
set_option maxRecDepth 100000 in
set_option maxHeartbeats 4000000 in
theorem r_X11_of_25 {G : hG} {X : hX} (C : Cx G X 3 cX11_of 3 RX11 (some .int)) (K : Cr G X) (fu : Nat) (m : hM) : Rf vI G X 25 [(0, hA G 96)] [] m (f_X11_of_25 fu m) := by
  unfold f_X11_of_25
  refine rf_aload_n C (n := 26) (q := 0) dX11_of_25 rfl rfl rfl ?_
  refine rf_callVi C (n := 29) (c_X11_refuse G fu _) mw_RX11_259 ly_96 rfl ⟨by decide, by decide⟩ rfl (Nat.le_of_ble_eq_true rfl) rfl dX11_of_26 rfl (fun y5 m6 => ?_)
  exact rf_iret C K dX11_of_29
noncomputable def f_X11_of (fu : Nat) (x1 : Int32) (x2 : Int32) (m : hM) : Option (Int32 × hM) :=
  hLet (sI m 96 0 0) fun m1 =>
hBd (f_X11_isPiece fu x1 m1) fun y2 m3 =>
if y2 = 0 then (
f_X11_of_25 fu m3) else (
hBd (f_X11_in fu (Int32.toInt64 x2) 0 8 m3) fun y7 m8 =>
if ¬ y7 = 0 then (
if x2 = 0 then (
if hIn (3 + x1) 127 then (
some (gI m8 114 (Int32.toNatClampNeg (3 + x1)), m8)) else none) else if x2 = 1 then (
if hIn (11 + x1) 127 then (
some (gI m8 114 (Int32.toNatClampNeg (11 + x1)), m8)) else none) else if x2 = 2 then (
if hIn (19 + x1) 127 then (
some (gI m8 114 (Int32.toNatClampNeg (19 + x1)), m8)) else none) else if x2 = 3 then (
if hIn (27 + x1) 127 then (
some (gI m8 114 (Int32.toNatClampNeg (27 + x1)), m8)) else none) else if x2 = 4 then (
if hIn (35 + x1) 127 then (
some (gI m8 114 (Int32.toNatClampNeg (35 + x1)), m8)) else none) else if x2 = 5 then (
if hIn (43 + x1) 127 then (
some (gI m8 114 (Int32.toNatClampNeg (43 + x1)), m8)) else none) else if x2 = 6 then (
if hIn (51 + x1) 127 then (
some (gI m8 114 (Int32.toNatClampNeg (51 + x1)), m8)) else none) else if x2 = 7 then (
if hIn (59 + x1) 127 then (
some (gI m8 114 (Int32.toNatClampNeg (59 + x1)), m8)) else none) else (
hBd (f_X11_isReady fu x1 m8) fun y26 m27 =>
hBd (f_X11_flag fu y26 m27) fun y28 m29 =>
some (y28, m29))) else (
f_X11_of_25 fu m8))
set_option maxRecDepth 100000 in
set_option maxHeartbeats 4000000 in
theorem c_X11_of (G : hG) (fu : Nat) (x1 : Int32) (x2 : Int32) (m : hM) : Mt vI G 3 yX11_of cX11_of 3 (some .int) [hA G 96, .int x1, .int x2] m (f_X11_of fu x1 x2 m) := by
  refine mt_of (by decide +kernel) (Nat.le_of_ble_eq_true rfl) (fun X C K => ?_)
  have C : Cx G X 3 cX11_of 3 RX11 (some .int) := C
  show Rf vI G X 0 [(0, hA G 96), (1, .int x1), (2, .int x2)] [] m _
  unfold f_X11_of
  refine rf_aload_n C (n := 1) (q := 0) dX11_of_0 rfl rfl rfl ?_
  refine rf_iconst C (n := 2) (v := 0) dX11_of_1 rfl (by decide) ?_
  refine rf_putI C (n := 5) pl_RX11_3 ly_96 rfl ⟨rfl, rfl⟩ dX11_of_2 rfl ?_
  refine rf_letM (fun m1 => ?_)
  refine rf_aload_n C (n := 6) (q := 0) dX11_of_5 rfl rfl rfl ?_
  refine rf_iload_n C (n := 7) (q := 1) dX11_of_6 rfl rfl rfl ?_
  refine rf_callVi C (n := 10) (c_X11_isPiece G fu _ _) mw_RX11_256 ly_96 rfl ⟨by decide, by decide⟩ rfl (Nat.le_of_ble_eq_true rfl) rfl dX11_of_7 rfl (fun y2 m3 => ?_)
  refine rf_if_eq C (tgt := 25) (n := 13) dX11_of_10 (by decide) rfl (fun h4 => ?_) (fun h4 => ?_)
  · exact rf_lv _ [0] rfl (r_X11_of_25 C K fu _)
  · refine rf_iload_n C (n := 14) (q := 2) dX11_of_13 rfl rfl rfl ?_
    refine rf_i2l C (n := 15) dX11_of_14 rfl ?_
    refine rf_lconst C (n := 16) (v := 0) dX11_of_15 rfl (by decide) ?_
    refine rf_ldc2 C (n := 19) dX11_of_16 rfl kl_RX11_311 ?_
    refine rf_callSi C (n := 22) (c_X11_in G fu _ _ _ _) sw_RX11_25 ⟨by decide, by decide⟩ rfl (Nat.le_of_ble_eq_true rfl) rfl dX11_of_19 rfl (fun y7 m8 => ?_)
    refine rf_if_ne C (tgt := 30) (n := 25) dX11_of_22 (by decide) rfl (fun h9 => ?_) (fun h9 => ?_)
    · refine rf_iload_n C (n := 31) (q := 2) dX11_of_30 rfl rfl rfl ?_
      refine rf_sw (fun h10 => ?_) (fun h10 => ?_)
      · refine rf_tabIn C (n := 76) (off := 45) dX11_of_31 h10 (by decide) (by decide) (by decide) (by decide) ?_
        refine rf_aload_n C (n := 77) (q := 0) dX11_of_76 rfl rfl rfl ?_
        refine rf_getS C (n := 80) fl_RX11_140 ly_96 rfl dX11_of_77 rfl ?_
        refine rf_iconst C (n := 81) (v := 3) dX11_of_80 rfl (by decide) ?_
        refine rf_iload_n C (n := 82) (q := 1) dX11_of_81 rfl rfl rfl ?_
        refine rf_iadd C (n := 83) dX11_of_82 rfl ?_
        refine rf_guard (fun h11 => ?_)
        refine rf_iald C (n := 84) ly_114 h11 rfl dX11_of_83 rfl ?_
        exact rf_iret C K dX11_of_84
      refine rf_sw (fun h12 => ?_) (fun h12 => ?_)
      · refine rf_tabIn C (n := 85) (off := 54) dX11_of_31 h12 (by decide) (by decide) (by decide) (by decide) ?_
        refine rf_aload_n C (n := 86) (q := 0) dX11_of_85 rfl rfl rfl ?_
        refine rf_getS C (n := 89) fl_RX11_140 ly_96 rfl dX11_of_86 rfl ?_
        refine rf_bipush C (n := 91) (v := 11) dX11_of_89 rfl (by decide) ?_
        refine rf_iload_n C (n := 92) (q := 1) dX11_of_91 rfl rfl rfl ?_
        refine rf_iadd C (n := 93) dX11_of_92 rfl ?_
        refine rf_guard (fun h13 => ?_)
        refine rf_iald C (n := 94) ly_114 h13 rfl dX11_of_93 rfl ?_
        exact rf_iret C K dX11_of_94
      refine rf_sw (fun h14 => ?_) (fun h14 => ?_)
      · refine rf_tabIn C (n := 95) (off := 64) dX11_of_31 h14 (by decide) (by decide) (by decide) (by decide) ?_
        refine rf_aload_n C (n := 96) (q := 0) dX11_of_95 rfl rfl rfl ?_
        refine rf_getS C (n := 99) fl_RX11_140 ly_96 rfl dX11_of_96 rfl ?_
        refine rf_bipush C (n := 101) (v := 19) dX11_of_99 rfl (by decide) ?_
        refine rf_iload_n C (n := 102) (q := 1) dX11_of_101 rfl rfl rfl ?_
        refine rf_iadd C (n := 103) dX11_of_102 rfl ?_
        refine rf_guard (fun h15 => ?_)
        refine rf_iald C (n := 104) ly_114 h15 rfl dX11_of_103 rfl ?_
        exact rf_iret C K dX11_of_104
      refine rf_sw (fun h16 => ?_) (fun h16 => ?_)
      · refine rf_tabIn C (n := 105) (off := 74) dX11_of_31 h16 (by decide) (by decide) (by decide) (by decide) ?_
        refine rf_aload_n C (n := 106) (q := 0) dX11_of_105 rfl rfl rfl ?_
        refine rf_getS C (n := 109) fl_RX11_140 ly_96 rfl dX11_of_106 rfl ?_
        refine rf_bipush C (n := 111) (v := 27) dX11_of_109 rfl (by decide) ?_
        refine rf_iload_n C (n := 112) (q := 1) dX11_of_111 rfl rfl rfl ?_
        refine rf_iadd C (n := 113) dX11_of_112 rfl ?_
        refine rf_guard (fun h17 => ?_)
        refine rf_iald C (n := 114) ly_114 h17 rfl dX11_of_113 rfl ?_
        exact rf_iret C K dX11_of_114
      refine rf_sw (fun h18 => ?_) (fun h18 => ?_)
      · refine rf_tabIn C (n := 115) (off := 84) dX11_of_31 h18 (by decide) (by decide) (by decide) (by decide) ?_
        refine rf_aload_n C (n := 116) (q := 0) dX11_of_115 rfl rfl rfl ?_
        refine rf_getS C (n := 119) fl_RX11_140 ly_96 rfl dX11_of_116 rfl ?_
        refine rf_bipush C (n := 121) (v := 35) dX11_of_119 rfl (by decide) ?_
        refine rf_iload_n C (n := 122) (q := 1) dX11_of_121 rfl rfl rfl ?_
        refine rf_iadd C (n := 123) dX11_of_122 rfl ?_
        refine rf_guard (fun h19 => ?_)
        refine rf_iald C (n := 124) ly_114 h19 rfl dX11_of_123 rfl ?_
        exact rf_iret C K dX11_of_124
      refine rf_sw (fun h20 => ?_) (fun h20 => ?_)
      · refine rf_tabIn C (n := 125) (off := 94) dX11_of_31 h20 (by decide) (by decide) (by decide) (by decide) ?_
        refine rf_aload_n C (n := 126) (q := 0) dX11_of_125 rfl rfl rfl ?_
        refine rf_getS C (n := 129) fl_RX11_140 ly_96 rfl dX11_of_126 rfl ?_
        refine rf_bipush C (n := 131) (v := 43) dX11_of_129 rfl (by decide) ?_
        refine rf_iload_n C (n := 132) (q := 1) dX11_of_131 rfl rfl rfl ?_
        refine rf_iadd C (n := 133) dX11_of_132 rfl ?_
        refine rf_guard (fun h21 => ?_)
        refine rf_iald C (n := 134) ly_114 h21 rfl dX11_of_133 rfl ?_
        exact rf_iret C K dX11_of_134
      refine rf_sw (fun h22 => ?_) (fun h22 => ?_)
      · refine rf_tabIn C (n := 135) (off := 104) dX11_of_31 h22 (by decide) (by decide) (by decide) (by decide) ?_
        refine rf_aload_n C (n := 136) (q := 0) dX11_of_135 rfl rfl rfl ?_
        refine rf_getS C (n := 139) fl_RX11_140 ly_96 rfl dX11_of_136 rfl ?_
        refine rf_bipush C (n := 141) (v := 51) dX11_of_139 rfl (by decide) ?_
        refine rf_iload_n C (n := 142) (q := 1) dX11_of_141 rfl rfl rfl ?_
        refine rf_iadd C (n := 143) dX11_of_142 rfl ?_
        refine rf_guard (fun h23 => ?_)
        refine rf_iald C (n := 144) ly_114 h23 rfl dX11_of_143 rfl ?_
        exact rf_iret C K dX11_of_144
      refine rf_sw (fun h24 => ?_) (fun h24 => ?_)
      · refine rf_tabIn C (n := 145) (off := 114) dX11_of_31 h24 (by decide) (by decide) (by decide) (by decide) ?_
        refine rf_aload_n C (n := 146) (q := 0) dX11_of_145 rfl rfl rfl ?_
        refine rf_getS C (n := 149) fl_RX11_140 ly_96 rfl dX11_of_146 rfl ?_
        refine rf_bipush C (n := 151) (v := 59) dX11_of_149 rfl (by decide) ?_
        refine rf_iload_n C (n := 152) (q := 1) dX11_of_151 rfl rfl rfl ?_
        refine rf_iadd C (n := 153) dX11_of_152 rfl ?_
        refine rf_guard (fun h25 => ?_)
        refine rf_iald C (n := 154) ly_114 h25 rfl dX11_of_153 rfl ?_
        exact rf_iret C K dX11_of_154
      refine rf_tabD C (n := 155) dX11_of_31 [0, 1, 2, 3, 4, 5, 6, 7] (by intro c hc; simp only [List.mem_cons, List.not_mem_nil, or_false] at hc; rcases hc with rfl | rfl | rfl | rfl | rfl | rfl | rfl | rfl <;> assumption) (by decide) (by decide) (by decide) ?_
      refine rf_aload_n C (n := 156) (q := 0) dX11_of_155 rfl rfl rfl ?_
      refine rf_iload_n C (n := 157) (q := 1) dX11_of_156 rfl rfl rfl ?_
      refine rf_callVi C (n := 160) (c_X11_isReady G fu _ _) mw_RX11_268 ly_96 rfl ⟨by decide, by decide⟩ rfl (Nat.le_of_ble_eq_true rfl) rfl dX11_of_157 rfl (fun y26 m27 => ?_)
      refine rf_callSi C (n := 163) (c_X11_flag G fu _ _) sw_RX11_124 ⟨by decide, by decide⟩ rfl (Nat.le_of_ble_eq_true rfl) rfl dX11_of_160 rfl (fun y28 m29 => ?_)
      exact rf_iret C K dX11_of_163
    · exact rf_lv _ [0] rfl (r_X11_of_25 C K fu _)
noncomputable def f_X11_hand (fu : Nat) (x1 : Int32) (x2 : Int32) (m : hM) : Option (Int32 × hM) :=
  hLet (sI m 96 0 0) fun m1 =>
hBd (f_X11_isPiece fu x1 m1) fun y2 m3 =>
if y2 = 0 then (
some ((-1), m3)) else (
hBd (f_X11_isOffice fu x2 m3) fun y5 m6 =>
if y5 = 0 then (
some ((-1), m6)) else (
hBd (f_X11_isDone fu x1 m6) fun y8 m9 =>
if ¬ y8 = 0 then (
some ((-1), m9)) else (
if hIn (3 + x1) 127 then (
if ¬ (gI m9 114 (Int32.toNatClampNeg (3 + x1))) = x2 then (
hBd (f_X11_hands fu x1 x2 (gI m9 114 0) m9) fun y13 m14 =>
some (y13, m14)) else (
some ((-1), m9))) else none)))
set_option maxRecDepth 100000 in
set_option maxHeartbeats 4000000 in
theorem c_X11_hand (G : hG) (fu : Nat) (x1 : Int32) (x2 : Int32) (m : hM) : Mt vI G 7 yX11_hand cX11_hand 3 (some .int) [hA G 96, .int x1, .int x2] m (f_X11_hand fu x1 x2 m) := by
  refine mt_of (by decide +kernel) (Nat.le_of_ble_eq_true rfl) (fun X C K => ?_)
  have C : Cx G X 7 cX11_hand 3 RX11 (some .int) := C
  show Rf vI G X 0 [(0, hA G 96), (1, .int x1), (2, .int x2)] [] m _
  unfold f_X11_hand
  refine rf_aload_n C (n := 1) (q := 0) dX11_hand_0 rfl rfl rfl ?_
  refine rf_iconst C (n := 2) (v := 0) dX11_hand_1 rfl (by decide) ?_
  refine rf_putI C (n := 5) pl_RX11_3 ly_96 rfl ⟨rfl, rfl⟩ dX11_hand_2 rfl ?_
  refine rf_letM (fun m1 => ?_)
  refine rf_aload_n C (n := 6) (q := 0) dX11_hand_5 rfl rfl rfl ?_
  refine rf_iload_n C (n := 7) (q := 1) dX11_hand_6 rfl rfl rfl ?_
  refine rf_callVi C (n := 10) (c_X11_isPiece G fu _ _) mw_RX11_256 ly_96 rfl ⟨by decide, by decide⟩ rfl (Nat.le_of_ble_eq_true rfl) rfl dX11_hand_7 rfl (fun y2 m3 => ?_)
  refine rf_if_eq C (tgt := 41) (n := 13) dX11_hand_10 (by decide) rfl (fun h4 => ?_) (fun h4 => ?_)
  · refine rf_iconst C (n := 42) (v := (-1)) dX11_hand_41 rfl (by decide) ?_
    exact rf_iret C K dX11_hand_42
  · refine rf_aload_n C (n := 14) (q := 0) dX11_hand_13 rfl rfl rfl ?_
    refine rf_iload_n C (n := 15) (q := 2) dX11_hand_14 rfl rfl rfl ?_
    refine rf_callVi C (n := 18) (c_X11_isOffice G fu _ _) mw_RX11_77 ly_96 rfl ⟨by decide, by decide⟩ rfl (Nat.le_of_ble_eq_true rfl) rfl dX11_hand_15 rfl (fun y5 m6 => ?_)
    refine rf_if_eq C (tgt := 41) (n := 21) dX11_hand_18 (by decide) rfl (fun h7 => ?_) (fun h7 => ?_)
    · refine rf_iconst C (n := 42) (v := (-1)) dX11_hand_41 rfl (by decide) ?_
      exact rf_iret C K dX11_hand_42
    · refine rf_aload_n C (n := 22) (q := 0) dX11_hand_21 rfl rfl rfl ?_
      refine rf_iload_n C (n := 23) (q := 1) dX11_hand_22 rfl rfl rfl ?_
      refine rf_callVi C (n := 26) (c_X11_isDone G fu _ _) mw_RX11_265 ly_96 rfl ⟨by decide, by decide⟩ rfl (Nat.le_of_ble_eq_true rfl) rfl dX11_hand_23 rfl (fun y8 m9 => ?_)
      refine rf_if_ne C (tgt := 41) (n := 29) dX11_hand_26 (by decide) rfl (fun h10 => ?_) (fun h10 => ?_)
      · refine rf_iconst C (n := 42) (v := (-1)) dX11_hand_41 rfl (by decide) ?_
        exact rf_iret C K dX11_hand_42
      · refine rf_aload_n C (n := 30) (q := 0) dX11_hand_29 rfl rfl rfl ?_
        refine rf_getS C (n := 33) fl_RX11_140 ly_96 rfl dX11_hand_30 rfl ?_
        refine rf_iconst C (n := 34) (v := 3) dX11_hand_33 rfl (by decide) ?_
        refine rf_iload_n C (n := 35) (q := 1) dX11_hand_34 rfl rfl rfl ?_
        refine rf_iadd C (n := 36) dX11_hand_35 rfl ?_
        refine rf_guard (fun h11 => ?_)
        refine rf_iald C (n := 37) ly_114 h11 rfl dX11_hand_36 rfl ?_
        refine rf_iload_n C (n := 38) (q := 2) dX11_hand_37 rfl rfl rfl ?_
        refine rf_icmp_ne C (tgt := 43) (n := 41) dX11_hand_38 (by decide) rfl (fun h12 => ?_) (fun h12 => ?_)
        · refine rf_aload_n C (n := 44) (q := 0) dX11_hand_43 rfl rfl rfl ?_
          refine rf_iload_n C (n := 45) (q := 1) dX11_hand_44 rfl rfl rfl ?_
          refine rf_iload_n C (n := 46) (q := 2) dX11_hand_45 rfl rfl rfl ?_
          refine rf_aload_n C (n := 47) (q := 0) dX11_hand_46 rfl rfl rfl ?_
          refine rf_getS C (n := 50) fl_RX11_140 ly_96 rfl dX11_hand_47 rfl ?_
          refine rf_iconst C (n := 51) (v := 0) dX11_hand_50 rfl (by decide) ?_
          refine rf_iald C (n := 52) (j := 0) ly_114 (by decide) (by decide) dX11_hand_51 rfl ?_
          refine rf_callVi C (n := 55) (c_X11_hands G fu _ _ _ _) mw_RX11_294 ly_96 rfl ⟨by decide, by decide⟩ rfl (Nat.le_of_ble_eq_true rfl) rfl dX11_hand_52 rfl (fun y13 m14 => ?_)
          exact rf_iret C K dX11_hand_55
        · refine rf_iconst C (n := 42) (v := (-1)) dX11_hand_41 rfl (by decide) ?_
          exact rf_iret C K dX11_hand_42
noncomputable def f_X11_isAllDone_29 (fu : Nat) (k4 : Int32 → Int32 → hM → Option (Int32 × hM)) (x2 : Int32) (s0 : Int32) (m : hM) : Option (Int32 × hM) :=
  hLet (x2 + 1) fun y4 =>
k4 s0 y4 m
set_option maxRecDepth 100000 in
set_option maxHeartbeats 4000000 in
theorem r_X11_isAllDone_29 {G : hG} {X : hX} (C : Cx G X 2 cX11_isAllDone 3 RX11 (some .boolean)) (K : Cr G X) (fu : Nat) (k4 : Int32 → Int32 → hM → Option (Int32 × hM)) (hk4 : ∀ (x1 : Int32) (x2 : Int32) (m : hM), Rf vI G X 4 [(0, hA G 96), (1, .int x1), (2, .int x2)] [] m (k4 x1 x2 m)) (x2 : Int32) (s0 : Int32) (m : hM) : Rf vI G X 29 [(0, hA G 96), (2, .int x2)] [.int s0] m (f_X11_isAllDone_29 fu k4 x2 s0 m) := by
  unfold f_X11_isAllDone_29
  refine rf_istore_n C (n := 30) [(1, .int s0), (0, hA G 96), (2, .int x2)] dX11_isAllDone_29 rfl rfl (by decide) rfl ?_
  refine rf_iinc2 C (n := 33) (q := 2) (fun y4 => [(2, .int y4), (1, .int s0), (0, hA G 96)]) dX11_isAllDone_30 rfl rfl (by decide) (by decide) (fun _ => rfl) (fun y4 => ?_)
  refine rf_goto C (n := 4) dX11_isAllDone_33 (by decide) ?_
  exact rf_lv _ [2, 1, 0] rfl (hk4 _ _ _)
noncomputable def f_X11_isAllDone_28 (fu : Nat) (k4 : Int32 → Int32 → hM → Option (Int32 × hM)) (x2 : Int32) (m : hM) : Option (Int32 × hM) :=
  f_X11_isAllDone_29 fu k4 x2 0 m
set_option maxRecDepth 100000 in
set_option maxHeartbeats 4000000 in
theorem r_X11_isAllDone_28 {G : hG} {X : hX} (C : Cx G X 2 cX11_isAllDone 3 RX11 (some .boolean)) (K : Cr G X) (fu : Nat) (k4 : Int32 → Int32 → hM → Option (Int32 × hM)) (hk4 : ∀ (x1 : Int32) (x2 : Int32) (m : hM), Rf vI G X 4 [(0, hA G 96), (1, .int x1), (2, .int x2)] [] m (k4 x1 x2 m)) (x2 : Int32) (m : hM) : Rf vI G X 28 [(0, hA G 96), (2, .int x2)] [] m (f_X11_isAllDone_28 fu k4 x2 m) := by
  unfold f_X11_isAllDone_28
  refine rf_iconst C (n := 29) (v := 0) dX11_isAllDone_28 rfl (by decide) ?_
  exact rf_lv _ [0, 1] rfl (r_X11_isAllDone_29 C K fu _ hk4 _ _ _)
noncomputable def s_X11_isAllDone_4 (fu : Nat) (ih : Int32 → Int32 → hM → Option (Int32 × hM)) (x1 : Int32) (x2 : Int32) (m : hM) : Option (Int32 × hM) :=
  if (gI m 96 16) ≤ x2 then (
if x1 = 0 ∨ x1 = 1 then (
some (x1, m)) else none) else (
if x1 = 0 then (
f_X11_isAllDone_28 fu ih x2 m) else (
hBd (f_X11_isDone fu x2 m) fun y5 m6 =>
if y5 = 0 then (
f_X11_isAllDone_28 fu ih x2 m6) else (
f_X11_isAllDone_29 fu ih x2 1 m6)))
noncomputable def f_X11_isAllDone_4 (fu : Nat) (n : Nat) : Int32 → Int32 → hM → Option (Int32 × hM) :=
  Nat.rec (motive := fun _ => Int32 → Int32 → hM → Option (Int32 × hM)) (fun _ _ _ => none) (fun _ ih => s_X11_isAllDone_4 fu ih) n
theorem f_X11_isAllDone_4_s (fu : Nat) (n : Nat) (x1 : Int32) (x2 : Int32) (m : hM) : f_X11_isAllDone_4 fu (n + 1) x1 x2 m = s_X11_isAllDone_4 fu (f_X11_isAllDone_4 fu n) x1 x2 m := rfl
set_option maxRecDepth 100000 in
set_option maxHeartbeats 4000000 in
theorem r_X11_isAllDone_4 {G : hG} {X : hX} (C : Cx G X 2 cX11_isAllDone 3 RX11 (some .boolean)) (K : Cr G X) (fu : Nat) (n : Nat) : ∀ (x1 : Int32) (x2 : Int32) (m : hM), Rf vI G X 4 [(0, hA G 96), (1, .int x1), (2, .int x2)] [] m (f_X11_isAllDone_4 fu n x1 x2 m) := by
  induction n with
  | zero => intros; exact rf_none
  | succ n ih =>
    intro x1 x2 m
    show Rf vI G X 4 [(0, hA G 96), (1, .int x1), (2, .int x2)] [] m (s_X11_isAllDone_4 fu (f_X11_isAllDone_4 fu n) x1 x2 m)
    unfold s_X11_isAllDone_4
    refine rf_iload_n C (n := 5) (q := 2) dX11_isAllDone_4 rfl rfl rfl ?_
    refine rf_aload_n C (n := 6) (q := 0) dX11_isAllDone_5 rfl rfl rfl ?_
    refine rf_getI C (n := 9) fl_RX11_151 ly_96 rfl dX11_isAllDone_6 rfl ?_
    refine rf_icmp_ge C (tgt := 36) (n := 12) dX11_isAllDone_9 (by decide) rfl (fun h1 => ?_) (fun h1 => ?_)
    · refine rf_iload_n C (n := 37) (q := 1) dX11_isAllDone_36 rfl rfl rfl ?_
      refine rf_guard (fun h2 => ?_)
      exact rf_zret C K (hz_bool h2).1 dX11_isAllDone_37
    · refine rf_iload_n C (n := 13) (q := 1) dX11_isAllDone_12 rfl rfl rfl ?_
      refine rf_if_eq C (tgt := 28) (n := 16) dX11_isAllDone_13 (by decide) rfl (fun h3 => ?_) (fun h3 => ?_)
      · exact rf_lv _ [0, 2] rfl (r_X11_isAllDone_28 C K fu _ ih _ _)
      · refine rf_aload_n C (n := 17) (q := 0) dX11_isAllDone_16 rfl rfl rfl ?_
        refine rf_iload_n C (n := 18) (q := 2) dX11_isAllDone_17 rfl rfl rfl ?_
        refine rf_callVi C (n := 21) (c_X11_isDone G fu _ _) mw_RX11_265 ly_96 rfl ⟨by decide, by decide⟩ rfl (Nat.le_of_ble_eq_true rfl) rfl dX11_isAllDone_18 rfl (fun y5 m6 => ?_)
        refine rf_if_eq C (tgt := 28) (n := 24) dX11_isAllDone_21 (by decide) rfl (fun h7 => ?_) (fun h7 => ?_)
        · exact rf_lv _ [0, 2] rfl (r_X11_isAllDone_28 C K fu _ ih _ _)
        · refine rf_iconst C (n := 25) (v := 1) dX11_isAllDone_24 rfl (by decide) ?_
          refine rf_goto C (n := 29) dX11_isAllDone_25 (by decide) ?_
          exact rf_lv _ [0, 2] rfl (r_X11_isAllDone_29 C K fu _ ih _ _ _)
noncomputable def f_X11_isAllDone (fu : Nat) (m : hM) : Option (Int32 × hM) :=
  f_X11_isAllDone_4 fu fu 1 0 m
set_option maxRecDepth 100000 in
set_option maxHeartbeats 4000000 in
theorem c_X11_isAllDone (G : hG) (fu : Nat) (m : hM) : Mt vI G 2 yX11_isAllDone cX11_isAllDone 3 (some .boolean) [hA G 96] m (f_X11_isAllDone fu m) := by
  refine mt_of (by decide +kernel) (Nat.le_of_ble_eq_true rfl) (fun X C K => ?_)
  have C : Cx G X 2 cX11_isAllDone 3 RX11 (some .boolean) := C
  show Rf vI G X 0 [(0, hA G 96)] [] m _
  unfold f_X11_isAllDone
  refine rf_iconst C (n := 1) (v := 1) dX11_isAllDone_0 rfl (by decide) ?_
  refine rf_istore_n C (n := 2) [(1, .int 1), (0, hA G 96)] dX11_isAllDone_1 rfl rfl (by decide) rfl ?_
  refine rf_iconst C (n := 3) (v := 0) dX11_isAllDone_2 rfl (by decide) ?_
  refine rf_istore_n C (n := 4) [(2, .int 0), (1, .int 1), (0, hA G 96)] dX11_isAllDone_3 rfl rfl (by decide) rfl ?_
  exact rf_lv _ [2, 1, 0] rfl (r_X11_isAllDone_4 C K fu fu _ _ _)
noncomputable def f_X11_goesOn_44 (fu : Nat) (m : hM) : Option (Int32 × hM) :=
  some (gI m 114 0, m)
set_option maxRecDepth 100000 in
set_option maxHeartbeats 4000000 in
theorem r_X11_goesOn_44 {G : hG} {X : hX} (C : Cx G X 10 cX11_goesOn 2 RX11 (some .int)) (K : Cr G X) (fu : Nat) (m : hM) : Rf vI G X 44 [(0, hA G 96)] [] m (f_X11_goesOn_44 fu m) := by
  unfold f_X11_goesOn_44
  refine rf_aload_n C (n := 45) (q := 0) dX11_goesOn_44 rfl rfl rfl ?_
  refine rf_getS C (n := 48) fl_RX11_140 ly_96 rfl dX11_goesOn_45 rfl ?_
  refine rf_iconst C (n := 49) (v := 0) dX11_goesOn_48 rfl (by decide) ?_
  refine rf_iald C (n := 50) (j := 0) ly_114 (by decide) (by decide) dX11_goesOn_49 rfl ?_
  exact rf_iret C K dX11_goesOn_50
noncomputable def s_X11_goesOn_16 (fu : Nat) (ih : hM → Option (Int32 × hM)) (m : hM) : Option (Int32 × hM) :=
  hBd (f_X11_isAllDone fu m) fun y5 m6 =>
if ¬ y5 = 0 then (
f_X11_goesOn_44 fu m6) else (
if (gI m6 114 0) < 2399 then (
hBd (f_X11_passes fu m6) fun _ m9 =>
ih m9) else (
some ((-1), m6)))
noncomputable def f_X11_goesOn_16 (fu : Nat) (n : Nat) : hM → Option (Int32 × hM) :=
  Nat.rec (motive := fun _ => hM → Option (Int32 × hM)) (fun _ => none) (fun _ ih => s_X11_goesOn_16 fu ih) n
theorem f_X11_goesOn_16_s (fu : Nat) (n : Nat) (m : hM) : f_X11_goesOn_16 fu (n + 1) m = s_X11_goesOn_16 fu (f_X11_goesOn_16 fu n) m := rfl
set_option maxRecDepth 100000 in
set_option maxHeartbeats 4000000 in
theorem r_X11_goesOn_16 {G : hG} {X : hX} (C : Cx G X 10 cX11_goesOn 2 RX11 (some .int)) (K : Cr G X) (fu : Nat) (n : Nat) : ∀ (m : hM), Rf vI G X 16 [(0, hA G 96)] [] m (f_X11_goesOn_16 fu n m) := by
  induction n with
  | zero => intros; exact rf_none
  | succ n ih =>
    intro m
    show Rf vI G X 16 [(0, hA G 96)] [] m (s_X11_goesOn_16 fu (f_X11_goesOn_16 fu n) m)
    unfold s_X11_goesOn_16
    refine rf_aload_n C (n := 17) (q := 0) dX11_goesOn_16 rfl rfl rfl ?_
    refine rf_callVi C (n := 20) (c_X11_isAllDone G fu _) mw_RX11_313 ly_96 rfl ⟨by decide, by decide⟩ rfl (Nat.le_of_ble_eq_true rfl) rfl dX11_goesOn_17 rfl (fun y5 m6 => ?_)
    refine rf_if_ne C (tgt := 44) (n := 23) dX11_goesOn_20 (by decide) rfl (fun h7 => ?_) (fun h7 => ?_)
    · exact rf_lv _ [0] rfl (r_X11_goesOn_44 C K fu _)
    · refine rf_aload_n C (n := 24) (q := 0) dX11_goesOn_23 rfl rfl rfl ?_
      refine rf_getS C (n := 27) fl_RX11_140 ly_96 rfl dX11_goesOn_24 rfl ?_
      refine rf_iconst C (n := 28) (v := 0) dX11_goesOn_27 rfl (by decide) ?_
      refine rf_iald C (n := 29) (j := 0) ly_114 (by decide) (by decide) dX11_goesOn_28 rfl ?_
      refine rf_sipush C (n := 32) (v := 2399) dX11_goesOn_29 rfl (by decide) ?_
      refine rf_icmp_lt C (tgt := 37) (n := 35) dX11_goesOn_32 (by decide) rfl (fun h8 => ?_) (fun h8 => ?_)
      · refine rf_aload_n C (n := 38) (q := 0) dX11_goesOn_37 rfl rfl rfl ?_
        refine rf_callVv C (n := 41) (c_X11_passes G fu _) mw_RX11_308 ly_96 rfl ⟨by decide, by decide⟩ rfl (Nat.le_of_ble_eq_true rfl) rfl dX11_goesOn_38 rfl (fun _ m9 => ?_)
        refine rf_goto C (n := 16) dX11_goesOn_41 (by decide) ?_
        exact rf_lv _ [0] rfl (ih _)
      · refine rf_iconst C (n := 36) (v := (-1)) dX11_goesOn_35 rfl (by decide) ?_
        exact rf_iret C K dX11_goesOn_36
noncomputable def f_X11_goesOn (fu : Nat) (m : hM) : Option (Int32 × hM) :=
  hLet (gI m 114 0) fun y1 =>
hBd (f_X11_isAllDone fu m) fun y2 m3 =>
if y2 = 0 then (
f_X11_goesOn_16 fu fu m3) else (
some (y1, m3))
set_option maxRecDepth 100000 in
set_option maxHeartbeats 4000000 in
theorem c_X11_goesOn (G : hG) (fu : Nat) (m : hM) : Mt vI G 10 yX11_goesOn cX11_goesOn 2 (some .int) [hA G 96] m (f_X11_goesOn fu m) := by
  refine mt_of (by decide +kernel) (Nat.le_of_ble_eq_true rfl) (fun X C K => ?_)
  have C : Cx G X 10 cX11_goesOn 2 RX11 (some .int) := C
  show Rf vI G X 0 [(0, hA G 96)] [] m _
  unfold f_X11_goesOn
  refine rf_aload_n C (n := 1) (q := 0) dX11_goesOn_0 rfl rfl rfl ?_
  refine rf_getS C (n := 4) fl_RX11_140 ly_96 rfl dX11_goesOn_1 rfl ?_
  refine rf_iconst C (n := 5) (v := 0) dX11_goesOn_4 rfl (by decide) ?_
  refine rf_iald C (n := 6) (j := 0) ly_114 (by decide) (by decide) dX11_goesOn_5 rfl ?_
  refine rf_letI (fun y1 => ?_)
  refine rf_istore_n C (n := 7) [(1, .int y1), (0, hA G 96)] dX11_goesOn_6 rfl rfl (by decide) rfl ?_
  refine rf_aload_n C (n := 8) (q := 1) dX11_goesOn_7 rfl rfl rfl ?_
  refine rf_callVi C (n := 11) (c_X11_isAllDone G fu _) mw_RX11_313 ly_96 rfl ⟨by decide, by decide⟩ rfl (Nat.le_of_ble_eq_true rfl) rfl dX11_goesOn_8 rfl (fun y2 m3 => ?_)
  refine rf_if_eq C (tgt := 16) (n := 14) dX11_goesOn_11 (by decide) rfl (fun h4 => ?_) (fun h4 => ?_)
  · exact rf_lv _ [1] rfl (r_X11_goesOn_16 C K fu fu _)
  · refine rf_iload_n C (n := 15) (q := 0) dX11_goesOn_14 rfl rfl rfl ?_
    exact rf_iret C K dX11_goesOn_15
noncomputable def s_X11_sumOf_4 (fu : Nat) (ih : Int32 → Int32 → Int32 → hM → Option (Int32 × hM)) (x1 : Int32) (x2 : Int32) (x3 : Int32) (m : hM) : Option (Int32 × hM) :=
  if (gI m 96 16) ≤ x3 then (
some (x2, m)) else (
if hIn (x1 + x3) 127 then (
hLet (x2 + (gI m 114 (Int32.toNatClampNeg (x1 + x3)))) fun y3 =>
hLet (x3 + 1) fun y4 =>
ih x1 y3 y4 m) else none)
noncomputable def f_X11_sumOf_4 (fu : Nat) (n : Nat) : Int32 → Int32 → Int32 → hM → Option (Int32 × hM) :=
  Nat.rec (motive := fun _ => Int32 → Int32 → Int32 → hM → Option (Int32 × hM)) (fun _ _ _ _ => none) (fun _ ih => s_X11_sumOf_4 fu ih) n
theorem f_X11_sumOf_4_s (fu : Nat) (n : Nat) (x1 : Int32) (x2 : Int32) (x3 : Int32) (m : hM) : f_X11_sumOf_4 fu (n + 1) x1 x2 x3 m = s_X11_sumOf_4 fu (f_X11_sumOf_4 fu n) x1 x2 x3 m := rfl
set_option maxRecDepth 100000 in
set_option maxHeartbeats 4000000 in
theorem r_X11_sumOf_4 {G : hG} {X : hX} (C : Cx G X 1 cX11_sumOf 4 RX11 (some .int)) (K : Cr G X) (fu : Nat) (n : Nat) : ∀ (x1 : Int32) (x2 : Int32) (x3 : Int32) (m : hM), Rf vI G X 4 [(0, hA G 96), (1, .int x1), (2, .int x2), (3, .int x3)] [] m (f_X11_sumOf_4 fu n x1 x2 x3 m) := by
  induction n with
  | zero => intros; exact rf_none
  | succ n ih =>
    intro x1 x2 x3 m
    show Rf vI G X 4 [(0, hA G 96), (1, .int x1), (2, .int x2), (3, .int x3)] [] m (s_X11_sumOf_4 fu (f_X11_sumOf_4 fu n) x1 x2 x3 m)
    unfold s_X11_sumOf_4
    refine rf_iload_n C (n := 5) (q := 3) dX11_sumOf_4 rfl rfl rfl ?_
    refine rf_aload_n C (n := 6) (q := 0) dX11_sumOf_5 rfl rfl rfl ?_
    refine rf_getI C (n := 9) fl_RX11_151 ly_96 rfl dX11_sumOf_6 rfl ?_
    refine rf_icmp_ge C (tgt := 29) (n := 12) dX11_sumOf_9 (by decide) rfl (fun h1 => ?_) (fun h1 => ?_)
    · refine rf_iload_n C (n := 30) (q := 2) dX11_sumOf_29 rfl rfl rfl ?_
      exact rf_iret C K dX11_sumOf_30
    · refine rf_iload_n C (n := 13) (q := 2) dX11_sumOf_12 rfl rfl rfl ?_
      refine rf_aload_n C (n := 14) (q := 0) dX11_sumOf_13 rfl rfl rfl ?_
      refine rf_getS C (n := 17) fl_RX11_140 ly_96 rfl dX11_sumOf_14 rfl ?_
      refine rf_iload_n C (n := 18) (q := 1) dX11_sumOf_17 rfl rfl rfl ?_
      refine rf_iload_n C (n := 19) (q := 3) dX11_sumOf_18 rfl rfl rfl ?_
      refine rf_iadd C (n := 20) dX11_sumOf_19 rfl ?_
      refine rf_guard (fun h2 => ?_)
      refine rf_iald C (n := 21) ly_114 h2 rfl dX11_sumOf_20 rfl ?_
      refine rf_iadd C (n := 22) dX11_sumOf_21 rfl ?_
      refine rf_letI (fun y3 => ?_)
      refine rf_istore_n C (n := 23) [(2, .int y3), (0, hA G 96), (1, .int x1), (3, .int x3)] dX11_sumOf_22 rfl rfl (by decide) rfl ?_
      refine rf_iinc2 C (n := 26) (q := 3) (fun y4 => [(3, .int y4), (2, .int y3), (0, hA G 96), (1, .int x1)]) dX11_sumOf_23 rfl rfl (by decide) (by decide) (fun _ => rfl) (fun y4 => ?_)
      refine rf_goto C (n := 4) dX11_sumOf_26 (by decide) ?_
      exact rf_lv _ [2, 3, 1, 0] rfl (ih _ _ _ _)
noncomputable def f_X11_sumOf (fu : Nat) (x1 : Int32) (m : hM) : Option (Int32 × hM) :=
  f_X11_sumOf_4 fu fu x1 0 0 m
set_option maxRecDepth 100000 in
set_option maxHeartbeats 4000000 in
theorem c_X11_sumOf (G : hG) (fu : Nat) (x1 : Int32) (m : hM) : Mt vI G 1 yX11_sumOf cX11_sumOf 4 (some .int) [hA G 96, .int x1] m (f_X11_sumOf fu x1 m) := by
  refine mt_of (by decide +kernel) (Nat.le_of_ble_eq_true rfl) (fun X C K => ?_)
  have C : Cx G X 1 cX11_sumOf 4 RX11 (some .int) := C
  show Rf vI G X 0 [(0, hA G 96), (1, .int x1)] [] m _
  unfold f_X11_sumOf
  refine rf_iconst C (n := 1) (v := 0) dX11_sumOf_0 rfl (by decide) ?_
  refine rf_istore_n C (n := 2) [(2, .int 0), (0, hA G 96), (1, .int x1)] dX11_sumOf_1 rfl rfl (by decide) rfl ?_
  refine rf_iconst C (n := 3) (v := 0) dX11_sumOf_2 rfl (by decide) ?_
  refine rf_istore_n C (n := 4) [(3, .int 0), (2, .int 0), (0, hA G 96), (1, .int x1)] dX11_sumOf_3 rfl rfl (by decide) rfl ?_
  exact rf_lv _ [2, 3, 1, 0] rfl (r_X11_sumOf_4 C K fu fu _ _ _ _)
noncomputable def f_X11_tellsEnd_73 (fu : Nat) (x1 : Int32) (x2 : Int32) (x3 : Int32) (x4 : Int32) (m : hM) : Option (Int32 × hM) :=
  hBd (f_X11_sumOf fu 51 m) fun y11 m12 =>
hBd (f_X11_enters fu (Int32.toInt64 (y11 - x1)) m12) fun _ m13 =>
hBd (f_X11_sumOf fu 59 m13) fun y14 m15 =>
hBd (f_X11_enters fu (Int32.toInt64 (y14 - x2)) m15) fun _ m16 =>
hBd (f_X11_enters fu (Int32.toInt64 ((gI m16 114 1) - x3)) m16) fun _ m17 =>
some (x4, m17)
set_option maxRecDepth 100000 in
set_option maxHeartbeats 4000000 in
theorem r_X11_tellsEnd_73 {G : hG} {X : hX} (C : Cx G X 11 cX11_tellsEnd 6 RX11 (some .int)) (K : Cr G X) (fu : Nat) (x1 : Int32) (x2 : Int32) (x3 : Int32) (x4 : Int32) (m : hM) : Rf vI G X 73 [(0, hA G 96), (1, .int x1), (2, .int x2), (3, .int x3), (4, .int x4)] [] m (f_X11_tellsEnd_73 fu x1 x2 x3 x4 m) := by
  unfold f_X11_tellsEnd_73
  refine rf_aload_n C (n := 74) (q := 0) dX11_tellsEnd_73 rfl rfl rfl ?_
  refine rf_aload_n C (n := 75) (q := 0) dX11_tellsEnd_74 rfl rfl rfl ?_
  refine rf_bipush C (n := 77) (v := 51) dX11_tellsEnd_75 rfl (by decide) ?_
  refine rf_callVi C (n := 80) (c_X11_sumOf G fu _ _) mw_RX11_316 ly_96 rfl ⟨by decide, by decide⟩ rfl (Nat.le_of_ble_eq_true rfl) rfl dX11_tellsEnd_77 rfl (fun y11 m12 => ?_)
  refine rf_iload_n C (n := 81) (q := 1) dX11_tellsEnd_80 rfl rfl rfl ?_
  refine rf_isub C (n := 82) dX11_tellsEnd_81 rfl ?_
  refine rf_i2l C (n := 83) dX11_tellsEnd_82 rfl ?_
  refine rf_callVv C (n := 86) (c_X11_enters G fu _ _) mw_RX11_18 ly_96 rfl ⟨by decide, by decide⟩ rfl (Nat.le_of_ble_eq_true rfl) rfl dX11_tellsEnd_83 rfl (fun _ m13 => ?_)
  refine rf_aload_n C (n := 87) (q := 0) dX11_tellsEnd_86 rfl rfl rfl ?_
  refine rf_aload_n C (n := 88) (q := 0) dX11_tellsEnd_87 rfl rfl rfl ?_
  refine rf_bipush C (n := 90) (v := 59) dX11_tellsEnd_88 rfl (by decide) ?_
  refine rf_callVi C (n := 93) (c_X11_sumOf G fu _ _) mw_RX11_316 ly_96 rfl ⟨by decide, by decide⟩ rfl (Nat.le_of_ble_eq_true rfl) rfl dX11_tellsEnd_90 rfl (fun y14 m15 => ?_)
  refine rf_iload_n C (n := 94) (q := 2) dX11_tellsEnd_93 rfl rfl rfl ?_
  refine rf_isub C (n := 95) dX11_tellsEnd_94 rfl ?_
  refine rf_i2l C (n := 96) dX11_tellsEnd_95 rfl ?_
  refine rf_callVv C (n := 99) (c_X11_enters G fu _ _) mw_RX11_18 ly_96 rfl ⟨by decide, by decide⟩ rfl (Nat.le_of_ble_eq_true rfl) rfl dX11_tellsEnd_96 rfl (fun _ m16 => ?_)
  refine rf_aload_n C (n := 100) (q := 0) dX11_tellsEnd_99 rfl rfl rfl ?_
  refine rf_aload_n C (n := 101) (q := 0) dX11_tellsEnd_100 rfl rfl rfl ?_
  refine rf_getS C (n := 104) fl_RX11_140 ly_96 rfl dX11_tellsEnd_101 rfl ?_
  refine rf_iconst C (n := 105) (v := 1) dX11_tellsEnd_104 rfl (by decide) ?_
  refine rf_iald C (n := 106) (j := 1) ly_114 (by decide) (by decide) dX11_tellsEnd_105 rfl ?_
  refine rf_iload_n C (n := 107) (q := 3) dX11_tellsEnd_106 rfl rfl rfl ?_
  refine rf_isub C (n := 108) dX11_tellsEnd_107 rfl ?_
  refine rf_i2l C (n := 109) dX11_tellsEnd_108 rfl ?_
  refine rf_callVv C (n := 112) (c_X11_enters G fu _ _) mw_RX11_18 ly_96 rfl ⟨by decide, by decide⟩ rfl (Nat.le_of_ble_eq_true rfl) rfl dX11_tellsEnd_109 rfl (fun _ m17 => ?_)
  refine rf_iload C (n := 114) (q := 4) dX11_tellsEnd_112 rfl rfl ?_
  exact rf_iret C K dX11_tellsEnd_114
noncomputable def s_X11_tellsEnd_43 (fu : Nat) (ih : Int32 → Int32 → Int32 → Int32 → Int32 → hM → Option (Int32 × hM)) (x1 : Int32) (x2 : Int32) (x3 : Int32) (x4 : Int32) (x5 : Int32) (m : hM) : Option (Int32 × hM) :=
  if (gI m 96 16) ≤ x5 then (
f_X11_tellsEnd_73 fu x1 x2 x3 x4 m) else (
if hIn (35 + x5) 127 then (
hBd (f_X11_enters fu (Int32.toInt64 (gI m 114 (Int32.toNatClampNeg (35 + x5)))) m) fun _ m19 =>
hLet (x5 + 1) fun y20 =>
ih x1 x2 x3 x4 y20 m19) else none)
noncomputable def f_X11_tellsEnd_43 (fu : Nat) (n : Nat) : Int32 → Int32 → Int32 → Int32 → Int32 → hM → Option (Int32 × hM) :=
  Nat.rec (motive := fun _ => Int32 → Int32 → Int32 → Int32 → Int32 → hM → Option (Int32 × hM)) (fun _ _ _ _ _ _ => none) (fun _ ih => s_X11_tellsEnd_43 fu ih) n
theorem f_X11_tellsEnd_43_s (fu : Nat) (n : Nat) (x1 : Int32) (x2 : Int32) (x3 : Int32) (x4 : Int32) (x5 : Int32) (m : hM) : f_X11_tellsEnd_43 fu (n + 1) x1 x2 x3 x4 x5 m = s_X11_tellsEnd_43 fu (f_X11_tellsEnd_43 fu n) x1 x2 x3 x4 x5 m := rfl
set_option maxRecDepth 100000 in
set_option maxHeartbeats 4000000 in
theorem r_X11_tellsEnd_43 {G : hG} {X : hX} (C : Cx G X 11 cX11_tellsEnd 6 RX11 (some .int)) (K : Cr G X) (fu : Nat) (n : Nat) : ∀ (x1 : Int32) (x2 : Int32) (x3 : Int32) (x4 : Int32) (x5 : Int32) (m : hM), Rf vI G X 43 [(0, hA G 96), (1, .int x1), (2, .int x2), (3, .int x3), (4, .int x4), (5, .int x5)] [] m (f_X11_tellsEnd_43 fu n x1 x2 x3 x4 x5 m) := by
  induction n with
  | zero => intros; exact rf_none
  | succ n ih =>
    intro x1 x2 x3 x4 x5 m
    show Rf vI G X 43 [(0, hA G 96), (1, .int x1), (2, .int x2), (3, .int x3), (4, .int x4), (5, .int x5)] [] m (s_X11_tellsEnd_43 fu (f_X11_tellsEnd_43 fu n) x1 x2 x3 x4 x5 m)
    unfold s_X11_tellsEnd_43
    refine rf_iload C (n := 45) (q := 5) dX11_tellsEnd_43 rfl rfl ?_
    refine rf_aload_n C (n := 46) (q := 0) dX11_tellsEnd_45 rfl rfl rfl ?_
    refine rf_getI C (n := 49) fl_RX11_151 ly_96 rfl dX11_tellsEnd_46 rfl ?_
    refine rf_icmp_ge C (tgt := 73) (n := 52) dX11_tellsEnd_49 (by decide) rfl (fun h10 => ?_) (fun h10 => ?_)
    · exact rf_lv _ [0, 1, 2, 3, 4] rfl (r_X11_tellsEnd_73 C K fu _ _ _ _ _)
    · refine rf_aload_n C (n := 53) (q := 0) dX11_tellsEnd_52 rfl rfl rfl ?_
      refine rf_aload_n C (n := 54) (q := 0) dX11_tellsEnd_53 rfl rfl rfl ?_
      refine rf_getS C (n := 57) fl_RX11_140 ly_96 rfl dX11_tellsEnd_54 rfl ?_
      refine rf_bipush C (n := 59) (v := 35) dX11_tellsEnd_57 rfl (by decide) ?_
      refine rf_iload C (n := 61) (q := 5) dX11_tellsEnd_59 rfl rfl ?_
      refine rf_iadd C (n := 62) dX11_tellsEnd_61 rfl ?_
      refine rf_guard (fun h18 => ?_)
      refine rf_iald C (n := 63) ly_114 h18 rfl dX11_tellsEnd_62 rfl ?_
      refine rf_i2l C (n := 64) dX11_tellsEnd_63 rfl ?_
      refine rf_callVv C (n := 67) (c_X11_enters G fu _ _) mw_RX11_18 ly_96 rfl ⟨by decide, by decide⟩ rfl (Nat.le_of_ble_eq_true rfl) rfl dX11_tellsEnd_64 rfl (fun _ m19 => ?_)
      refine rf_iinc2 C (n := 70) (q := 5) (fun y20 => [(5, .int y20), (0, hA G 96), (1, .int x1), (2, .int x2), (3, .int x3), (4, .int x4)]) dX11_tellsEnd_67 rfl rfl (by decide) (by decide) (fun _ => rfl) (fun y20 => ?_)
      refine rf_goto C (n := 43) dX11_tellsEnd_70 (by decide) ?_
      exact rf_lv _ [1, 2, 3, 4, 5, 0] rfl (ih _ _ _ _ _ _)
noncomputable def f_X11_tellsEnd (fu : Nat) (m : hM) : Option (Int32 × hM) :=
  hBd (f_X11_sumOf fu 51 m) fun y1 m2 =>
hBd (f_X11_sumOf fu 59 m2) fun y3 m4 =>
hLet (gI m4 114 1) fun y5 =>
hBd (f_X11_goesOn fu m4) fun y6 m7 =>
if 0 ≤ y6 then (
hLet (sI m7 96 1 0) fun m9 =>
f_X11_tellsEnd_43 fu fu y1 y3 y5 y6 0 m9) else (
some ((-2), m7))
set_option maxRecDepth 100000 in
set_option maxHeartbeats 4000000 in
theorem c_X11_tellsEnd (G : hG) (fu : Nat) (m : hM) : Mt vI G 11 yX11_tellsEnd cX11_tellsEnd 6 (some .int) [hA G 96] m (f_X11_tellsEnd fu m) := by
  refine mt_of (by decide +kernel) (Nat.le_of_ble_eq_true rfl) (fun X C K => ?_)
  have C : Cx G X 11 cX11_tellsEnd 6 RX11 (some .int) := C
  show Rf vI G X 0 [(0, hA G 96)] [] m _
  unfold f_X11_tellsEnd
  refine rf_aload_n C (n := 1) (q := 0) dX11_tellsEnd_0 rfl rfl rfl ?_
  refine rf_bipush C (n := 3) (v := 51) dX11_tellsEnd_1 rfl (by decide) ?_
  refine rf_callVi C (n := 6) (c_X11_sumOf G fu _ _) mw_RX11_316 ly_96 rfl ⟨by decide, by decide⟩ rfl (Nat.le_of_ble_eq_true rfl) rfl dX11_tellsEnd_3 rfl (fun y1 m2 => ?_)
  refine rf_istore_n C (n := 7) [(1, .int y1), (0, hA G 96)] dX11_tellsEnd_6 rfl rfl (by decide) rfl ?_
  refine rf_aload_n C (n := 8) (q := 1) dX11_tellsEnd_7 rfl rfl rfl ?_
  refine rf_bipush C (n := 10) (v := 59) dX11_tellsEnd_8 rfl (by decide) ?_
  refine rf_callVi C (n := 13) (c_X11_sumOf G fu _ _) mw_RX11_316 ly_96 rfl ⟨by decide, by decide⟩ rfl (Nat.le_of_ble_eq_true rfl) rfl dX11_tellsEnd_10 rfl (fun y3 m4 => ?_)
  refine rf_istore_n C (n := 14) [(2, .int y3), (1, .int y1), (0, hA G 96)] dX11_tellsEnd_13 rfl rfl (by decide) rfl ?_
  refine rf_aload_n C (n := 15) (q := 2) dX11_tellsEnd_14 rfl rfl rfl ?_
  refine rf_getS C (n := 18) fl_RX11_140 ly_96 rfl dX11_tellsEnd_15 rfl ?_
  refine rf_iconst C (n := 19) (v := 1) dX11_tellsEnd_18 rfl (by decide) ?_
  refine rf_iald C (n := 20) (j := 1) ly_114 (by decide) (by decide) dX11_tellsEnd_19 rfl ?_
  refine rf_letI (fun y5 => ?_)
  refine rf_istore_n C (n := 21) [(3, .int y5), (2, .int y3), (1, .int y1), (0, hA G 96)] dX11_tellsEnd_20 rfl rfl (by decide) rfl ?_
  refine rf_aload_n C (n := 22) (q := 3) dX11_tellsEnd_21 rfl rfl rfl ?_
  refine rf_callVi C (n := 25) (c_X11_goesOn G fu _) mw_RX11_319 ly_96 rfl ⟨by decide, by decide⟩ rfl (Nat.le_of_ble_eq_true rfl) rfl dX11_tellsEnd_22 rfl (fun y6 m7 => ?_)
  refine rf_istore C (n := 27) [(4, .int y6), (3, .int y5), (2, .int y3), (1, .int y1), (0, hA G 96)] dX11_tellsEnd_25 rfl (by decide) rfl ?_
  refine rf_iload C (n := 29) (q := 0) dX11_tellsEnd_27 rfl rfl ?_
  refine rf_if_ge C (tgt := 35) (n := 32) dX11_tellsEnd_29 (by decide) rfl (fun h8 => ?_) (fun h8 => ?_)
  · refine rf_aload_n C (n := 36) (q := 4) dX11_tellsEnd_35 rfl rfl rfl ?_
    refine rf_iconst C (n := 37) (v := 0) dX11_tellsEnd_36 rfl (by decide) ?_
    refine rf_putI C (n := 40) pl_RX11_11 ly_96 rfl ⟨rfl, rfl⟩ dX11_tellsEnd_37 rfl ?_
    refine rf_letM (fun m9 => ?_)
    refine rf_iconst C (n := 41) (v := 0) dX11_tellsEnd_40 rfl (by decide) ?_
    refine rf_istore C (n := 43) [(5, .int 0), (4, .int y6), (3, .int y5), (2, .int y3), (1, .int y1), (0, hA G 96)] dX11_tellsEnd_41 rfl (by decide) rfl ?_
    exact rf_lv _ [5, 4, 3, 2, 1, 0] rfl (r_X11_tellsEnd_43 C K fu fu _ _ _ _ _ _)
  · refine rf_bipush C (n := 34) (v := (-2)) dX11_tellsEnd_32 rfl (by decide) ?_
    exact rf_iret C K dX11_tellsEnd_34
noncomputable def f_X11_ends (fu : Nat) (m : hM) : Option (Int32 × hM) :=
  hLet (sI m 96 0 0) fun m1 =>
if ¬ (gI m1 96 16) = 0 then (
hBd (f_X11_putsBy fu m1) fun _ m3 =>
hBd (f_X11_tellsEnd fu m3) fun y4 m5 =>
hBd (f_X11_takesBack fu m5) fun _ m6 =>
some (y4, m6)) else (
some ((-1), m1))
set_option maxRecDepth 100000 in
set_option maxHeartbeats 4000000 in
theorem c_X11_ends (G : hG) (fu : Nat) (m : hM) : Mt vI G 12 yX11_ends cX11_ends 2 (some .int) [hA G 96] m (f_X11_ends fu m) := by
  refine mt_of (by decide +kernel) (Nat.le_of_ble_eq_true rfl) (fun X C K => ?_)
  have C : Cx G X 12 cX11_ends 2 RX11 (some .int) := C
  show Rf vI G X 0 [(0, hA G 96)] [] m _
  unfold f_X11_ends
  refine rf_aload_n C (n := 1) (q := 0) dX11_ends_0 rfl rfl rfl ?_
  refine rf_iconst C (n := 2) (v := 0) dX11_ends_1 rfl (by decide) ?_
  refine rf_putI C (n := 5) pl_RX11_3 ly_96 rfl ⟨rfl, rfl⟩ dX11_ends_2 rfl ?_
  refine rf_letM (fun m1 => ?_)
  refine rf_aload_n C (n := 6) (q := 0) dX11_ends_5 rfl rfl rfl ?_
  refine rf_getI C (n := 9) fl_RX11_151 ly_96 rfl dX11_ends_6 rfl ?_
  refine rf_if_ne C (tgt := 14) (n := 12) dX11_ends_9 (by decide) rfl (fun h2 => ?_) (fun h2 => ?_)
  · refine rf_aload_n C (n := 15) (q := 0) dX11_ends_14 rfl rfl rfl ?_
    refine rf_aload_n C (n := 16) (q := 0) dX11_ends_15 rfl rfl rfl ?_
    refine rf_getS C (n := 19) fl_RX11_322 ly_96 rfl dX11_ends_16 rfl ?_
    refine rf_callVv C (n := 22) (c_X11_putsBy G fu _) mw_RX11_325 ly_96 rfl ⟨by decide, by decide⟩ rfl (Nat.le_of_ble_eq_true rfl) rfl dX11_ends_19 rfl (fun _ m3 => ?_)
    refine rf_aload_n C (n := 23) (q := 0) dX11_ends_22 rfl rfl rfl ?_
    refine rf_callVi C (n := 26) (c_X11_tellsEnd G fu _) mw_RX11_329 ly_96 rfl ⟨by decide, by decide⟩ rfl (Nat.le_of_ble_eq_true rfl) rfl dX11_ends_23 rfl (fun y4 m5 => ?_)
    refine rf_istore_n C (n := 27) [(1, .int y4), (0, hA G 96)] dX11_ends_26 rfl rfl (by decide) rfl ?_
    refine rf_aload_n C (n := 28) (q := 1) dX11_ends_27 rfl rfl rfl ?_
    refine rf_aload_n C (n := 29) (q := 1) dX11_ends_28 rfl rfl rfl ?_
    refine rf_getS C (n := 32) fl_RX11_322 ly_96 rfl dX11_ends_29 rfl ?_
    refine rf_callVv C (n := 35) (c_X11_takesBack G fu _) mw_RX11_332 ly_96 rfl ⟨by decide, by decide⟩ rfl (Nat.le_of_ble_eq_true rfl) rfl dX11_ends_32 rfl (fun _ m6 => ?_)
    refine rf_iload_n C (n := 36) (q := 0) dX11_ends_35 rfl rfl rfl ?_
    exact rf_iret C K dX11_ends_36
  · refine rf_iconst C (n := 13) (v := (-1)) dX11_ends_12 rfl (by decide) ?_
    exact rf_iret C K dX11_ends_13
noncomputable def f_X11_judge_220 (fu : Nat) (x1 : Int32) (m : hM) : Option (Int32 × hM) :=
  hBd (f_X11_takesBack fu m) fun _ m5 =>
some (x1, m5)
set_option maxRecDepth 100000 in
set_option maxHeartbeats 4000000 in
theorem r_X11_judge_220 {G : hG} {X : hX} (C : Cx G X 9 cX11_judge 5 RX11 (some .int)) (K : Cr G X) (fu : Nat) (x1 : Int32) (m : hM) : Rf vI G X 220 [(0, hA G 96), (1, .int x1)] [] m (f_X11_judge_220 fu x1 m) := by
  unfold f_X11_judge_220
  refine rf_aload_n C (n := 221) (q := 0) dX11_judge_220 rfl rfl rfl ?_
  refine rf_aload_n C (n := 222) (q := 0) dX11_judge_221 rfl rfl rfl ?_
  refine rf_getS C (n := 225) fl_RX11_322 ly_96 rfl dX11_judge_222 rfl ?_
  refine rf_callVv C (n := 228) (c_X11_takesBack G fu _) mw_RX11_332 ly_96 rfl ⟨by decide, by decide⟩ rfl (Nat.le_of_ble_eq_true rfl) rfl dX11_judge_225 rfl (fun _ m5 => ?_)
  refine rf_iload_n C (n := 229) (q := 1) dX11_judge_228 rfl rfl rfl ?_
  exact rf_iret C K dX11_judge_229
noncomputable def f_X11_judge_203 (fu : Nat) (k25 : Int32 → hM → Option (Int32 × hM)) (x1 : Int32) (m : hM) : Option (Int32 × hM) :=
  hBd (f_X11_closes fu m) fun _ m13 =>
hLet (sI m13 114 0 ((gI m13 114 0) + 1)) fun m14 =>
k25 x1 m14
set_option maxRecDepth 100000 in
set_option maxHeartbeats 4000000 in
theorem r_X11_judge_203 {G : hG} {X : hX} (C : Cx G X 9 cX11_judge 5 RX11 (some .int)) (K : Cr G X) (fu : Nat) (k25 : Int32 → hM → Option (Int32 × hM)) (hk25 : ∀ (x1 : Int32) (m : hM), Rf vI G X 25 [(0, hA G 96), (1, .int x1)] [] m (k25 x1 m)) (x1 : Int32) (m : hM) : Rf vI G X 203 [(0, hA G 96), (1, .int x1)] [] m (f_X11_judge_203 fu k25 x1 m) := by
  unfold f_X11_judge_203
  refine rf_aload_n C (n := 204) (q := 0) dX11_judge_203 rfl rfl rfl ?_
  refine rf_callVv C (n := 207) (c_X11_closes G fu _) mw_RX11_300 ly_96 rfl ⟨by decide, by decide⟩ rfl (Nat.le_of_ble_eq_true rfl) rfl dX11_judge_204 rfl (fun _ m13 => ?_)
  refine rf_aload_n C (n := 208) (q := 0) dX11_judge_207 rfl rfl rfl ?_
  refine rf_getS C (n := 211) fl_RX11_140 ly_96 rfl dX11_judge_208 rfl ?_
  refine rf_iconst C (n := 212) (v := 0) dX11_judge_211 rfl (by decide) ?_
  refine rf_dup2 C (n := 213) dX11_judge_212 rfl rfl rfl ?_
  refine rf_iald C (n := 214) (j := 0) ly_114 (by decide) (by decide) dX11_judge_213 rfl ?_
  refine rf_iconst C (n := 215) (v := 1) dX11_judge_214 rfl (by decide) ?_
  refine rf_iadd C (n := 216) dX11_judge_215 rfl ?_
  refine rf_iast C (n := 217) (j0 := 0) ly_114 (by decide) (by decide) dX11_judge_216 rfl ?_
  refine rf_letM (fun m14 => ?_)
  refine rf_goto C (n := 25) dX11_judge_217 (by decide) ?_
  exact rf_lv _ [0, 1] rfl (hk25 _ _)
noncomputable def f_X11_judge_197 (fu : Nat) (k25 : Int32 → hM → Option (Int32 × hM)) (k61 : Int32 → Int32 → Int32 → hM → Option (Int32 × hM)) (x1 : Int32) (x2 : Int32) (x3 : Int32) (m : hM) : Option (Int32 × hM) :=
  hLet (x3 + 1) fun y19 =>
k61 x1 x2 y19 m
set_option maxRecDepth 100000 in
set_option maxHeartbeats 4000000 in
theorem r_X11_judge_197 {G : hG} {X : hX} (C : Cx G X 9 cX11_judge 5 RX11 (some .int)) (K : Cr G X) (fu : Nat) (k25 : Int32 → hM → Option (Int32 × hM)) (hk25 : ∀ (x1 : Int32) (m : hM), Rf vI G X 25 [(0, hA G 96), (1, .int x1)] [] m (k25 x1 m)) (k61 : Int32 → Int32 → Int32 → hM → Option (Int32 × hM)) (hk61 : ∀ (x1 : Int32) (x2 : Int32) (x3 : Int32) (m : hM), Rf vI G X 61 [(0, hA G 96), (1, .int x1), (2, .int x2), (3, .int x3)] [] m (k61 x1 x2 x3 m)) (x1 : Int32) (x2 : Int32) (x3 : Int32) (m : hM) : Rf vI G X 197 [(0, hA G 96), (1, .int x1), (2, .int x2), (3, .int x3)] [] m (f_X11_judge_197 fu k25 k61 x1 x2 x3 m) := by
  unfold f_X11_judge_197
  refine rf_iinc2 C (n := 200) (q := 3) (fun y19 => [(3, .int y19), (0, hA G 96), (1, .int x1), (2, .int x2)]) dX11_judge_197 rfl rfl (by decide) (by decide) (fun _ => rfl) (fun y19 => ?_)
  refine rf_goto C (n := 61) dX11_judge_200 (by decide) ?_
  exact rf_lv _ [1, 2, 3, 0] rfl (hk61 _ _ _ _)
noncomputable def f_X11_judge_191 (fu : Nat) (k25 : Int32 → hM → Option (Int32 × hM)) (k61 : Int32 → Int32 → Int32 → hM → Option (Int32 × hM)) (k112 : Int32 → Int32 → Int32 → Int32 → hM → Option (Int32 × hM)) (x1 : Int32) (x2 : Int32) (x3 : Int32) (x4 : Int32) (m : hM) : Option (Int32 × hM) :=
  hLet (x4 + 1) fun y31 =>
k112 x1 x2 x3 y31 m
set_option maxRecDepth 100000 in
set_option maxHeartbeats 4000000 in
theorem r_X11_judge_191 {G : hG} {X : hX} (C : Cx G X 9 cX11_judge 5 RX11 (some .int)) (K : Cr G X) (fu : Nat) (k25 : Int32 → hM → Option (Int32 × hM)) (hk25 : ∀ (x1 : Int32) (m : hM), Rf vI G X 25 [(0, hA G 96), (1, .int x1)] [] m (k25 x1 m)) (k61 : Int32 → Int32 → Int32 → hM → Option (Int32 × hM)) (hk61 : ∀ (x1 : Int32) (x2 : Int32) (x3 : Int32) (m : hM), Rf vI G X 61 [(0, hA G 96), (1, .int x1), (2, .int x2), (3, .int x3)] [] m (k61 x1 x2 x3 m)) (k112 : Int32 → Int32 → Int32 → Int32 → hM → Option (Int32 × hM)) (hk112 : ∀ (x1 : Int32) (x2 : Int32) (x3 : Int32) (x4 : Int32) (m : hM), Rf vI G X 112 [(0, hA G 96), (1, .int x1), (2, .int x2), (3, .int x3), (4, .int x4)] [] m (k112 x1 x2 x3 x4 m)) (x1 : Int32) (x2 : Int32) (x3 : Int32) (x4 : Int32) (m : hM) : Rf vI G X 191 [(0, hA G 96), (1, .int x1), (2, .int x2), (3, .int x3), (4, .int x4)] [] m (f_X11_judge_191 fu k25 k61 k112 x1 x2 x3 x4 m) := by
  unfold f_X11_judge_191
  refine rf_iinc2 C (n := 194) (q := 4) (fun y31 => [(4, .int y31), (0, hA G 96), (1, .int x1), (2, .int x2), (3, .int x3)]) dX11_judge_191 rfl rfl (by decide) (by decide) (fun _ => rfl) (fun y31 => ?_)
  refine rf_goto C (n := 112) dX11_judge_194 (by decide) ?_
  exact rf_lv _ [1, 2, 3, 4, 0] rfl (hk112 _ _ _ _ _)
noncomputable def s_X11_judge_112 (fu : Nat) (k25 : Int32 → hM → Option (Int32 × hM)) (k61 : Int32 → Int32 → Int32 → hM → Option (Int32 × hM)) (ih : Int32 → Int32 → Int32 → Int32 → hM → Option (Int32 × hM)) (x1 : Int32) (x2 : Int32) (x3 : Int32) (x4 : Int32) (m : hM) : Option (Int32 × hM) :=
  if (gI m 96 3) ≤ x4 then (
f_X11_judge_197 fu k25 k61 x1 x2 x3 m) else (
if 0 ≤ x1 then (
f_X11_judge_197 fu k25 k61 x1 x2 x3 m) else (
hBd (f_X11_isOpen fu x4 x2 m) fun y28 m29 =>
if y28 = 0 then (
f_X11_judge_191 fu k25 k61 ih x1 x2 x3 x4 m29) else (
if hIn x4 6 then (
if hIn x3 8 then (
hBd (f_X11_has fu (gI m29 103 (Int32.toNatClampNeg x4)) (gI m29 108 (Int32.toNatClampNeg x3)) m29) fun y34 m35 =>
if y34 = 0 then (
f_X11_judge_191 fu k25 k61 ih x1 x2 x3 x4 m35) else (
if hIn x4 6 then (
if hIn x4 6 then (
if (gI m35 102 (Int32.toNatClampNeg x4)) ≤ (gI m35 120 (Int32.toNatClampNeg x4)) then (
f_X11_judge_191 fu k25 k61 ih x1 x2 x3 x4 m35) else (
hLet (sI m35 96 1 0) fun m40 =>
hBd (f_X11_enters fu (Int32.toInt64 x3) m40) fun _ m41 =>
hBd (f_X11_enters fu (Int32.toInt64 x4) m41) fun _ m42 =>
f_X11_judge_191 fu k25 k61 ih x2 x2 x3 x4 m42)) else none) else none)) else none) else none)))
noncomputable def f_X11_judge_112 (fu : Nat) (k25 : Int32 → hM → Option (Int32 × hM)) (k61 : Int32 → Int32 → Int32 → hM → Option (Int32 × hM)) (n : Nat) : Int32 → Int32 → Int32 → Int32 → hM → Option (Int32 × hM) :=
  Nat.rec (motive := fun _ => Int32 → Int32 → Int32 → Int32 → hM → Option (Int32 × hM)) (fun _ _ _ _ _ => none) (fun _ ih => s_X11_judge_112 fu k25 k61 ih) n
theorem f_X11_judge_112_s (fu : Nat) (k25 : Int32 → hM → Option (Int32 × hM)) (k61 : Int32 → Int32 → Int32 → hM → Option (Int32 × hM)) (n : Nat) (x1 : Int32) (x2 : Int32) (x3 : Int32) (x4 : Int32) (m : hM) : f_X11_judge_112 fu k25 k61 (n + 1) x1 x2 x3 x4 m = s_X11_judge_112 fu k25 k61 (f_X11_judge_112 fu k25 k61 n) x1 x2 x3 x4 m := rfl
set_option maxRecDepth 100000 in
set_option maxHeartbeats 4000000 in
theorem r_X11_judge_112 {G : hG} {X : hX} (C : Cx G X 9 cX11_judge 5 RX11 (some .int)) (K : Cr G X) (fu : Nat) (k25 : Int32 → hM → Option (Int32 × hM)) (hk25 : ∀ (x1 : Int32) (m : hM), Rf vI G X 25 [(0, hA G 96), (1, .int x1)] [] m (k25 x1 m)) (k61 : Int32 → Int32 → Int32 → hM → Option (Int32 × hM)) (hk61 : ∀ (x1 : Int32) (x2 : Int32) (x3 : Int32) (m : hM), Rf vI G X 61 [(0, hA G 96), (1, .int x1), (2, .int x2), (3, .int x3)] [] m (k61 x1 x2 x3 m)) (n : Nat) : ∀ (x1 : Int32) (x2 : Int32) (x3 : Int32) (x4 : Int32) (m : hM), Rf vI G X 112 [(0, hA G 96), (1, .int x1), (2, .int x2), (3, .int x3), (4, .int x4)] [] m (f_X11_judge_112 fu k25 k61 n x1 x2 x3 x4 m) := by
  induction n with
  | zero => intros; exact rf_none
  | succ n ih =>
    intro x1 x2 x3 x4 m
    show Rf vI G X 112 [(0, hA G 96), (1, .int x1), (2, .int x2), (3, .int x3), (4, .int x4)] [] m (s_X11_judge_112 fu k25 k61 (f_X11_judge_112 fu k25 k61 n) x1 x2 x3 x4 m)
    unfold s_X11_judge_112
    refine rf_iload C (n := 114) (q := 4) dX11_judge_112 rfl rfl ?_
    refine rf_aload_n C (n := 115) (q := 0) dX11_judge_114 rfl rfl rfl ?_
    refine rf_getI C (n := 118) fl_RX11_22 ly_96 rfl dX11_judge_115 rfl ?_
    refine rf_icmp_ge C (tgt := 197) (n := 121) dX11_judge_118 (by decide) rfl (fun h26 => ?_) (fun h26 => ?_)
    · exact rf_lv _ [0, 1, 2, 3] rfl (r_X11_judge_197 C K fu _ hk25 _ hk61 _ _ _ _)
    · refine rf_iload_n C (n := 122) (q := 1) dX11_judge_121 rfl rfl rfl ?_
      refine rf_if_ge C (tgt := 197) (n := 125) dX11_judge_122 (by decide) rfl (fun h27 => ?_) (fun h27 => ?_)
      · exact rf_lv _ [0, 1, 2, 3] rfl (r_X11_judge_197 C K fu _ hk25 _ hk61 _ _ _ _)
      · refine rf_aload_n C (n := 126) (q := 0) dX11_judge_125 rfl rfl rfl ?_
        refine rf_iload C (n := 128) (q := 4) dX11_judge_126 rfl rfl ?_
        refine rf_iload_n C (n := 129) (q := 2) dX11_judge_128 rfl rfl rfl ?_
        refine rf_callVi C (n := 132) (c_X11_isOpen G fu _ _ _) mw_RX11_120 ly_96 rfl ⟨by decide, by decide⟩ rfl (Nat.le_of_ble_eq_true rfl) rfl dX11_judge_129 rfl (fun y28 m29 => ?_)
        refine rf_if_eq C (tgt := 191) (n := 135) dX11_judge_132 (by decide) rfl (fun h30 => ?_) (fun h30 => ?_)
        · exact rf_lv _ [0, 1, 2, 3, 4] rfl (r_X11_judge_191 C K fu _ hk25 _ hk61 _ ih _ _ _ _ _)
        · refine rf_aload_n C (n := 136) (q := 0) dX11_judge_135 rfl rfl rfl ?_
          refine rf_getS C (n := 139) fl_RX11_47 ly_96 rfl dX11_judge_136 rfl ?_
          refine rf_iload C (n := 141) (q := 4) dX11_judge_139 rfl rfl ?_
          refine rf_guard (fun h32 => ?_)
          refine rf_iald C (n := 142) ly_103 h32 rfl dX11_judge_141 rfl ?_
          refine rf_aload_n C (n := 143) (q := 0) dX11_judge_142 rfl rfl rfl ?_
          refine rf_getS C (n := 146) fl_RX11_154 ly_96 rfl dX11_judge_143 rfl ?_
          refine rf_iload_n C (n := 147) (q := 3) dX11_judge_146 rfl rfl rfl ?_
          refine rf_guard (fun h33 => ?_)
          refine rf_iald C (n := 148) ly_108 h33 rfl dX11_judge_147 rfl ?_
          refine rf_callSi C (n := 151) (c_X11_has G fu _ _ _) sw_RX11_137 ⟨by decide, by decide⟩ rfl (Nat.le_of_ble_eq_true rfl) rfl dX11_judge_148 rfl (fun y34 m35 => ?_)
          refine rf_if_eq C (tgt := 191) (n := 154) dX11_judge_151 (by decide) rfl (fun h36 => ?_) (fun h36 => ?_)
          · exact rf_lv _ [0, 1, 2, 3, 4] rfl (r_X11_judge_191 C K fu _ hk25 _ hk61 _ ih _ _ _ _ _)
          · refine rf_aload_n C (n := 155) (q := 0) dX11_judge_154 rfl rfl rfl ?_
            refine rf_getS C (n := 158) fl_RX11_287 ly_96 rfl dX11_judge_155 rfl ?_
            refine rf_iload C (n := 160) (q := 4) dX11_judge_158 rfl rfl ?_
            refine rf_guard (fun h37 => ?_)
            refine rf_iald C (n := 161) ly_120 h37 rfl dX11_judge_160 rfl ?_
            refine rf_aload_n C (n := 162) (q := 0) dX11_judge_161 rfl rfl rfl ?_
            refine rf_getS C (n := 165) fl_RX11_44 ly_96 rfl dX11_judge_162 rfl ?_
            refine rf_iload C (n := 167) (q := 4) dX11_judge_165 rfl rfl ?_
            refine rf_guard (fun h38 => ?_)
            refine rf_iald C (n := 168) ly_102 h38 rfl dX11_judge_167 rfl ?_
            refine rf_icmp_ge C (tgt := 191) (n := 171) dX11_judge_168 (by decide) rfl (fun h39 => ?_) (fun h39 => ?_)
            · exact rf_lv _ [0, 1, 2, 3, 4] rfl (r_X11_judge_191 C K fu _ hk25 _ hk61 _ ih _ _ _ _ _)
            · refine rf_iload_n C (n := 172) (q := 2) dX11_judge_171 rfl rfl rfl ?_
              refine rf_istore_n C (n := 173) [(1, .int x2), (0, hA G 96), (2, .int x2), (3, .int x3), (4, .int x4)] dX11_judge_172 rfl rfl (by decide) rfl ?_
              refine rf_aload_n C (n := 174) (q := 1) dX11_judge_173 rfl rfl rfl ?_
              refine rf_iconst C (n := 175) (v := 0) dX11_judge_174 rfl (by decide) ?_
              refine rf_putI C (n := 178) pl_RX11_11 ly_96 rfl ⟨rfl, rfl⟩ dX11_judge_175 rfl ?_
              refine rf_letM (fun m40 => ?_)
              refine rf_aload_n C (n := 179) (q := 1) dX11_judge_178 rfl rfl rfl ?_
              refine rf_iload_n C (n := 180) (q := 3) dX11_judge_179 rfl rfl rfl ?_
              refine rf_i2l C (n := 181) dX11_judge_180 rfl ?_
              refine rf_callVv C (n := 184) (c_X11_enters G fu _ _) mw_RX11_18 ly_96 rfl ⟨by decide, by decide⟩ rfl (Nat.le_of_ble_eq_true rfl) rfl dX11_judge_181 rfl (fun _ m41 => ?_)
              refine rf_aload_n C (n := 185) (q := 1) dX11_judge_184 rfl rfl rfl ?_
              refine rf_iload C (n := 187) (q := 4) dX11_judge_185 rfl rfl ?_
              refine rf_i2l C (n := 188) dX11_judge_187 rfl ?_
              refine rf_callVv C (n := 191) (c_X11_enters G fu _ _) mw_RX11_18 ly_96 rfl ⟨by decide, by decide⟩ rfl (Nat.le_of_ble_eq_true rfl) rfl dX11_judge_188 rfl (fun _ m42 => ?_)
              exact rf_lv _ [1, 0, 2, 3, 4] rfl (r_X11_judge_191 C K fu _ hk25 _ hk61 _ ih _ _ _ _ _)
noncomputable def s_X11_judge_61 (fu : Nat) (k25 : Int32 → hM → Option (Int32 × hM)) (ih : Int32 → Int32 → Int32 → hM → Option (Int32 × hM)) (x1 : Int32) (x2 : Int32) (x3 : Int32) (m : hM) : Option (Int32 × hM) :=
  if (gI m 96 16) ≤ x3 then (
f_X11_judge_203 fu k25 x1 m) else (
if 0 ≤ x1 then (
f_X11_judge_203 fu k25 x1 m) else (
hBd (f_X11_has fu (gI m 96 34) x3 m) fun y16 m17 =>
if y16 = 0 then (
f_X11_judge_197 fu k25 ih x1 x2 x3 m17) else (
hBd (f_X11_has fu (gI m17 96 35) x3 m17) fun y20 m21 =>
if ¬ y20 = 0 then (
f_X11_judge_197 fu k25 ih x1 x2 x3 m21) else (
hBd (f_X11_has fu (gI m21 96 36) x3 m21) fun y23 m24 =>
if y23 = 0 then (
f_X11_judge_112 fu k25 ih fu x1 x2 x3 0 m24) else (
f_X11_judge_197 fu k25 ih x1 x2 x3 m24)))))
noncomputable def f_X11_judge_61 (fu : Nat) (k25 : Int32 → hM → Option (Int32 × hM)) (n : Nat) : Int32 → Int32 → Int32 → hM → Option (Int32 × hM) :=
  Nat.rec (motive := fun _ => Int32 → Int32 → Int32 → hM → Option (Int32 × hM)) (fun _ _ _ _ => none) (fun _ ih => s_X11_judge_61 fu k25 ih) n
theorem f_X11_judge_61_s (fu : Nat) (k25 : Int32 → hM → Option (Int32 × hM)) (n : Nat) (x1 : Int32) (x2 : Int32) (x3 : Int32) (m : hM) : f_X11_judge_61 fu k25 (n + 1) x1 x2 x3 m = s_X11_judge_61 fu k25 (f_X11_judge_61 fu k25 n) x1 x2 x3 m := rfl
set_option maxRecDepth 100000 in
set_option maxHeartbeats 4000000 in
theorem r_X11_judge_61 {G : hG} {X : hX} (C : Cx G X 9 cX11_judge 5 RX11 (some .int)) (K : Cr G X) (fu : Nat) (k25 : Int32 → hM → Option (Int32 × hM)) (hk25 : ∀ (x1 : Int32) (m : hM), Rf vI G X 25 [(0, hA G 96), (1, .int x1)] [] m (k25 x1 m)) (n : Nat) : ∀ (x1 : Int32) (x2 : Int32) (x3 : Int32) (m : hM), Rf vI G X 61 [(0, hA G 96), (1, .int x1), (2, .int x2), (3, .int x3)] [] m (f_X11_judge_61 fu k25 n x1 x2 x3 m) := by
  induction n with
  | zero => intros; exact rf_none
  | succ n ih =>
    intro x1 x2 x3 m
    show Rf vI G X 61 [(0, hA G 96), (1, .int x1), (2, .int x2), (3, .int x3)] [] m (s_X11_judge_61 fu k25 (f_X11_judge_61 fu k25 n) x1 x2 x3 m)
    unfold s_X11_judge_61
    refine rf_iload_n C (n := 62) (q := 3) dX11_judge_61 rfl rfl rfl ?_
    refine rf_aload_n C (n := 63) (q := 0) dX11_judge_62 rfl rfl rfl ?_
    refine rf_getI C (n := 66) fl_RX11_151 ly_96 rfl dX11_judge_63 rfl ?_
    refine rf_icmp_ge C (tgt := 203) (n := 69) dX11_judge_66 (by decide) rfl (fun h12 => ?_) (fun h12 => ?_)
    · exact rf_lv _ [0, 1] rfl (r_X11_judge_203 C K fu _ hk25 _ _)
    · refine rf_iload_n C (n := 70) (q := 1) dX11_judge_69 rfl rfl rfl ?_
      refine rf_if_ge C (tgt := 203) (n := 73) dX11_judge_70 (by decide) rfl (fun h15 => ?_) (fun h15 => ?_)
      · exact rf_lv _ [0, 1] rfl (r_X11_judge_203 C K fu _ hk25 _ _)
      · refine rf_aload_n C (n := 74) (q := 0) dX11_judge_73 rfl rfl rfl ?_
        refine rf_getI C (n := 77) fl_RX11_278 ly_96 rfl dX11_judge_74 rfl ?_
        refine rf_iload_n C (n := 78) (q := 3) dX11_judge_77 rfl rfl rfl ?_
        refine rf_callSi C (n := 81) (c_X11_has G fu _ _ _) sw_RX11_137 ⟨by decide, by decide⟩ rfl (Nat.le_of_ble_eq_true rfl) rfl dX11_judge_78 rfl (fun y16 m17 => ?_)
        refine rf_if_eq C (tgt := 197) (n := 84) dX11_judge_81 (by decide) rfl (fun h18 => ?_) (fun h18 => ?_)
        · exact rf_lv _ [0, 1, 2, 3] rfl (r_X11_judge_197 C K fu _ hk25 _ ih _ _ _ _)
        · refine rf_aload_n C (n := 85) (q := 0) dX11_judge_84 rfl rfl rfl ?_
          refine rf_getI C (n := 88) fl_RX11_281 ly_96 rfl dX11_judge_85 rfl ?_
          refine rf_iload_n C (n := 89) (q := 3) dX11_judge_88 rfl rfl rfl ?_
          refine rf_callSi C (n := 92) (c_X11_has G fu _ _ _) sw_RX11_137 ⟨by decide, by decide⟩ rfl (Nat.le_of_ble_eq_true rfl) rfl dX11_judge_89 rfl (fun y20 m21 => ?_)
          refine rf_if_ne C (tgt := 197) (n := 95) dX11_judge_92 (by decide) rfl (fun h22 => ?_) (fun h22 => ?_)
          · exact rf_lv _ [0, 1, 2, 3] rfl (r_X11_judge_197 C K fu _ hk25 _ ih _ _ _ _)
          · refine rf_aload_n C (n := 96) (q := 0) dX11_judge_95 rfl rfl rfl ?_
            refine rf_getI C (n := 99) fl_RX11_284 ly_96 rfl dX11_judge_96 rfl ?_
            refine rf_iload_n C (n := 100) (q := 3) dX11_judge_99 rfl rfl rfl ?_
            refine rf_callSi C (n := 103) (c_X11_has G fu _ _ _) sw_RX11_137 ⟨by decide, by decide⟩ rfl (Nat.le_of_ble_eq_true rfl) rfl dX11_judge_100 rfl (fun y23 m24 => ?_)
            refine rf_if_eq C (tgt := 109) (n := 106) dX11_judge_103 (by decide) rfl (fun h25 => ?_) (fun h25 => ?_)
            · refine rf_iconst C (n := 110) (v := 0) dX11_judge_109 rfl (by decide) ?_
              refine rf_istore C (n := 112) [(4, .int 0), (0, hA G 96), (1, .int x1), (2, .int x2), (3, .int x3)] dX11_judge_110 rfl (by decide) rfl ?_
              exact rf_lv _ [1, 2, 3, 4, 0] rfl (r_X11_judge_112 C K fu _ hk25 _ ih fu _ _ _ _ _)
            · refine rf_goto C (n := 197) dX11_judge_106 (by decide) ?_
              exact rf_lv _ [0, 1, 2, 3] rfl (r_X11_judge_197 C K fu _ hk25 _ ih _ _ _ _)
noncomputable def s_X11_judge_25 (fu : Nat) (ih : Int32 → hM → Option (Int32 × hM)) (x1 : Int32) (m : hM) : Option (Int32 × hM) :=
  if 0 ≤ x1 then (
f_X11_judge_220 fu x1 m) else (
hBd (f_X11_isAllDone fu m) fun y6 m7 =>
if ¬ y6 = 0 then (
f_X11_judge_220 fu x1 m7) else (
if 2399 ≤ (gI m7 114 0) then (
f_X11_judge_220 fu x1 m7) else (
hLet (gI m7 114 0) fun y10 =>
hBd (f_X11_works fu m7) fun _ m11 =>
f_X11_judge_61 fu ih fu x1 y10 0 m11)))
noncomputable def f_X11_judge_25 (fu : Nat) (n : Nat) : Int32 → hM → Option (Int32 × hM) :=
  Nat.rec (motive := fun _ => Int32 → hM → Option (Int32 × hM)) (fun _ _ => none) (fun _ ih => s_X11_judge_25 fu ih) n
theorem f_X11_judge_25_s (fu : Nat) (n : Nat) (x1 : Int32) (m : hM) : f_X11_judge_25 fu (n + 1) x1 m = s_X11_judge_25 fu (f_X11_judge_25 fu n) x1 m := rfl
set_option maxRecDepth 100000 in
set_option maxHeartbeats 4000000 in
theorem r_X11_judge_25 {G : hG} {X : hX} (C : Cx G X 9 cX11_judge 5 RX11 (some .int)) (K : Cr G X) (fu : Nat) (n : Nat) : ∀ (x1 : Int32) (m : hM), Rf vI G X 25 [(0, hA G 96), (1, .int x1)] [] m (f_X11_judge_25 fu n x1 m) := by
  induction n with
  | zero => intros; exact rf_none
  | succ n ih =>
    intro x1 m
    show Rf vI G X 25 [(0, hA G 96), (1, .int x1)] [] m (s_X11_judge_25 fu (f_X11_judge_25 fu n) x1 m)
    unfold s_X11_judge_25
    refine rf_iload_n C (n := 26) (q := 1) dX11_judge_25 rfl rfl rfl ?_
    refine rf_if_ge C (tgt := 220) (n := 29) dX11_judge_26 (by decide) rfl (fun h4 => ?_) (fun h4 => ?_)
    · exact rf_lv _ [0, 1] rfl (r_X11_judge_220 C K fu _ _)
    · refine rf_aload_n C (n := 30) (q := 0) dX11_judge_29 rfl rfl rfl ?_
      refine rf_callVi C (n := 33) (c_X11_isAllDone G fu _) mw_RX11_313 ly_96 rfl ⟨by decide, by decide⟩ rfl (Nat.le_of_ble_eq_true rfl) rfl dX11_judge_30 rfl (fun y6 m7 => ?_)
      refine rf_if_ne C (tgt := 220) (n := 36) dX11_judge_33 (by decide) rfl (fun h8 => ?_) (fun h8 => ?_)
      · exact rf_lv _ [0, 1] rfl (r_X11_judge_220 C K fu _ _)
      · refine rf_aload_n C (n := 37) (q := 0) dX11_judge_36 rfl rfl rfl ?_
        refine rf_getS C (n := 40) fl_RX11_140 ly_96 rfl dX11_judge_37 rfl ?_
        refine rf_iconst C (n := 41) (v := 0) dX11_judge_40 rfl (by decide) ?_
        refine rf_iald C (n := 42) (j := 0) ly_114 (by decide) (by decide) dX11_judge_41 rfl ?_
        refine rf_sipush C (n := 45) (v := 2399) dX11_judge_42 rfl (by decide) ?_
        refine rf_icmp_ge C (tgt := 220) (n := 48) dX11_judge_45 (by decide) rfl (fun h9 => ?_) (fun h9 => ?_)
        · exact rf_lv _ [0, 1] rfl (r_X11_judge_220 C K fu _ _)
        · refine rf_aload_n C (n := 49) (q := 0) dX11_judge_48 rfl rfl rfl ?_
          refine rf_getS C (n := 52) fl_RX11_140 ly_96 rfl dX11_judge_49 rfl ?_
          refine rf_iconst C (n := 53) (v := 0) dX11_judge_52 rfl (by decide) ?_
          refine rf_iald C (n := 54) (j := 0) ly_114 (by decide) (by decide) dX11_judge_53 rfl ?_
          refine rf_letI (fun y10 => ?_)
          refine rf_istore_n C (n := 55) [(2, .int y10), (0, hA G 96), (1, .int x1)] dX11_judge_54 rfl rfl (by decide) rfl ?_
          refine rf_aload_n C (n := 56) (q := 1) dX11_judge_55 rfl rfl rfl ?_
          refine rf_callVv C (n := 59) (c_X11_works G fu _) mw_RX11_296 ly_96 rfl ⟨by decide, by decide⟩ rfl (Nat.le_of_ble_eq_true rfl) rfl dX11_judge_56 rfl (fun _ m11 => ?_)
          refine rf_iconst C (n := 60) (v := 0) dX11_judge_59 rfl (by decide) ?_
          refine rf_istore_n C (n := 61) [(3, .int 0), (2, .int y10), (0, hA G 96), (1, .int x1)] dX11_judge_60 rfl rfl (by decide) rfl ?_
          exact rf_lv _ [2, 3, 1, 0] rfl (r_X11_judge_61 C K fu _ ih fu _ _ _ _)
noncomputable def f_X11_judge (fu : Nat) (m : hM) : Option (Int32 × hM) :=
  hLet (sI m 96 0 0) fun m1 =>
if ¬ (gI m1 96 16) = 0 then (
hBd (f_X11_putsBy fu m1) fun _ m3 =>
f_X11_judge_25 fu fu (-2) m3) else (
some ((-1), m1))
set_option maxRecDepth 100000 in
set_option maxHeartbeats 4000000 in
theorem c_X11_judge (G : hG) (fu : Nat) (m : hM) : Mt vI G 9 yX11_judge cX11_judge 5 (some .int) [hA G 96] m (f_X11_judge fu m) := by
  refine mt_of (by decide +kernel) (Nat.le_of_ble_eq_true rfl) (fun X C K => ?_)
  have C : Cx G X 9 cX11_judge 5 RX11 (some .int) := C
  show Rf vI G X 0 [(0, hA G 96)] [] m _
  unfold f_X11_judge
  refine rf_aload_n C (n := 1) (q := 0) dX11_judge_0 rfl rfl rfl ?_
  refine rf_iconst C (n := 2) (v := 0) dX11_judge_1 rfl (by decide) ?_
  refine rf_putI C (n := 5) pl_RX11_3 ly_96 rfl ⟨rfl, rfl⟩ dX11_judge_2 rfl ?_
  refine rf_letM (fun m1 => ?_)
  refine rf_aload_n C (n := 6) (q := 0) dX11_judge_5 rfl rfl rfl ?_
  refine rf_getI C (n := 9) fl_RX11_151 ly_96 rfl dX11_judge_6 rfl ?_
  refine rf_if_ne C (tgt := 14) (n := 12) dX11_judge_9 (by decide) rfl (fun h2 => ?_) (fun h2 => ?_)
  · refine rf_aload_n C (n := 15) (q := 0) dX11_judge_14 rfl rfl rfl ?_
    refine rf_aload_n C (n := 16) (q := 0) dX11_judge_15 rfl rfl rfl ?_
    refine rf_getS C (n := 19) fl_RX11_322 ly_96 rfl dX11_judge_16 rfl ?_
    refine rf_callVv C (n := 22) (c_X11_putsBy G fu _) mw_RX11_325 ly_96 rfl ⟨by decide, by decide⟩ rfl (Nat.le_of_ble_eq_true rfl) rfl dX11_judge_19 rfl (fun _ m3 => ?_)
    refine rf_bipush C (n := 24) (v := (-2)) dX11_judge_22 rfl (by decide) ?_
    refine rf_istore_n C (n := 25) [(1, .int (-2)), (0, hA G 96)] dX11_judge_24 rfl rfl (by decide) rfl ?_
    exact rf_lv _ [1, 0] rfl (r_X11_judge_25 C K fu fu _ _)
  · refine rf_iconst C (n := 13) (v := (-1)) dX11_judge_12 rfl (by decide) ?_
    exact rf_iret C K dX11_judge_13
noncomputable def f_X11_endsFrom (fu : Nat) (x1 : Int32) (m : hM) : Option (Int32 × hM) :=
  hBd (f_X11_putsBy fu m) fun _ m1 =>
hBd (f_X11_begins fu x1 m1) fun _ m2 =>
hBd (f_X11_goesOn fu m2) fun y3 m4 =>
hBd (f_X11_takesBack fu m4) fun _ m5 =>
some (y3, m5)
set_option maxRecDepth 100000 in
set_option maxHeartbeats 4000000 in
theorem c_X11_endsFrom (G : hG) (fu : Nat) (x1 : Int32) (m : hM) : Mt vI G 11 yX11_endsFrom cX11_endsFrom 3 (some .int) [hA G 96, .int x1] m (f_X11_endsFrom fu x1 m) := by
  refine mt_of (by decide +kernel) (Nat.le_of_ble_eq_true rfl) (fun X C K => ?_)
  have C : Cx G X 11 cX11_endsFrom 3 RX11 (some .int) := C
  show Rf vI G X 0 [(0, hA G 96), (1, .int x1)] [] m _
  unfold f_X11_endsFrom
  refine rf_aload_n C (n := 1) (q := 0) dX11_endsFrom_0 rfl rfl rfl ?_
  refine rf_aload_n C (n := 2) (q := 0) dX11_endsFrom_1 rfl rfl rfl ?_
  refine rf_getS C (n := 5) fl_RX11_322 ly_96 rfl dX11_endsFrom_2 rfl ?_
  refine rf_callVv C (n := 8) (c_X11_putsBy G fu _) mw_RX11_325 ly_96 rfl ⟨by decide, by decide⟩ rfl (Nat.le_of_ble_eq_true rfl) rfl dX11_endsFrom_5 rfl (fun _ m1 => ?_)
  refine rf_aload_n C (n := 9) (q := 0) dX11_endsFrom_8 rfl rfl rfl ?_
  refine rf_iload_n C (n := 10) (q := 1) dX11_endsFrom_9 rfl rfl rfl ?_
  refine rf_callVv C (n := 13) (c_X11_begins G fu _ _) mw_RX11_303 ly_96 rfl ⟨by decide, by decide⟩ rfl (Nat.le_of_ble_eq_true rfl) rfl dX11_endsFrom_10 rfl (fun _ m2 => ?_)
  refine rf_aload_n C (n := 14) (q := 0) dX11_endsFrom_13 rfl rfl rfl ?_
  refine rf_callVi C (n := 17) (c_X11_goesOn G fu _) mw_RX11_319 ly_96 rfl ⟨by decide, by decide⟩ rfl (Nat.le_of_ble_eq_true rfl) rfl dX11_endsFrom_14 rfl (fun y3 m4 => ?_)
  refine rf_istore_n C (n := 18) [(2, .int y3), (0, hA G 96), (1, .int x1)] dX11_endsFrom_17 rfl rfl (by decide) rfl ?_
  refine rf_aload_n C (n := 19) (q := 1) dX11_endsFrom_18 rfl rfl rfl ?_
  refine rf_aload_n C (n := 20) (q := 1) dX11_endsFrom_19 rfl rfl rfl ?_
  refine rf_getS C (n := 23) fl_RX11_322 ly_96 rfl dX11_endsFrom_20 rfl ?_
  refine rf_callVv C (n := 26) (c_X11_takesBack G fu _) mw_RX11_332 ly_96 rfl ⟨by decide, by decide⟩ rfl (Nat.le_of_ble_eq_true rfl) rfl dX11_endsFrom_23 rfl (fun _ m5 => ?_)
  refine rf_iload_n C (n := 27) (q := 0) dX11_endsFrom_26 rfl rfl rfl ?_
  exact rf_iret C K dX11_endsFrom_27
noncomputable def f_X11_endsNow (fu : Nat) (m : hM) : Option (Int32 × hM) :=
  hBd (f_X11_putsBy fu m) fun _ m1 =>
hBd (f_X11_goesOn fu m1) fun y2 m3 =>
hBd (f_X11_takesBack fu m3) fun _ m4 =>
some (y2, m4)
set_option maxRecDepth 100000 in
set_option maxHeartbeats 4000000 in
theorem c_X11_endsNow (G : hG) (fu : Nat) (m : hM) : Mt vI G 11 yX11_endsNow cX11_endsNow 2 (some .int) [hA G 96] m (f_X11_endsNow fu m) := by
  refine mt_of (by decide +kernel) (Nat.le_of_ble_eq_true rfl) (fun X C K => ?_)
  have C : Cx G X 11 cX11_endsNow 2 RX11 (some .int) := C
  show Rf vI G X 0 [(0, hA G 96)] [] m _
  unfold f_X11_endsNow
  refine rf_aload_n C (n := 1) (q := 0) dX11_endsNow_0 rfl rfl rfl ?_
  refine rf_aload_n C (n := 2) (q := 0) dX11_endsNow_1 rfl rfl rfl ?_
  refine rf_getS C (n := 5) fl_RX11_322 ly_96 rfl dX11_endsNow_2 rfl ?_
  refine rf_callVv C (n := 8) (c_X11_putsBy G fu _) mw_RX11_325 ly_96 rfl ⟨by decide, by decide⟩ rfl (Nat.le_of_ble_eq_true rfl) rfl dX11_endsNow_5 rfl (fun _ m1 => ?_)
  refine rf_aload_n C (n := 9) (q := 0) dX11_endsNow_8 rfl rfl rfl ?_
  refine rf_callVi C (n := 12) (c_X11_goesOn G fu _) mw_RX11_319 ly_96 rfl ⟨by decide, by decide⟩ rfl (Nat.le_of_ble_eq_true rfl) rfl dX11_endsNow_9 rfl (fun y2 m3 => ?_)
  refine rf_istore_n C (n := 13) [(1, .int y2), (0, hA G 96)] dX11_endsNow_12 rfl rfl (by decide) rfl ?_
  refine rf_aload_n C (n := 14) (q := 1) dX11_endsNow_13 rfl rfl rfl ?_
  refine rf_aload_n C (n := 15) (q := 1) dX11_endsNow_14 rfl rfl rfl ?_
  refine rf_getS C (n := 18) fl_RX11_322 ly_96 rfl dX11_endsNow_15 rfl ?_
  refine rf_callVv C (n := 21) (c_X11_takesBack G fu _) mw_RX11_332 ly_96 rfl ⟨by decide, by decide⟩ rfl (Nat.le_of_ble_eq_true rfl) rfl dX11_endsNow_18 rfl (fun _ m4 => ?_)
  refine rf_iload_n C (n := 22) (q := 0) dX11_endsNow_21 rfl rfl rfl ?_
  exact rf_iret C K dX11_endsNow_22
noncomputable def f_X11_placeAt (fu : Nat) (x0 : Int32) (x1 : Int32) (x2 : Int32) (m : hM) : Option (Int32 × hM) :=
  some ((((x0 * 6) + x1) * 128) + x2, m)
set_option maxRecDepth 100000 in
set_option maxHeartbeats 4000000 in
theorem c_X11_placeAt (G : hG) (fu : Nat) (x0 : Int32) (x1 : Int32) (x2 : Int32) (m : hM) : Mt vI G 1 yX11_placeAt cX11_placeAt 3 (some .int) [.int x0, .int x1, .int x2] m (f_X11_placeAt fu x0 x1 x2 m) := by
  refine mt_of (by decide +kernel) (Nat.le_of_ble_eq_true rfl) (fun X C K => ?_)
  have C : Cx G X 1 cX11_placeAt 3 RX11 (some .int) := C
  show Rf vI G X 0 [(0, .int x0), (1, .int x1), (2, .int x2)] [] m _
  unfold f_X11_placeAt
  refine rf_iload_n C (n := 1) (q := 0) dX11_placeAt_0 rfl rfl rfl ?_
  refine rf_bipush C (n := 3) (v := 6) dX11_placeAt_1 rfl (by decide) ?_
  refine rf_imul C (n := 4) dX11_placeAt_3 rfl ?_
  refine rf_iload_n C (n := 5) (q := 1) dX11_placeAt_4 rfl rfl rfl ?_
  refine rf_iadd C (n := 6) dX11_placeAt_5 rfl ?_
  refine rf_sipush C (n := 9) (v := 128) dX11_placeAt_6 rfl (by decide) ?_
  refine rf_imul C (n := 10) dX11_placeAt_9 rfl ?_
  refine rf_iload_n C (n := 11) (q := 2) dX11_placeAt_10 rfl rfl rfl ?_
  refine rf_iadd C (n := 12) dX11_placeAt_11 rfl ?_
  exact rf_iret C K dX11_placeAt_12
noncomputable def s_X11_empties_2 (fu : Nat) (ih : Nat → Int32 → hM → Option (Unit × hM)) (a1 : Nat) (x2 : Int32) (m : hM) : Option (Unit × hM) :=
  if 3072 ≤ x2 then (
some ((), m)) else (
if hIn x2 3072 then (
hLet (sI m a1 (Int32.toNatClampNeg x2) (-1)) fun m3 =>
hLet (x2 + 1) fun y4 =>
ih a1 y4 m3) else none)
noncomputable def f_X11_empties_2 (fu : Nat) (n : Nat) : Nat → Int32 → hM → Option (Unit × hM) :=
  Nat.rec (motive := fun _ => Nat → Int32 → hM → Option (Unit × hM)) (fun _ _ _ => none) (fun _ ih => s_X11_empties_2 fu ih) n
theorem f_X11_empties_2_s (fu : Nat) (n : Nat) (a1 : Nat) (x2 : Int32) (m : hM) : f_X11_empties_2 fu (n + 1) a1 x2 m = s_X11_empties_2 fu (f_X11_empties_2 fu n) a1 x2 m := rfl
set_option maxRecDepth 100000 in
set_option maxHeartbeats 4000000 in
theorem r_X11_empties_2 {G : hG} {X : hX} (C : Cx G X 1 cX11_empties 3 RX11 none) (K : Cr G X) (fu : Nat) (n : Nat) : ∀ (a1 : Nat) (ha1 : LY[a1]? = some (.inr (.inl (0, 3072)))) (x2 : Int32) (m : hM), Rf vU G X 2 [(1, hA G a1), (2, .int x2)] [] m (f_X11_empties_2 fu n a1 x2 m) := by
  induction n with
  | zero => intros; exact rf_none
  | succ n ih =>
    intro a1 ha1 x2 m
    show Rf vU G X 2 [(1, hA G a1), (2, .int x2)] [] m (s_X11_empties_2 fu (f_X11_empties_2 fu n) a1 x2 m)
    unfold s_X11_empties_2
    refine rf_iload_n C (n := 3) (q := 1) dX11_empties_2 rfl rfl rfl ?_
    refine rf_aload_n C (n := 4) (q := 0) dX11_empties_3 rfl rfl rfl ?_
    refine rf_alen C (n := 5) (v := 3072) ha1 (by decide) (by decide) dX11_empties_4 rfl ?_
    refine rf_icmp_ge C (tgt := 18) (n := 8) dX11_empties_5 (by decide) rfl (fun h1 => ?_) (fun h1 => ?_)
    · exact rf_vret C K dX11_empties_18
    · refine rf_aload_n C (n := 9) (q := 0) dX11_empties_8 rfl rfl rfl ?_
      refine rf_iload_n C (n := 10) (q := 1) dX11_empties_9 rfl rfl rfl ?_
      refine rf_iconst C (n := 11) (v := (-1)) dX11_empties_10 rfl (by decide) ?_
      refine rf_guard (fun h2 => ?_)
      refine rf_iast C (n := 12) ha1 h2 rfl dX11_empties_11 rfl ?_
      refine rf_letM (fun m3 => ?_)
      refine rf_iinc2 C (n := 15) (q := 1) (fun y4 => [(2, .int y4), (1, hA G a1)]) dX11_empties_12 rfl rfl (by decide) (by decide) (fun _ => rfl) (fun y4 => ?_)
      refine rf_goto C (n := 2) dX11_empties_15 (by decide) ?_
      exact rf_lv _ [1, 0] rfl (ih _ ha1 _ _)
noncomputable def f_X11_empties (fu : Nat) (a1 : Nat) (m : hM) : Option (Unit × hM) :=
  if hAr LY[a1]? 0 3072 = true then (f_X11_empties_2 fu fu a1 0 m) else none
set_option maxRecDepth 100000 in
set_option maxHeartbeats 4000000 in
theorem c_X11_empties (G : hG) (fu : Nat) (a1 : Nat) (m : hM) : Mt vU G 1 yX11_empties cX11_empties 3 none [hA G 96, hA G a1] m (f_X11_empties fu a1 m) := by
  refine mt_of (by decide +kernel) (Nat.le_of_ble_eq_true rfl) (fun X C K => ?_)
  have C : Cx G X 1 cX11_empties 3 RX11 none := C
  show Rf vU G X 0 [(0, hA G 96), (1, hA G a1)] [] m _
  unfold f_X11_empties
  refine rf_guard (fun ha1 => ?_)
  replace ha1 := hAr_l ha1
  refine rf_iconst C (n := 1) (v := 0) dX11_empties_0 rfl (by decide) ?_
  refine rf_istore_n C (n := 2) [(2, .int 0), (0, hA G 96), (1, hA G a1)] dX11_empties_1 rfl rfl (by decide) rfl ?_
  exact rf_lv _ [2, 0] rfl (r_X11_empties_2 C K fu fu _ ha1 _ _)
noncomputable def f_X11_losesAll_44 (fu : Nat) (k2 : Int32 → Int32 → hM → Option (Unit × hM)) (x1 : Int32) (x2 : Int32) (m : hM) : Option (Unit × hM) :=
  hLet (x2 + 1) fun y3 =>
k2 x1 y3 m
set_option maxRecDepth 100000 in
set_option maxHeartbeats 4000000 in
theorem r_X11_losesAll_44 {G : hG} {X : hX} (C : Cx G X 6 cX11_losesAll 4 RX11 none) (K : Cr G X) (fu : Nat) (k2 : Int32 → Int32 → hM → Option (Unit × hM)) (hk2 : ∀ (x1 : Int32) (x2 : Int32) (m : hM), Rf vU G X 2 [(0, hA G 96), (1, .int x1), (2, .int x2)] [] m (k2 x1 x2 m)) (x1 : Int32) (x2 : Int32) (m : hM) : Rf vU G X 44 [(0, hA G 96), (1, .int x1), (2, .int x2)] [] m (f_X11_losesAll_44 fu k2 x1 x2 m) := by
  unfold f_X11_losesAll_44
  refine rf_iinc2 C (n := 47) (q := 2) (fun y3 => [(2, .int y3), (0, hA G 96), (1, .int x1)]) dX11_losesAll_44 rfl rfl (by decide) (by decide) (fun _ => rfl) (fun y3 => ?_)
  refine rf_goto C (n := 2) dX11_losesAll_47 (by decide) ?_
  exact rf_lv _ [1, 2, 0] rfl (hk2 _ _ _)
noncomputable def s_X11_losesAll_12 (fu : Nat) (k2 : Int32 → Int32 → hM → Option (Unit × hM)) (ih : Int32 → Int32 → Int32 → hM → Option (Unit × hM)) (x1 : Int32) (x2 : Int32) (x3 : Int32) (m : hM) : Option (Unit × hM) :=
  if (gI m 96 3) ≤ x3 then (
f_X11_losesAll_44 fu k2 x1 x2 m) else (
hBd (f_X11_lostOf fu x2 x3 x1 m) fun y4 m5 =>
if hIn ((6 * x2) + x3) 36 then (
hLet (sI m5 123 (Int32.toNatClampNeg ((6 * x2) + x3)) y4) fun m7 =>
hLet (x3 + 1) fun y8 =>
ih x1 x2 y8 m7) else none)
noncomputable def f_X11_losesAll_12 (fu : Nat) (k2 : Int32 → Int32 → hM → Option (Unit × hM)) (n : Nat) : Int32 → Int32 → Int32 → hM → Option (Unit × hM) :=
  Nat.rec (motive := fun _ => Int32 → Int32 → Int32 → hM → Option (Unit × hM)) (fun _ _ _ _ => none) (fun _ ih => s_X11_losesAll_12 fu k2 ih) n
theorem f_X11_losesAll_12_s (fu : Nat) (k2 : Int32 → Int32 → hM → Option (Unit × hM)) (n : Nat) (x1 : Int32) (x2 : Int32) (x3 : Int32) (m : hM) : f_X11_losesAll_12 fu k2 (n + 1) x1 x2 x3 m = s_X11_losesAll_12 fu k2 (f_X11_losesAll_12 fu k2 n) x1 x2 x3 m := rfl
set_option maxRecDepth 100000 in
set_option maxHeartbeats 4000000 in
theorem r_X11_losesAll_12 {G : hG} {X : hX} (C : Cx G X 6 cX11_losesAll 4 RX11 none) (K : Cr G X) (fu : Nat) (k2 : Int32 → Int32 → hM → Option (Unit × hM)) (hk2 : ∀ (x1 : Int32) (x2 : Int32) (m : hM), Rf vU G X 2 [(0, hA G 96), (1, .int x1), (2, .int x2)] [] m (k2 x1 x2 m)) (n : Nat) : ∀ (x1 : Int32) (x2 : Int32) (x3 : Int32) (m : hM), Rf vU G X 12 [(0, hA G 96), (1, .int x1), (2, .int x2), (3, .int x3)] [] m (f_X11_losesAll_12 fu k2 n x1 x2 x3 m) := by
  induction n with
  | zero => intros; exact rf_none
  | succ n ih =>
    intro x1 x2 x3 m
    show Rf vU G X 12 [(0, hA G 96), (1, .int x1), (2, .int x2), (3, .int x3)] [] m (s_X11_losesAll_12 fu k2 (f_X11_losesAll_12 fu k2 n) x1 x2 x3 m)
    unfold s_X11_losesAll_12
    refine rf_iload_n C (n := 13) (q := 3) dX11_losesAll_12 rfl rfl rfl ?_
    refine rf_aload_n C (n := 14) (q := 0) dX11_losesAll_13 rfl rfl rfl ?_
    refine rf_getI C (n := 17) fl_RX11_22 ly_96 rfl dX11_losesAll_14 rfl ?_
    refine rf_icmp_ge C (tgt := 44) (n := 20) dX11_losesAll_17 (by decide) rfl (fun h2 => ?_) (fun h2 => ?_)
    · exact rf_lv _ [0, 1, 2] rfl (r_X11_losesAll_44 C K fu _ hk2 _ _ _)
    · refine rf_aload_n C (n := 21) (q := 0) dX11_losesAll_20 rfl rfl rfl ?_
      refine rf_getS C (n := 24) fl_RX11_335 ly_96 rfl dX11_losesAll_21 rfl ?_
      refine rf_bipush C (n := 26) (v := 6) dX11_losesAll_24 rfl (by decide) ?_
      refine rf_iload_n C (n := 27) (q := 2) dX11_losesAll_26 rfl rfl rfl ?_
      refine rf_imul C (n := 28) dX11_losesAll_27 rfl ?_
      refine rf_iload_n C (n := 29) (q := 3) dX11_losesAll_28 rfl rfl rfl ?_
      refine rf_iadd C (n := 30) dX11_losesAll_29 rfl ?_
      refine rf_aload_n C (n := 31) (q := 0) dX11_losesAll_30 rfl rfl rfl ?_
      refine rf_iload_n C (n := 32) (q := 2) dX11_losesAll_31 rfl rfl rfl ?_
      refine rf_iload_n C (n := 33) (q := 3) dX11_losesAll_32 rfl rfl rfl ?_
      refine rf_iload_n C (n := 34) (q := 1) dX11_losesAll_33 rfl rfl rfl ?_
      refine rf_callVi C (n := 37) (c_X11_lostOf G fu _ _ _ _) mw_RX11_132 ly_96 rfl ⟨by decide, by decide⟩ rfl (Nat.le_of_ble_eq_true rfl) rfl dX11_losesAll_34 rfl (fun y4 m5 => ?_)
      refine rf_guard (fun h6 => ?_)
      refine rf_iast C (n := 38) ly_123 h6 rfl dX11_losesAll_37 rfl ?_
      refine rf_letM (fun m7 => ?_)
      refine rf_iinc2 C (n := 41) (q := 3) (fun y8 => [(3, .int y8), (0, hA G 96), (1, .int x1), (2, .int x2)]) dX11_losesAll_38 rfl rfl (by decide) (by decide) (fun _ => rfl) (fun y8 => ?_)
      refine rf_goto C (n := 12) dX11_losesAll_41 (by decide) ?_
      exact rf_lv _ [1, 2, 3, 0] rfl (ih _ _ _ _)
noncomputable def s_X11_losesAll_2 (fu : Nat) (ih : Int32 → Int32 → hM → Option (Unit × hM)) (x1 : Int32) (x2 : Int32) (m : hM) : Option (Unit × hM) :=
  if (gI m 96 3) ≤ x2 then (
some ((), m)) else (
f_X11_losesAll_12 fu ih fu x1 x2 0 m)
noncomputable def f_X11_losesAll_2 (fu : Nat) (n : Nat) : Int32 → Int32 → hM → Option (Unit × hM) :=
  Nat.rec (motive := fun _ => Int32 → Int32 → hM → Option (Unit × hM)) (fun _ _ _ => none) (fun _ ih => s_X11_losesAll_2 fu ih) n
theorem f_X11_losesAll_2_s (fu : Nat) (n : Nat) (x1 : Int32) (x2 : Int32) (m : hM) : f_X11_losesAll_2 fu (n + 1) x1 x2 m = s_X11_losesAll_2 fu (f_X11_losesAll_2 fu n) x1 x2 m := rfl
set_option maxRecDepth 100000 in
set_option maxHeartbeats 4000000 in
theorem r_X11_losesAll_2 {G : hG} {X : hX} (C : Cx G X 6 cX11_losesAll 4 RX11 none) (K : Cr G X) (fu : Nat) (n : Nat) : ∀ (x1 : Int32) (x2 : Int32) (m : hM), Rf vU G X 2 [(0, hA G 96), (1, .int x1), (2, .int x2)] [] m (f_X11_losesAll_2 fu n x1 x2 m) := by
  induction n with
  | zero => intros; exact rf_none
  | succ n ih =>
    intro x1 x2 m
    show Rf vU G X 2 [(0, hA G 96), (1, .int x1), (2, .int x2)] [] m (s_X11_losesAll_2 fu (f_X11_losesAll_2 fu n) x1 x2 m)
    unfold s_X11_losesAll_2
    refine rf_iload_n C (n := 3) (q := 2) dX11_losesAll_2 rfl rfl rfl ?_
    refine rf_aload_n C (n := 4) (q := 0) dX11_losesAll_3 rfl rfl rfl ?_
    refine rf_getI C (n := 7) fl_RX11_22 ly_96 rfl dX11_losesAll_4 rfl ?_
    refine rf_icmp_ge C (tgt := 50) (n := 10) dX11_losesAll_7 (by decide) rfl (fun h1 => ?_) (fun h1 => ?_)
    · exact rf_vret C K dX11_losesAll_50
    · refine rf_iconst C (n := 11) (v := 0) dX11_losesAll_10 rfl (by decide) ?_
      refine rf_istore_n C (n := 12) [(3, .int 0), (0, hA G 96), (1, .int x1), (2, .int x2)] dX11_losesAll_11 rfl rfl (by decide) rfl ?_
      exact rf_lv _ [1, 2, 3, 0] rfl (r_X11_losesAll_12 C K fu _ ih fu _ _ _ _)
noncomputable def f_X11_losesAll (fu : Nat) (x1 : Int32) (m : hM) : Option (Unit × hM) :=
  f_X11_losesAll_2 fu fu x1 0 m
set_option maxRecDepth 100000 in
set_option maxHeartbeats 4000000 in
theorem c_X11_losesAll (G : hG) (fu : Nat) (x1 : Int32) (m : hM) : Mt vU G 6 yX11_losesAll cX11_losesAll 4 none [hA G 96, .int x1] m (f_X11_losesAll fu x1 m) := by
  refine mt_of (by decide +kernel) (Nat.le_of_ble_eq_true rfl) (fun X C K => ?_)
  have C : Cx G X 6 cX11_losesAll 4 RX11 none := C
  show Rf vU G X 0 [(0, hA G 96), (1, .int x1)] [] m _
  unfold f_X11_losesAll
  refine rf_iconst C (n := 1) (v := 0) dX11_losesAll_0 rfl (by decide) ?_
  refine rf_istore_n C (n := 2) [(2, .int 0), (0, hA G 96), (1, .int x1)] dX11_losesAll_1 rfl rfl (by decide) rfl ?_
  exact rf_lv _ [1, 2, 0] rfl (r_X11_losesAll_2 C K fu fu _ _ _)
noncomputable def f_X11_least_19 (fu : Nat) (b0 : Nat) (s1 : Int32) (s2 : Int32) (m : hM) : Option (Unit × hM) :=
  if hIn s1 3072 then (
hLet (sI m b0 (Int32.toNatClampNeg s1) s2) fun m7 =>
some ((), m7)) else none
set_option maxRecDepth 100000 in
set_option maxHeartbeats 4000000 in
theorem r_X11_least_19 {G : hG} {X : hX} (C : Cx G X 2 cX11_least 3 RX11 none) (K : Cr G X) (fu : Nat) (b0 : Nat) (hb0 : LY[b0]? = some (.inr (.inl (0, 3072)))) (s1 : Int32) (s2 : Int32) (m : hM) : Rf vU G X 19 [] [.int s2, .int s1, hA G b0] m (f_X11_least_19 fu b0 s1 s2 m) := by
  unfold f_X11_least_19
  refine rf_guard (fun h6 => ?_)
  refine rf_iast C (n := 20) hb0 h6 rfl dX11_least_19 rfl ?_
  refine rf_letM (fun m7 => ?_)
  exact rf_vret C K dX11_least_20
noncomputable def f_X11_least (fu : Nat) (a0 : Nat) (x1 : Int32) (x2 : Int32) (m : hM) : Option (Unit × hM) :=
  if hAr LY[a0]? 0 3072 = true then (if hIn x1 3072 then (
if 0 ≤ (gI m a0 (Int32.toNatClampNeg x1)) then (
if hIn x1 3072 then (
hBd (f_J9_min_7cf53 fu (gI m a0 (Int32.toNatClampNeg x1)) x2 m) fun y4 m5 =>
f_X11_least_19 fu a0 x1 y4 m5) else none) else (
f_X11_least_19 fu a0 x1 x2 m)) else none) else none
set_option maxRecDepth 100000 in
set_option maxHeartbeats 4000000 in
theorem c_X11_least (G : hG) (fu : Nat) (a0 : Nat) (x1 : Int32) (x2 : Int32) (m : hM) : Mt vU G 2 yX11_least cX11_least 3 none [hA G a0, .int x1, .int x2] m (f_X11_least fu a0 x1 x2 m) := by
  refine mt_of (by decide +kernel) (Nat.le_of_ble_eq_true rfl) (fun X C K => ?_)
  have C : Cx G X 2 cX11_least 3 RX11 none := C
  show Rf vU G X 0 [(0, hA G a0), (1, .int x1), (2, .int x2)] [] m _
  unfold f_X11_least
  refine rf_guard (fun ha0 => ?_)
  replace ha0 := hAr_l ha0
  refine rf_aload_n C (n := 1) (q := 0) dX11_least_0 rfl rfl rfl ?_
  refine rf_iload_n C (n := 2) (q := 1) dX11_least_1 rfl rfl rfl ?_
  refine rf_aload_n C (n := 3) (q := 0) dX11_least_2 rfl rfl rfl ?_
  refine rf_iload_n C (n := 4) (q := 1) dX11_least_3 rfl rfl rfl ?_
  refine rf_guard (fun h1 => ?_)
  refine rf_iald C (n := 5) ha0 h1 rfl dX11_least_4 rfl ?_
  refine rf_if_ge C (tgt := 12) (n := 8) dX11_least_5 (by decide) rfl (fun h2 => ?_) (fun h2 => ?_)
  · refine rf_aload_n C (n := 13) (q := 0) dX11_least_12 rfl rfl rfl ?_
    refine rf_iload_n C (n := 14) (q := 1) dX11_least_13 rfl rfl rfl ?_
    refine rf_guard (fun h3 => ?_)
    refine rf_iald C (n := 15) ha0 h3 rfl dX11_least_14 rfl ?_
    refine rf_iload_n C (n := 16) (q := 2) dX11_least_15 rfl rfl rfl ?_
    refine rf_callSi C (n := 19) (c_J9_min_7cf53 G fu _ _ _) sw_RX11_95 ⟨by decide, by decide⟩ rfl (Nat.le_of_ble_eq_true rfl) rfl dX11_least_16 rfl (fun y4 m5 => ?_)
    exact rf_lv _ [] rfl (r_X11_least_19 C K fu _ ha0 _ _ _)
  · refine rf_iload_n C (n := 9) (q := 2) dX11_least_8 rfl rfl rfl ?_
    refine rf_goto C (n := 19) dX11_least_9 (by decide) ?_
    exact rf_lv _ [] rfl (r_X11_least_19 C K fu _ ha0 _ _ _)
noncomputable def f_X11_goesFrom_116 (fu : Nat) (k58 : Int32 → Int32 → Int32 → Int32 → Int32 → Int32 → hM → Option (Unit × hM)) (x1 : Int32) (x2 : Int32) (x3 : Int32) (x4 : Int32) (x5 : Int32) (x6 : Int32) (m : hM) : Option (Unit × hM) :=
  hLet (x6 + 1) fun y9 =>
k58 x1 x2 x3 x4 x5 y9 m
set_option maxRecDepth 100000 in
set_option maxHeartbeats 4000000 in
theorem r_X11_goesFrom_116 {G : hG} {X : hX} (C : Cx G X 3 cX11_goesFrom 7 RX11 none) (K : Cr G X) (fu : Nat) (k58 : Int32 → Int32 → Int32 → Int32 → Int32 → Int32 → hM → Option (Unit × hM)) (hk58 : ∀ (x1 : Int32) (x2 : Int32) (x3 : Int32) (x4 : Int32) (x5 : Int32) (x6 : Int32) (m : hM), Rf vU G X 58 [(0, hA G 96), (1, .int x1), (2, .int x2), (3, .int x3), (4, .int x4), (5, .int x5), (6, .int x6)] [] m (k58 x1 x2 x3 x4 x5 x6 m)) (x1 : Int32) (x2 : Int32) (x3 : Int32) (x4 : Int32) (x5 : Int32) (x6 : Int32) (m : hM) : Rf vU G X 116 [(0, hA G 96), (1, .int x1), (2, .int x2), (3, .int x3), (4, .int x4), (5, .int x5), (6, .int x6)] [] m (f_X11_goesFrom_116 fu k58 x1 x2 x3 x4 x5 x6 m) := by
  unfold f_X11_goesFrom_116
  refine rf_iinc2 C (n := 119) (q := 6) (fun y9 => [(6, .int y9), (0, hA G 96), (1, .int x1), (2, .int x2), (3, .int x3), (4, .int x4), (5, .int x5)]) dX11_goesFrom_116 rfl rfl (by decide) (by decide) (fun _ => rfl) (fun y9 => ?_)
  refine rf_goto C (n := 58) dX11_goesFrom_119 (by decide) ?_
  exact rf_lv _ [1, 2, 3, 4, 5, 6, 0] rfl (hk58 _ _ _ _ _ _ _)
noncomputable def s_X11_goesFrom_58 (fu : Nat) (ih : Int32 → Int32 → Int32 → Int32 → Int32 → Int32 → hM → Option (Unit × hM)) (x1 : Int32) (x2 : Int32) (x3 : Int32) (x4 : Int32) (x5 : Int32) (x6 : Int32) (m : hM) : Option (Unit × hM) :=
  if (gI m 96 3) ≤ x6 then (
some ((), m)) else (
if x5 ≤ x1 then (
some ((), m)) else (
if x6 = x2 then (
f_X11_goesFrom_116 fu ih x1 x2 x3 x4 x5 x6 m) else (
if hAr LY[gR m 96 39]? 0 3072 = true then (
if hIn ((6 * x2) + x6) 36 then (
hBd (f_X11_placeAt fu (x1 + 1) x6 (x3 + (gI m 123 (Int32.toNatClampNeg ((6 * x2) + x6)))) m) fun y12 m13 =>
hBd (f_X11_least fu (gR m 96 39) y12 ((8 * x4) + x6) m13) fun _ m14 =>
f_X11_goesFrom_116 fu ih x1 x2 x3 x4 x5 x6 m14) else none) else none)))
noncomputable def f_X11_goesFrom_58 (fu : Nat) (n : Nat) : Int32 → Int32 → Int32 → Int32 → Int32 → Int32 → hM → Option (Unit × hM) :=
  Nat.rec (motive := fun _ => Int32 → Int32 → Int32 → Int32 → Int32 → Int32 → hM → Option (Unit × hM)) (fun _ _ _ _ _ _ _ => none) (fun _ ih => s_X11_goesFrom_58 fu ih) n
theorem f_X11_goesFrom_58_s (fu : Nat) (n : Nat) (x1 : Int32) (x2 : Int32) (x3 : Int32) (x4 : Int32) (x5 : Int32) (x6 : Int32) (m : hM) : f_X11_goesFrom_58 fu (n + 1) x1 x2 x3 x4 x5 x6 m = s_X11_goesFrom_58 fu (f_X11_goesFrom_58 fu n) x1 x2 x3 x4 x5 x6 m := rfl
set_option maxRecDepth 100000 in
set_option maxHeartbeats 4000000 in
theorem r_X11_goesFrom_58 {G : hG} {X : hX} (C : Cx G X 3 cX11_goesFrom 7 RX11 none) (K : Cr G X) (fu : Nat) (n : Nat) : ∀ (x1 : Int32) (x2 : Int32) (x3 : Int32) (x4 : Int32) (x5 : Int32) (x6 : Int32) (m : hM), Rf vU G X 58 [(0, hA G 96), (1, .int x1), (2, .int x2), (3, .int x3), (4, .int x4), (5, .int x5), (6, .int x6)] [] m (f_X11_goesFrom_58 fu n x1 x2 x3 x4 x5 x6 m) := by
  induction n with
  | zero => intros; exact rf_none
  | succ n ih =>
    intro x1 x2 x3 x4 x5 x6 m
    show Rf vU G X 58 [(0, hA G 96), (1, .int x1), (2, .int x2), (3, .int x3), (4, .int x4), (5, .int x5), (6, .int x6)] [] m (s_X11_goesFrom_58 fu (f_X11_goesFrom_58 fu n) x1 x2 x3 x4 x5 x6 m)
    unfold s_X11_goesFrom_58
    refine rf_iload C (n := 60) (q := 6) dX11_goesFrom_58 rfl rfl ?_
    refine rf_aload_n C (n := 61) (q := 0) dX11_goesFrom_60 rfl rfl rfl ?_
    refine rf_getI C (n := 64) fl_RX11_22 ly_96 rfl dX11_goesFrom_61 rfl ?_
    refine rf_icmp_ge C (tgt := 122) (n := 67) dX11_goesFrom_64 (by decide) rfl (fun h6 => ?_) (fun h6 => ?_)
    · exact rf_vret C K dX11_goesFrom_122
    · refine rf_iload_n C (n := 68) (q := 1) dX11_goesFrom_67 rfl rfl rfl ?_
      refine rf_iload C (n := 70) (q := 5) dX11_goesFrom_68 rfl rfl ?_
      refine rf_icmp_ge C (tgt := 122) (n := 73) dX11_goesFrom_70 (by decide) rfl (fun h7 => ?_) (fun h7 => ?_)
      · exact rf_vret C K dX11_goesFrom_122
      · refine rf_iload C (n := 75) (q := 6) dX11_goesFrom_73 rfl rfl ?_
        refine rf_iload_n C (n := 76) (q := 2) dX11_goesFrom_75 rfl rfl rfl ?_
        refine rf_icmp_eq C (tgt := 116) (n := 79) dX11_goesFrom_76 (by decide) rfl (fun h8 => ?_) (fun h8 => ?_)
        · exact rf_lv _ [0, 1, 2, 3, 4, 5, 6] rfl (r_X11_goesFrom_116 C K fu _ ih _ _ _ _ _ _ _)
        · refine rf_aload_n C (n := 80) (q := 0) dX11_goesFrom_79 rfl rfl rfl ?_
          refine rf_guard (fun h10 => ?_)
          replace h10 := hAr_l h10
          refine rf_getR C (n := 83) fl_RX11_347 ly_96 rfl dX11_goesFrom_80 rfl ?_
          refine rf_iload_n C (n := 84) (q := 1) dX11_goesFrom_83 rfl rfl rfl ?_
          refine rf_iconst C (n := 85) (v := 1) dX11_goesFrom_84 rfl (by decide) ?_
          refine rf_iadd C (n := 86) dX11_goesFrom_85 rfl ?_
          refine rf_iload C (n := 88) (q := 6) dX11_goesFrom_86 rfl rfl ?_
          refine rf_iload_n C (n := 89) (q := 3) dX11_goesFrom_88 rfl rfl rfl ?_
          refine rf_aload_n C (n := 90) (q := 0) dX11_goesFrom_89 rfl rfl rfl ?_
          refine rf_getS C (n := 93) fl_RX11_335 ly_96 rfl dX11_goesFrom_90 rfl ?_
          refine rf_bipush C (n := 95) (v := 6) dX11_goesFrom_93 rfl (by decide) ?_
          refine rf_iload_n C (n := 96) (q := 2) dX11_goesFrom_95 rfl rfl rfl ?_
          refine rf_imul C (n := 97) dX11_goesFrom_96 rfl ?_
          refine rf_iload C (n := 99) (q := 6) dX11_goesFrom_97 rfl rfl ?_
          refine rf_iadd C (n := 100) dX11_goesFrom_99 rfl ?_
          refine rf_guard (fun h11 => ?_)
          refine rf_iald C (n := 101) ly_123 h11 rfl dX11_goesFrom_100 rfl ?_
          refine rf_iadd C (n := 102) dX11_goesFrom_101 rfl ?_
          refine rf_callSi C (n := 105) (c_X11_placeAt G fu _ _ _ _) sw_RX11_344 ⟨by decide, by decide⟩ rfl (Nat.le_of_ble_eq_true rfl) rfl dX11_goesFrom_102 rfl (fun y12 m13 => ?_)
          refine rf_bipush C (n := 107) (v := 8) dX11_goesFrom_105 rfl (by decide) ?_
          refine rf_iload C (n := 109) (q := 4) dX11_goesFrom_107 rfl rfl ?_
          refine rf_imul C (n := 110) dX11_goesFrom_109 rfl ?_
          refine rf_iload C (n := 112) (q := 6) dX11_goesFrom_110 rfl rfl ?_
          refine rf_iadd C (n := 113) dX11_goesFrom_112 rfl ?_
          refine rf_callSv C (n := 116) (c_X11_least G fu _ _ _ _) sw_RX11_363 ⟨by decide, by decide⟩ rfl (Nat.le_of_ble_eq_true rfl) rfl dX11_goesFrom_113 rfl (fun _ m14 => ?_)
          exact rf_lv _ [0, 1, 2, 3, 4, 5, 6] rfl (r_X11_goesFrom_116 C K fu _ ih _ _ _ _ _ _ _)
noncomputable def f_X11_goesFrom_28 (fu : Nat) (x1 : Int32) (x4 : Int32) (m : hM) : Option (Unit × hM) :=
  hLet (sI m 96 41 x1) fun m16 =>
hLet (sI m16 96 42 x4) fun m17 =>
some ((), m17)
set_option maxRecDepth 100000 in
set_option maxHeartbeats 4000000 in
theorem r_X11_goesFrom_28 {G : hG} {X : hX} (C : Cx G X 3 cX11_goesFrom 7 RX11 none) (K : Cr G X) (fu : Nat) (x1 : Int32) (x4 : Int32) (m : hM) : Rf vU G X 28 [(0, hA G 96), (1, .int x1), (4, .int x4)] [] m (f_X11_goesFrom_28 fu x1 x4 m) := by
  unfold f_X11_goesFrom_28
  refine rf_aload_n C (n := 29) (q := 0) dX11_goesFrom_28 rfl rfl rfl ?_
  refine rf_iload_n C (n := 30) (q := 1) dX11_goesFrom_29 rfl rfl rfl ?_
  refine rf_putI C (n := 33) pl_RX11_350 ly_96 rfl ⟨rfl, rfl⟩ dX11_goesFrom_30 rfl ?_
  refine rf_letM (fun m16 => ?_)
  refine rf_aload_n C (n := 34) (q := 0) dX11_goesFrom_33 rfl rfl rfl ?_
  refine rf_iload C (n := 36) (q := 2) dX11_goesFrom_34 rfl rfl ?_
  refine rf_putI C (n := 39) pl_RX11_360 ly_96 rfl ⟨rfl, rfl⟩ dX11_goesFrom_36 rfl ?_
  refine rf_letM (fun m17 => ?_)
  exact rf_vret C K dX11_goesFrom_39
noncomputable def f_X11_goesFrom (fu : Nat) (x1 : Int32) (x2 : Int32) (x3 : Int32) (x4 : Int32) (x5 : Int32) (m : hM) : Option (Unit × hM) :=
  if ¬ x3 = 0 then (
if hAr LY[gR m 96 39]? 0 3072 = true then (
hBd (f_X11_placeAt fu x1 x2 x3 m) fun y3 m4 =>
hBd (f_X11_least fu (gR m 96 39) y3 x4 m4) fun _ m5 =>
f_X11_goesFrom_58 fu fu x1 x2 x3 x4 x5 0 m5) else none) else (
if (gI m 96 41) < 0 then (
f_X11_goesFrom_28 fu x1 x4 m) else (
if ¬ x1 = (gI m 96 41) then (
some ((), m)) else (
if (gI m 96 42) ≤ x4 then (
some ((), m)) else (
f_X11_goesFrom_28 fu x1 x4 m))))
set_option maxRecDepth 100000 in
set_option maxHeartbeats 4000000 in
theorem c_X11_goesFrom (G : hG) (fu : Nat) (x1 : Int32) (x2 : Int32) (x3 : Int32) (x4 : Int32) (x5 : Int32) (m : hM) : Mt vU G 3 yX11_goesFrom cX11_goesFrom 7 none [hA G 96, .int x1, .int x2, .int x3, .int x4, .int x5] m (f_X11_goesFrom fu x1 x2 x3 x4 x5 m) := by
  refine mt_of (by decide +kernel) (Nat.le_of_ble_eq_true rfl) (fun X C K => ?_)
  have C : Cx G X 3 cX11_goesFrom 7 RX11 none := C
  show Rf vU G X 0 [(0, hA G 96), (1, .int x1), (2, .int x2), (3, .int x3), (4, .int x4), (5, .int x5)] [] m _
  unfold f_X11_goesFrom
  refine rf_iload_n C (n := 1) (q := 3) dX11_goesFrom_0 rfl rfl rfl ?_
  refine rf_if_ne C (tgt := 40) (n := 4) dX11_goesFrom_1 (by decide) rfl (fun h1 => ?_) (fun h1 => ?_)
  · refine rf_aload_n C (n := 41) (q := 0) dX11_goesFrom_40 rfl rfl rfl ?_
    refine rf_guard (fun h2 => ?_)
    replace h2 := hAr_l h2
    refine rf_getR C (n := 44) fl_RX11_347 ly_96 rfl dX11_goesFrom_41 rfl ?_
    refine rf_iload_n C (n := 45) (q := 1) dX11_goesFrom_44 rfl rfl rfl ?_
    refine rf_iload_n C (n := 46) (q := 2) dX11_goesFrom_45 rfl rfl rfl ?_
    refine rf_iload_n C (n := 47) (q := 3) dX11_goesFrom_46 rfl rfl rfl ?_
    refine rf_callSi C (n := 50) (c_X11_placeAt G fu _ _ _ _) sw_RX11_344 ⟨by decide, by decide⟩ rfl (Nat.le_of_ble_eq_true rfl) rfl dX11_goesFrom_47 rfl (fun y3 m4 => ?_)
    refine rf_iload C (n := 52) (q := 4) dX11_goesFrom_50 rfl rfl ?_
    refine rf_callSv C (n := 55) (c_X11_least G fu _ _ _ _) sw_RX11_363 ⟨by decide, by decide⟩ rfl (Nat.le_of_ble_eq_true rfl) rfl dX11_goesFrom_52 rfl (fun _ m5 => ?_)
    refine rf_iconst C (n := 56) (v := 0) dX11_goesFrom_55 rfl (by decide) ?_
    refine rf_istore C (n := 58) [(6, .int 0), (0, hA G 96), (1, .int x1), (2, .int x2), (3, .int x3), (4, .int x4), (5, .int x5)] dX11_goesFrom_56 rfl (by decide) rfl ?_
    exact rf_lv _ [1, 2, 3, 4, 5, 6, 0] rfl (r_X11_goesFrom_58 C K fu fu _ _ _ _ _ _ _)
  · refine rf_aload_n C (n := 5) (q := 0) dX11_goesFrom_4 rfl rfl rfl ?_
    refine rf_getI C (n := 8) fl_RX11_350 ly_96 rfl dX11_goesFrom_5 rfl ?_
    refine rf_if_lt C (tgt := 28) (n := 11) dX11_goesFrom_8 (by decide) rfl (fun h15 => ?_) (fun h15 => ?_)
    · exact rf_lv _ [0, 1, 4] rfl (r_X11_goesFrom_28 C K fu _ _ _)
    · refine rf_iload_n C (n := 12) (q := 1) dX11_goesFrom_11 rfl rfl rfl ?_
      refine rf_aload_n C (n := 13) (q := 0) dX11_goesFrom_12 rfl rfl rfl ?_
      refine rf_getI C (n := 16) fl_RX11_350 ly_96 rfl dX11_goesFrom_13 rfl ?_
      refine rf_icmp_ne C (tgt := 39) (n := 19) dX11_goesFrom_16 (by decide) rfl (fun h18 => ?_) (fun h18 => ?_)
      · exact rf_vret C K dX11_goesFrom_39
      · refine rf_iload C (n := 21) (q := 4) dX11_goesFrom_19 rfl rfl ?_
        refine rf_aload_n C (n := 22) (q := 0) dX11_goesFrom_21 rfl rfl rfl ?_
        refine rf_getI C (n := 25) fl_RX11_360 ly_96 rfl dX11_goesFrom_22 rfl ?_
        refine rf_icmp_ge C (tgt := 39) (n := 28) dX11_goesFrom_25 (by decide) rfl (fun h19 => ?_) (fun h19 => ?_)
        · exact rf_vret C K dX11_goesFrom_39
        · exact rf_lv _ [0, 1, 4] rfl (r_X11_goesFrom_28 C K fu _ _ _)
