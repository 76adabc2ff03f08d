theorem dX10_together_0 : decode cX10_together 0 = .ok (.aload_n 0, 1) := by decide +kernel
theorem dX10_together_1 : decode cX10_together 1 = .ok (.getfield 12, 3) := by decide +kernel
theorem dX10_together_4 : decode cX10_together 4 = .ok (.iload_n 1, 1) := by decide +kernel
theorem dX10_together_5 : decode cX10_together 5 = .ok (.invokevirtual 116, 3) := by decide +kernel
theorem dX10_together_8 : decode cX10_together 8 = .ok (.ifCond .eq 20, 3) := by decide +kernel
theorem dX10_together_11 : decode cX10_together 11 = .ok (.iload_n 2, 1) := by decide +kernel
theorem dX10_together_12 : decode cX10_together 12 = .ok (.invokestatic 119, 3) := by decide +kernel
theorem dX10_together_15 : decode cX10_together 15 = .ok (.ifCond .eq 13, 3) := by decide +kernel
theorem dX10_together_18 : decode cX10_together 18 = .ok (.aload_n 0, 1) := by decide +kernel
theorem dX10_together_19 : decode cX10_together 19 = .ok (.getfield 19, 3) := by decide +kernel
theorem dX10_together_22 : decode cX10_together 22 = .ok (.getfield 177, 3) := by decide +kernel
theorem dX10_together_25 : decode cX10_together 25 = .ok (.ifCond .ne 5, 3) := by decide +kernel
theorem dX10_together_28 : decode cX10_together 28 = .ok (.iconst (-1), 1) := by decide +kernel
theorem dX10_together_29 : decode cX10_together 29 = .ok (.ireturn, 1) := by decide +kernel
theorem dX10_together_30 : decode cX10_together 30 = .ok (.aload_n 0, 1) := by decide +kernel
theorem dX10_together_31 : decode cX10_together 31 = .ok (.getfield 12, 3) := by decide +kernel
theorem dX10_together_34 : decode cX10_together 34 = .ok (.getfield 102, 3) := by decide +kernel
theorem dX10_together_37 : decode cX10_together 37 = .ok (.iload_n 1, 1) := by decide +kernel
theorem dX10_together_38 : decode cX10_together 38 = .ok (.aaload, 1) := by decide +kernel
theorem dX10_together_39 : decode cX10_together 39 = .ok (.astore_n 3, 1) := by decide +kernel
theorem dX10_together_40 : decode cX10_together 40 = .ok (.aload_n 3, 1) := by decide +kernel
theorem dX10_together_41 : decode cX10_together 41 = .ok (.getfield 382, 3) := by decide +kernel
theorem dX10_together_44 : decode cX10_together 44 = .ok (.istore 4, 2) := by decide +kernel
theorem dX10_together_46 : decode cX10_together 46 = .ok (.aload_n 3, 1) := by decide +kernel
theorem dX10_together_47 : decode cX10_together 47 = .ok (.getfield 385, 3) := by decide +kernel
theorem dX10_together_50 : decode cX10_together 50 = .ok (.istore 5, 2) := by decide +kernel
theorem dX10_together_52 : decode cX10_together 52 = .ok (.aload_n 3, 1) := by decide +kernel
theorem dX10_together_53 : decode cX10_together 53 = .ok (.aload_n 0, 1) := by decide +kernel
theorem dX10_together_54 : decode cX10_together 54 = .ok (.getfield 12, 3) := by decide +kernel
theorem dX10_together_57 : decode cX10_together 57 = .ok (.invokevirtual 388, 3) := by decide +kernel
theorem dX10_together_60 : decode cX10_together 60 = .ok (.bipush 9, 2) := by decide +kernel
theorem dX10_together_62 : decode cX10_together 62 = .ok (.invokestatic 363, 3) := by decide +kernel
theorem dX10_together_65 : decode cX10_together 65 = .ok (.putfield 385, 3) := by decide +kernel
theorem dX10_together_68 : decode cX10_together 68 = .ok (.aload_n 3, 1) := by decide +kernel
theorem dX10_together_69 : decode cX10_together 69 = .ok (.bipush 63, 2) := by decide +kernel
theorem dX10_together_71 : decode cX10_together 71 = .ok (.putfield 382, 3) := by decide +kernel
theorem dX10_together_74 : decode cX10_together 74 = .ok (.aload_n 0, 1) := by decide +kernel
theorem dX10_together_75 : decode cX10_together 75 = .ok (.getfield 42, 3) := by decide +kernel
theorem dX10_together_78 : decode cX10_together 78 = .ok (.iconst 0, 1) := by decide +kernel
theorem dX10_together_79 : decode cX10_together 79 = .ok (.putfield 318, 3) := by decide +kernel
theorem dX10_together_82 : decode cX10_together 82 = .ok (.aload_n 0, 1) := by decide +kernel
theorem dX10_together_83 : decode cX10_together 83 = .ok (.getfield 42, 3) := by decide +kernel
theorem dX10_together_86 : decode cX10_together 86 = .ok (.iconst 0, 1) := by decide +kernel
theorem dX10_together_87 : decode cX10_together 87 = .ok (.putfield 391, 3) := by decide +kernel
theorem dX10_together_90 : decode cX10_together 90 = .ok (.aload_n 0, 1) := by decide +kernel
theorem dX10_together_91 : decode cX10_together 91 = .ok (.iload_n 2, 1) := by decide +kernel
theorem dX10_together_92 : decode cX10_together 92 = .ok (.invokevirtual 322, 3) := by decide +kernel
theorem dX10_together_95 : decode cX10_together 95 = .ok (.pop, 1) := by decide +kernel
theorem dX10_together_96 : decode cX10_together 96 = .ok (.aload_n 0, 1) := by decide +kernel
theorem dX10_together_97 : decode cX10_together 97 = .ok (.getfield 69, 3) := by decide +kernel
theorem dX10_together_100 : decode cX10_together 100 = .ok (.getfield 232, 3) := by decide +kernel
theorem dX10_together_103 : decode cX10_together 103 = .ok (.iload_n 1, 1) := by decide +kernel
theorem dX10_together_104 : decode cX10_together 104 = .ok (.invokestatic 394, 3) := by decide +kernel
theorem dX10_together_107 : decode cX10_together 107 = .ok (.aload_n 0, 1) := by decide +kernel
theorem dX10_together_108 : decode cX10_together 108 = .ok (.getfield 42, 3) := by decide +kernel
theorem dX10_together_111 : decode cX10_together 111 = .ok (.aload_n 0, 1) := by decide +kernel
theorem dX10_together_112 : decode cX10_together 112 = .ok (.getfield 69, 3) := by decide +kernel
theorem dX10_together_115 : decode cX10_together 115 = .ok (.sipush 2399, 3) := by decide +kernel
theorem dX10_together_118 : decode cX10_together 118 = .ok (.invokevirtual 270, 3) := by decide +kernel
theorem dX10_together_121 : decode cX10_together 121 = .ok (.istore 6, 2) := by decide +kernel
theorem dX10_together_123 : decode cX10_together 123 = .ok (.aload_n 0, 1) := by decide +kernel
theorem dX10_together_124 : decode cX10_together 124 = .ok (.getfield 42, 3) := by decide +kernel
theorem dX10_together_127 : decode cX10_together 127 = .ok (.iconst 1, 1) := by decide +kernel
theorem dX10_together_128 : decode cX10_together 128 = .ok (.putfield 391, 3) := by decide +kernel
theorem dX10_together_131 : decode cX10_together 131 = .ok (.aload_n 0, 1) := by decide +kernel
theorem dX10_together_132 : decode cX10_together 132 = .ok (.getfield 42, 3) := by decide +kernel
theorem dX10_together_135 : decode cX10_together 135 = .ok (.iconst 1, 1) := by decide +kernel
theorem dX10_together_136 : decode cX10_together 136 = .ok (.putfield 318, 3) := by decide +kernel
theorem dX10_together_139 : decode cX10_together 139 = .ok (.aload_n 3, 1) := by decide +kernel
theorem dX10_together_140 : decode cX10_together 140 = .ok (.iload 4, 2) := by decide +kernel
theorem dX10_together_142 : decode cX10_together 142 = .ok (.putfield 382, 3) := by decide +kernel
theorem dX10_together_145 : decode cX10_together 145 = .ok (.aload_n 3, 1) := by decide +kernel
theorem dX10_together_146 : decode cX10_together 146 = .ok (.iload 5, 2) := by decide +kernel
theorem dX10_together_148 : decode cX10_together 148 = .ok (.putfield 385, 3) := by decide +kernel
theorem dX10_together_151 : decode cX10_together 151 = .ok (.iload 6, 2) := by decide +kernel
theorem dX10_together_153 : decode cX10_together 153 = .ok (.bipush (-2), 2) := by decide +kernel
theorem dX10_together_155 : decode cX10_together 155 = .ok (.if_icmp .eq 10, 3) := by decide +kernel
theorem dX10_together_158 : decode cX10_together 158 = .ok (.aload_n 0, 1) := by decide +kernel
theorem dX10_together_159 : decode cX10_together 159 = .ok (.iconst 0, 1) := by decide +kernel
theorem dX10_together_160 : decode cX10_together 160 = .ok (.iconst 0, 1) := by decide +kernel
theorem dX10_together_161 : decode cX10_together 161 = .ok (.iconst 0, 1) := by decide +kernel
theorem dX10_together_162 : decode cX10_together 162 = .ok (.invokevirtual 284, 3) := by decide +kernel
theorem dX10_together_165 : decode cX10_together 165 = .ok (.iload 6, 2) := by decide +kernel
theorem dX10_together_167 : decode cX10_together 167 = .ok (.ireturn, 1) := by decide +kernel
theorem dX10_sleeps_0 : decode cX10_sleeps 0 = .ok (.aload_n 0, 1) := by decide +kernel
theorem dX10_sleeps_1 : decode cX10_sleeps 1 = .ok (.getfield 12, 3) := by decide +kernel
theorem dX10_sleeps_4 : decode cX10_sleeps 4 = .ok (.iload_n 1, 1) := by decide +kernel
theorem dX10_sleeps_5 : decode cX10_sleeps 5 = .ok (.invokevirtual 116, 3) := by decide +kernel
theorem dX10_sleeps_8 : decode cX10_sleeps 8 = .ok (.ifCond .eq 20, 3) := by decide +kernel
theorem dX10_sleeps_11 : decode cX10_sleeps 11 = .ok (.iload_n 2, 1) := by decide +kernel
theorem dX10_sleeps_12 : decode cX10_sleeps 12 = .ok (.invokestatic 128, 3) := by decide +kernel
theorem dX10_sleeps_15 : decode cX10_sleeps 15 = .ok (.ifCond .eq 13, 3) := by decide +kernel
theorem dX10_sleeps_18 : decode cX10_sleeps 18 = .ok (.aload_n 0, 1) := by decide +kernel
theorem dX10_sleeps_19 : decode cX10_sleeps 19 = .ok (.getfield 19, 3) := by decide +kernel
theorem dX10_sleeps_22 : decode cX10_sleeps 22 = .ok (.getfield 177, 3) := by decide +kernel
theorem dX10_sleeps_25 : decode cX10_sleeps 25 = .ok (.ifCond .ne 5, 3) := by decide +kernel
theorem dX10_sleeps_28 : decode cX10_sleeps 28 = .ok (.iconst (-1), 1) := by decide +kernel
theorem dX10_sleeps_29 : decode cX10_sleeps 29 = .ok (.ireturn, 1) := by decide +kernel
theorem dX10_sleeps_30 : decode cX10_sleeps 30 = .ok (.aload_n 0, 1) := by decide +kernel
theorem dX10_sleeps_31 : decode cX10_sleeps 31 = .ok (.getfield 12, 3) := by decide +kernel
theorem dX10_sleeps_34 : decode cX10_sleeps 34 = .ok (.getfield 102, 3) := by decide +kernel
theorem dX10_sleeps_37 : decode cX10_sleeps 37 = .ok (.iload_n 1, 1) := by decide +kernel
theorem dX10_sleeps_38 : decode cX10_sleeps 38 = .ok (.aaload, 1) := by decide +kernel
theorem dX10_sleeps_39 : decode cX10_sleeps 39 = .ok (.getfield 399, 3) := by decide +kernel
theorem dX10_sleeps_42 : decode cX10_sleeps 42 = .ok (.iload_n 2, 1) := by decide +kernel
theorem dX10_sleeps_43 : decode cX10_sleeps 43 = .ok (.baload, 1) := by decide +kernel
theorem dX10_sleeps_44 : decode cX10_sleeps 44 = .ok (.ifCond .eq 7, 3) := by decide +kernel
theorem dX10_sleeps_47 : decode cX10_sleeps 47 = .ok (.sipush (-9998), 3) := by decide +kernel
theorem dX10_sleeps_50 : decode cX10_sleeps 50 = .ok (.ireturn, 1) := by decide +kernel
theorem dX10_sleeps_51 : decode cX10_sleeps 51 = .ok (.aload_n 0, 1) := by decide +kernel
theorem dX10_sleeps_52 : decode cX10_sleeps 52 = .ok (.getfield 42, 3) := by decide +kernel
theorem dX10_sleeps_55 : decode cX10_sleeps 55 = .ok (.aload_n 0, 1) := by decide +kernel
theorem dX10_sleeps_56 : decode cX10_sleeps 56 = .ok (.invokevirtual 266, 3) := by decide +kernel
theorem dX10_sleeps_59 : decode cX10_sleeps 59 = .ok (.sipush 2399, 3) := by decide +kernel
theorem dX10_sleeps_62 : decode cX10_sleeps 62 = .ok (.invokevirtual 270, 3) := by decide +kernel
theorem dX10_sleeps_65 : decode cX10_sleeps 65 = .ok (.istore_n 3, 1) := by decide +kernel
theorem dX10_sleeps_66 : decode cX10_sleeps 66 = .ok (.aload_n 0, 1) := by decide +kernel
theorem dX10_sleeps_67 : decode cX10_sleeps 67 = .ok (.getfield 12, 3) := by decide +kernel
theorem dX10_sleeps_70 : decode cX10_sleeps 70 = .ok (.iload_n 1, 1) := by decide +kernel
theorem dX10_sleeps_71 : decode cX10_sleeps 71 = .ok (.iload_n 2, 1) := by decide +kernel
theorem dX10_sleeps_72 : decode cX10_sleeps 72 = .ok (.iconst 1, 1) := by decide +kernel
theorem dX10_sleeps_73 : decode cX10_sleeps 73 = .ok (.invokevirtual 131, 3) := by decide +kernel
theorem dX10_sleeps_76 : decode cX10_sleeps 76 = .ok (.aload_n 0, 1) := by decide +kernel
theorem dX10_sleeps_77 : decode cX10_sleeps 77 = .ok (.getfield 42, 3) := by decide +kernel
theorem dX10_sleeps_80 : decode cX10_sleeps 80 = .ok (.aload_n 0, 1) := by decide +kernel
theorem dX10_sleeps_81 : decode cX10_sleeps 81 = .ok (.invokevirtual 266, 3) := by decide +kernel
theorem dX10_sleeps_84 : decode cX10_sleeps 84 = .ok (.sipush 2399, 3) := by decide +kernel
theorem dX10_sleeps_87 : decode cX10_sleeps 87 = .ok (.invokevirtual 270, 3) := by decide +kernel
theorem dX10_sleeps_90 : decode cX10_sleeps 90 = .ok (.istore 4, 2) := by decide +kernel
theorem dX10_sleeps_92 : decode cX10_sleeps 92 = .ok (.aload_n 0, 1) := by decide +kernel
theorem dX10_sleeps_93 : decode cX10_sleeps 93 = .ok (.getfield 12, 3) := by decide +kernel
theorem dX10_sleeps_96 : decode cX10_sleeps 96 = .ok (.iload_n 1, 1) := by decide +kernel
theorem dX10_sleeps_97 : decode cX10_sleeps 97 = .ok (.iload_n 2, 1) := by decide +kernel
theorem dX10_sleeps_98 : decode cX10_sleeps 98 = .ok (.iconst 0, 1) := by decide +kernel
theorem dX10_sleeps_99 : decode cX10_sleeps 99 = .ok (.invokevirtual 131, 3) := by decide +kernel
theorem dX10_sleeps_102 : decode cX10_sleeps 102 = .ok (.iload_n 3, 1) := by decide +kernel
theorem dX10_sleeps_103 : decode cX10_sleeps 103 = .ok (.iload 4, 2) := by decide +kernel
theorem dX10_sleeps_105 : decode cX10_sleeps 105 = .ok (.invokestatic 357, 3) := by decide +kernel
theorem dX10_sleeps_108 : decode cX10_sleeps 108 = .ok (.ireturn, 1) := by decide +kernel
theorem dX10_worst_0 : decode cX10_worst 0 = .ok (.aload_n 0, 1) := by decide +kernel
theorem dX10_worst_1 : decode cX10_worst 1 = .ok (.getfield 12, 3) := by decide +kernel
theorem dX10_worst_4 : decode cX10_worst 4 = .ok (.iload_n 1, 1) := by decide +kernel
theorem dX10_worst_5 : decode cX10_worst 5 = .ok (.invokevirtual 116, 3) := by decide +kernel
theorem dX10_worst_8 : decode cX10_worst 8 = .ok (.ifCond .eq 32, 3) := by decide +kernel
theorem dX10_worst_11 : decode cX10_worst 11 = .ok (.iload_n 2, 1) := by decide +kernel
theorem dX10_worst_12 : decode cX10_worst 12 = .ok (.invokestatic 128, 3) := by decide +kernel
theorem dX10_worst_15 : decode cX10_worst 15 = .ok (.ifCond .eq 25, 3) := by decide +kernel
theorem dX10_worst_18 : decode cX10_worst 18 = .ok (.iload_n 3, 1) := by decide +kernel
theorem dX10_worst_19 : decode cX10_worst 19 = .ok (.invokestatic 128, 3) := by decide +kernel
theorem dX10_worst_22 : decode cX10_worst 22 = .ok (.ifCond .eq 18, 3) := by decide +kernel
theorem dX10_worst_25 : decode cX10_worst 25 = .ok (.iload_n 2, 1) := by decide +kernel
theorem dX10_worst_26 : decode cX10_worst 26 = .ok (.iload_n 3, 1) := by decide +kernel
theorem dX10_worst_27 : decode cX10_worst 27 = .ok (.if_icmp .gt 13, 3) := by decide +kernel
theorem dX10_worst_30 : decode cX10_worst 30 = .ok (.aload_n 0, 1) := by decide +kernel
theorem dX10_worst_31 : decode cX10_worst 31 = .ok (.getfield 19, 3) := by decide +kernel
theorem dX10_worst_34 : decode cX10_worst 34 = .ok (.getfield 177, 3) := by decide +kernel
theorem dX10_worst_37 : decode cX10_worst 37 = .ok (.ifCond .ne 5, 3) := by decide +kernel
theorem dX10_worst_40 : decode cX10_worst 40 = .ok (.iconst (-1), 1) := by decide +kernel
theorem dX10_worst_41 : decode cX10_worst 41 = .ok (.ireturn, 1) := by decide +kernel
theorem dX10_worst_42 : decode cX10_worst 42 = .ok (.bipush (-2), 2) := by decide +kernel
theorem dX10_worst_44 : decode cX10_worst 44 = .ok (.istore 4, 2) := by decide +kernel
theorem dX10_worst_46 : decode cX10_worst 46 = .ok (.iconst (-1), 1) := by decide +kernel
theorem dX10_worst_47 : decode cX10_worst 47 = .ok (.istore 5, 2) := by decide +kernel
theorem dX10_worst_49 : decode cX10_worst 49 = .ok (.iload_n 2, 1) := by decide +kernel
theorem dX10_worst_50 : decode cX10_worst 50 = .ok (.istore 6, 2) := by decide +kernel
theorem dX10_worst_52 : decode cX10_worst 52 = .ok (.iload 6, 2) := by decide +kernel
theorem dX10_worst_54 : decode cX10_worst 54 = .ok (.iload_n 3, 1) := by decide +kernel
theorem dX10_worst_55 : decode cX10_worst 55 = .ok (.if_icmp .gt 90, 3) := by decide +kernel
theorem dX10_worst_58 : decode cX10_worst 58 = .ok (.aload_n 0, 1) := by decide +kernel
theorem dX10_worst_59 : decode cX10_worst 59 = .ok (.getfield 12, 3) := by decide +kernel
theorem dX10_worst_62 : decode cX10_worst 62 = .ok (.getfield 102, 3) := by decide +kernel
theorem dX10_worst_65 : decode cX10_worst 65 = .ok (.iload_n 1, 1) := by decide +kernel
theorem dX10_worst_66 : decode cX10_worst 66 = .ok (.aaload, 1) := by decide +kernel
theorem dX10_worst_67 : decode cX10_worst 67 = .ok (.getfield 399, 3) := by decide +kernel
theorem dX10_worst_70 : decode cX10_worst 70 = .ok (.iload 6, 2) := by decide +kernel
theorem dX10_worst_72 : decode cX10_worst 72 = .ok (.baload, 1) := by decide +kernel
theorem dX10_worst_73 : decode cX10_worst 73 = .ok (.ifCond .eq 6, 3) := by decide +kernel
theorem dX10_worst_76 : decode cX10_worst 76 = .ok (.goto 63, 3) := by decide +kernel
theorem dX10_worst_79 : decode cX10_worst 79 = .ok (.aload_n 0, 1) := by decide +kernel
theorem dX10_worst_80 : decode cX10_worst 80 = .ok (.getfield 12, 3) := by decide +kernel
theorem dX10_worst_83 : decode cX10_worst 83 = .ok (.iload_n 1, 1) := by decide +kernel
theorem dX10_worst_84 : decode cX10_worst 84 = .ok (.iload 6, 2) := by decide +kernel
theorem dX10_worst_86 : decode cX10_worst 86 = .ok (.iconst 1, 1) := by decide +kernel
theorem dX10_worst_87 : decode cX10_worst 87 = .ok (.invokevirtual 131, 3) := by decide +kernel
theorem dX10_worst_90 : decode cX10_worst 90 = .ok (.aload_n 0, 1) := by decide +kernel
theorem dX10_worst_91 : decode cX10_worst 91 = .ok (.getfield 42, 3) := by decide +kernel
theorem dX10_worst_94 : decode cX10_worst 94 = .ok (.aload_n 0, 1) := by decide +kernel
theorem dX10_worst_95 : decode cX10_worst 95 = .ok (.invokevirtual 266, 3) := by decide +kernel
theorem dX10_worst_98 : decode cX10_worst 98 = .ok (.sipush 2399, 3) := by decide +kernel
theorem dX10_worst_101 : decode cX10_worst 101 = .ok (.invokevirtual 270, 3) := by decide +kernel
theorem dX10_worst_104 : decode cX10_worst 104 = .ok (.istore 7, 2) := by decide +kernel
theorem dX10_worst_106 : decode cX10_worst 106 = .ok (.aload_n 0, 1) := by decide +kernel
theorem dX10_worst_107 : decode cX10_worst 107 = .ok (.getfield 12, 3) := by decide +kernel
theorem dX10_worst_110 : decode cX10_worst 110 = .ok (.iload_n 1, 1) := by decide +kernel
theorem dX10_worst_111 : decode cX10_worst 111 = .ok (.iload 6, 2) := by decide +kernel
theorem dX10_worst_113 : decode cX10_worst 113 = .ok (.iconst 0, 1) := by decide +kernel
theorem dX10_worst_114 : decode cX10_worst 114 = .ok (.invokevirtual 131, 3) := by decide +kernel
theorem dX10_worst_117 : decode cX10_worst 117 = .ok (.iload 7, 2) := by decide +kernel
theorem dX10_worst_119 : decode cX10_worst 119 = .ok (.bipush (-2), 2) := by decide +kernel
theorem dX10_worst_121 : decode cX10_worst 121 = .ok (.if_icmp .eq 18, 3) := by decide +kernel
theorem dX10_worst_124 : decode cX10_worst 124 = .ok (.iload 7, 2) := by decide +kernel
theorem dX10_worst_126 : decode cX10_worst 126 = .ok (.iload 5, 2) := by decide +kernel
theorem dX10_worst_128 : decode cX10_worst 128 = .ok (.if_icmp .le 11, 3) := by decide +kernel
theorem dX10_worst_131 : decode cX10_worst 131 = .ok (.iload 6, 2) := by decide +kernel
theorem dX10_worst_133 : decode cX10_worst 133 = .ok (.istore 4, 2) := by decide +kernel
theorem dX10_worst_135 : decode cX10_worst 135 = .ok (.iload 7, 2) := by decide +kernel
theorem dX10_worst_137 : decode cX10_worst 137 = .ok (.istore 5, 2) := by decide +kernel
theorem dX10_worst_139 : decode cX10_worst 139 = .ok (.iinc 6 1, 3) := by decide +kernel
theorem dX10_worst_142 : decode cX10_worst 142 = .ok (.goto (-90), 3) := by decide +kernel
theorem dX10_worst_145 : decode cX10_worst 145 = .ok (.iload 4, 2) := by decide +kernel
theorem dX10_worst_147 : decode cX10_worst 147 = .ok (.bipush (-2), 2) := by decide +kernel
theorem dX10_worst_149 : decode cX10_worst 149 = .ok (.if_icmp .eq 20, 3) := by decide +kernel
theorem dX10_worst_152 : decode cX10_worst 152 = .ok (.aload_n 0, 1) := by decide +kernel
theorem dX10_worst_153 : decode cX10_worst 153 = .ok (.getfield 83, 3) := by decide +kernel
theorem dX10_worst_156 : decode cX10_worst 156 = .ok (.invokevirtual 170, 3) := by decide +kernel
theorem dX10_worst_159 : decode cX10_worst 159 = .ok (.aload_n 0, 1) := by decide +kernel
theorem dX10_worst_160 : decode cX10_worst 160 = .ok (.getfield 83, 3) := by decide +kernel
theorem dX10_worst_163 : decode cX10_worst 163 = .ok (.iload 5, 2) := by decide +kernel
theorem dX10_worst_165 : decode cX10_worst 165 = .ok (.i2l, 1) := by decide +kernel
theorem dX10_worst_166 : decode cX10_worst 166 = .ok (.invokevirtual 173, 3) := by decide +kernel
theorem dX10_worst_169 : decode cX10_worst 169 = .ok (.iload 4, 2) := by decide +kernel
theorem dX10_worst_171 : decode cX10_worst 171 = .ok (.ireturn, 1) := by decide +kernel
theorem dX10_march_0 : decode cX10_march 0 = .ok (.aload_n 0, 1) := by decide +kernel
theorem dX10_march_1 : decode cX10_march 1 = .ok (.getfield 12, 3) := by decide +kernel
theorem dX10_march_4 : decode cX10_march 4 = .ok (.iload_n 1, 1) := by decide +kernel
theorem dX10_march_5 : decode cX10_march 5 = .ok (.invokevirtual 116, 3) := by decide +kernel
theorem dX10_march_8 : decode cX10_march 8 = .ok (.ifCond .eq 20, 3) := by decide +kernel
theorem dX10_march_11 : decode cX10_march 11 = .ok (.iload_n 2, 1) := by decide +kernel
theorem dX10_march_12 : decode cX10_march 12 = .ok (.invokestatic 119, 3) := by decide +kernel
theorem dX10_march_15 : decode cX10_march 15 = .ok (.ifCond .eq 13, 3) := by decide +kernel
theorem dX10_march_18 : decode cX10_march 18 = .ok (.aload_n 0, 1) := by decide +kernel
theorem dX10_march_19 : decode cX10_march 19 = .ok (.getfield 19, 3) := by decide +kernel
theorem dX10_march_22 : decode cX10_march 22 = .ok (.getfield 177, 3) := by decide +kernel
theorem dX10_march_25 : decode cX10_march 25 = .ok (.ifCond .ne 5, 3) := by decide +kernel
theorem dX10_march_28 : decode cX10_march 28 = .ok (.iconst (-1), 1) := by decide +kernel
theorem dX10_march_29 : decode cX10_march 29 = .ok (.ireturn, 1) := by decide +kernel
theorem dX10_march_30 : decode cX10_march 30 = .ok (.aload_n 0, 1) := by decide +kernel
theorem dX10_march_31 : decode cX10_march 31 = .ok (.getfield 42, 3) := by decide +kernel
theorem dX10_march_34 : decode cX10_march 34 = .ok (.aload_n 0, 1) := by decide +kernel
theorem dX10_march_35 : decode cX10_march 35 = .ok (.invokevirtual 266, 3) := by decide +kernel
theorem dX10_march_38 : decode cX10_march 38 = .ok (.sipush 2399, 3) := by decide +kernel
theorem dX10_march_41 : decode cX10_march 41 = .ok (.invokevirtual 270, 3) := by decide +kernel
theorem dX10_march_44 : decode cX10_march 44 = .ok (.istore_n 3, 1) := by decide +kernel
theorem dX10_march_45 : decode cX10_march 45 = .ok (.aload_n 0, 1) := by decide +kernel
theorem dX10_march_46 : decode cX10_march 46 = .ok (.getfield 12, 3) := by decide +kernel
theorem dX10_march_49 : decode cX10_march 49 = .ok (.getfield 102, 3) := by decide +kernel
theorem dX10_march_52 : decode cX10_march 52 = .ok (.iload_n 1, 1) := by decide +kernel
theorem dX10_march_53 : decode cX10_march 53 = .ok (.aaload, 1) := by decide +kernel
theorem dX10_march_54 : decode cX10_march 54 = .ok (.astore 4, 2) := by decide +kernel
theorem dX10_march_56 : decode cX10_march 56 = .ok (.aload 4, 2) := by decide +kernel
theorem dX10_march_58 : decode cX10_march 58 = .ok (.getfield 122, 3) := by decide +kernel
theorem dX10_march_61 : decode cX10_march 61 = .ok (.istore 5, 2) := by decide +kernel
theorem dX10_march_63 : decode cX10_march 63 = .ok (.aload 4, 2) := by decide +kernel
theorem dX10_march_65 : decode cX10_march 65 = .ok (.getfield 125, 3) := by decide +kernel
theorem dX10_march_68 : decode cX10_march 68 = .ok (.istore 6, 2) := by decide +kernel
theorem dX10_march_70 : decode cX10_march 70 = .ok (.aload 4, 2) := by decide +kernel
theorem dX10_march_72 : decode cX10_march 72 = .ok (.iload_n 2, 1) := by decide +kernel
theorem dX10_march_73 : decode cX10_march 73 = .ok (.putfield 122, 3) := by decide +kernel
theorem dX10_march_76 : decode cX10_march 76 = .ok (.aload 4, 2) := by decide +kernel
theorem dX10_march_78 : decode cX10_march 78 = .ok (.iconst 1, 1) := by decide +kernel
theorem dX10_march_79 : decode cX10_march 79 = .ok (.putfield 125, 3) := by decide +kernel
theorem dX10_march_82 : decode cX10_march 82 = .ok (.aload_n 0, 1) := by decide +kernel
theorem dX10_march_83 : decode cX10_march 83 = .ok (.getfield 12, 3) := by decide +kernel
theorem dX10_march_86 : decode cX10_march 86 = .ok (.iload_n 1, 1) := by decide +kernel
theorem dX10_march_87 : decode cX10_march 87 = .ok (.iconst 0, 1) := by decide +kernel
theorem dX10_march_88 : decode cX10_march 88 = .ok (.sipush 2560, 3) := by decide +kernel
theorem dX10_march_91 : decode cX10_march 91 = .ok (.invokevirtual 112, 3) := by decide +kernel
theorem dX10_march_94 : decode cX10_march 94 = .ok (.aload_n 0, 1) := by decide +kernel
theorem dX10_march_95 : decode cX10_march 95 = .ok (.getfield 42, 3) := by decide +kernel
theorem dX10_march_98 : decode cX10_march 98 = .ok (.aload_n 0, 1) := by decide +kernel
theorem dX10_march_99 : decode cX10_march 99 = .ok (.invokevirtual 266, 3) := by decide +kernel
theorem dX10_march_102 : decode cX10_march 102 = .ok (.sipush 2399, 3) := by decide +kernel
theorem dX10_march_105 : decode cX10_march 105 = .ok (.invokevirtual 270, 3) := by decide +kernel
theorem dX10_march_108 : decode cX10_march 108 = .ok (.istore 7, 2) := by decide +kernel
theorem dX10_march_110 : decode cX10_march 110 = .ok (.aload 4, 2) := by decide +kernel
theorem dX10_march_112 : decode cX10_march 112 = .ok (.iload 5, 2) := by decide +kernel
theorem dX10_march_114 : decode cX10_march 114 = .ok (.putfield 122, 3) := by decide +kernel
theorem dX10_march_117 : decode cX10_march 117 = .ok (.aload 4, 2) := by decide +kernel
theorem dX10_march_119 : decode cX10_march 119 = .ok (.iload 6, 2) := by decide +kernel
theorem dX10_march_121 : decode cX10_march 121 = .ok (.putfield 125, 3) := by decide +kernel
theorem dX10_march_124 : decode cX10_march 124 = .ok (.aload_n 0, 1) := by decide +kernel
theorem dX10_march_125 : decode cX10_march 125 = .ok (.getfield 12, 3) := by decide +kernel
theorem dX10_march_128 : decode cX10_march 128 = .ok (.iload_n 1, 1) := by decide +kernel
theorem dX10_march_129 : decode cX10_march 129 = .ok (.iconst 0, 1) := by decide +kernel
theorem dX10_march_130 : decode cX10_march 130 = .ok (.sipush 2560, 3) := by decide +kernel
theorem dX10_march_133 : decode cX10_march 133 = .ok (.invokevirtual 112, 3) := by decide +kernel
theorem dX10_march_136 : decode cX10_march 136 = .ok (.iload_n 3, 1) := by decide +kernel
theorem dX10_march_137 : decode cX10_march 137 = .ok (.iload 7, 2) := by decide +kernel
theorem dX10_march_139 : decode cX10_march 139 = .ok (.invokestatic 357, 3) := by decide +kernel
theorem dX10_march_142 : decode cX10_march 142 = .ok (.ireturn, 1) := by decide +kernel
theorem dX10_keep_0 : decode cX10_keep 0 = .ok (.iload_n 1, 1) := by decide +kernel
theorem dX10_keep_1 : decode cX10_keep 1 = .ok (.ifCond .lt 12, 3) := by decide +kernel
theorem dX10_keep_4 : decode cX10_keep 4 = .ok (.iload_n 1, 1) := by decide +kernel
theorem dX10_keep_5 : decode cX10_keep 5 = .ok (.aload_n 0, 1) := by decide +kernel
theorem dX10_keep_6 : decode cX10_keep 6 = .ok (.getfield 72, 3) := by decide +kernel
theorem dX10_keep_9 : decode cX10_keep 9 = .ok (.arraylength, 1) := by decide +kernel
theorem dX10_keep_10 : decode cX10_keep 10 = .ok (.if_icmp .lt 5, 3) := by decide +kernel
theorem dX10_keep_13 : decode cX10_keep 13 = .ok (.iconst 0, 1) := by decide +kernel
theorem dX10_keep_14 : decode cX10_keep 14 = .ok (.ireturn, 1) := by decide +kernel
theorem dX10_keep_15 : decode cX10_keep 15 = .ok (.aload_n 0, 1) := by decide +kernel
theorem dX10_keep_16 : decode cX10_keep 16 = .ok (.getfield 72, 3) := by decide +kernel
theorem dX10_keep_19 : decode cX10_keep 19 = .ok (.iload_n 1, 1) := by decide +kernel
theorem dX10_keep_20 : decode cX10_keep 20 = .ok (.aaload, 1) := by decide +kernel
theorem dX10_keep_21 : decode cX10_keep 21 = .ok (.aload_n 0, 1) := by decide +kernel
theorem dX10_keep_22 : decode cX10_keep 22 = .ok (.getfield 65, 3) := by decide +kernel
theorem dX10_keep_25 : decode cX10_keep 25 = .ok (.invokevirtual 403, 3) := by decide +kernel
theorem dX10_keep_28 : decode cX10_keep 28 = .ok (.aload_n 0, 1) := by decide +kernel
theorem dX10_keep_29 : decode cX10_keep 29 = .ok (.getfield 76, 3) := by decide +kernel
theorem dX10_keep_32 : decode cX10_keep 32 = .ok (.iload_n 1, 1) := by decide +kernel
theorem dX10_keep_33 : decode cX10_keep 33 = .ok (.aload_n 0, 1) := by decide +kernel
theorem dX10_keep_34 : decode cX10_keep 34 = .ok (.getfield 19, 3) := by decide +kernel
theorem dX10_keep_37 : decode cX10_keep 37 = .ok (.getfield 177, 3) := by decide +kernel
theorem dX10_keep_40 : decode cX10_keep 40 = .ok (.iastore, 1) := by decide +kernel
theorem dX10_keep_41 : decode cX10_keep 41 = .ok (.iconst 1, 1) := by decide +kernel
theorem dX10_keep_42 : decode cX10_keep 42 = .ok (.ireturn, 1) := by decide +kernel
theorem dX10_again_0 : decode cX10_again 0 = .ok (.iload_n 1, 1) := by decide +kernel
theorem dX10_again_1 : decode cX10_again 1 = .ok (.ifCond .lt 28, 3) := by decide +kernel
theorem dX10_again_4 : decode cX10_again 4 = .ok (.iload_n 1, 1) := by decide +kernel
theorem dX10_again_5 : decode cX10_again 5 = .ok (.aload_n 0, 1) := by decide +kernel
theorem dX10_again_6 : decode cX10_again 6 = .ok (.getfield 72, 3) := by decide +kernel
theorem dX10_again_9 : decode cX10_again 9 = .ok (.arraylength, 1) := by decide +kernel
theorem dX10_again_10 : decode cX10_again 10 = .ok (.if_icmp .ge 19, 3) := by decide +kernel
theorem dX10_again_13 : decode cX10_again 13 = .ok (.aload_n 0, 1) := by decide +kernel
theorem dX10_again_14 : decode cX10_again 14 = .ok (.getfield 76, 3) := by decide +kernel
theorem dX10_again_17 : decode cX10_again 17 = .ok (.iload_n 1, 1) := by decide +kernel
theorem dX10_again_18 : decode cX10_again 18 = .ok (.iaload, 1) := by decide +kernel
theorem dX10_again_19 : decode cX10_again 19 = .ok (.aload_n 0, 1) := by decide +kernel
theorem dX10_again_20 : decode cX10_again 20 = .ok (.getfield 19, 3) := by decide +kernel
theorem dX10_again_23 : decode cX10_again 23 = .ok (.getfield 177, 3) := by decide +kernel
theorem dX10_again_26 : decode cX10_again 26 = .ok (.if_icmp .eq 5, 3) := by decide +kernel
theorem dX10_again_29 : decode cX10_again 29 = .ok (.iconst 0, 1) := by decide +kernel
theorem dX10_again_30 : decode cX10_again 30 = .ok (.ireturn, 1) := by decide +kernel
theorem dX10_again_31 : decode cX10_again 31 = .ok (.aload_n 0, 1) := by decide +kernel
theorem dX10_again_32 : decode cX10_again 32 = .ok (.getfield 65, 3) := by decide +kernel
theorem dX10_again_35 : decode cX10_again 35 = .ok (.aload_n 0, 1) := by decide +kernel
theorem dX10_again_36 : decode cX10_again 36 = .ok (.getfield 72, 3) := by decide +kernel
theorem dX10_again_39 : decode cX10_again 39 = .ok (.iload_n 1, 1) := by decide +kernel
theorem dX10_again_40 : decode cX10_again 40 = .ok (.aaload, 1) := by decide +kernel
theorem dX10_again_41 : decode cX10_again 41 = .ok (.invokevirtual 403, 3) := by decide +kernel
theorem dX10_again_44 : decode cX10_again 44 = .ok (.iconst 1, 1) := by decide +kernel
theorem dX10_again_45 : decode cX10_again 45 = .ok (.ireturn, 1) := by decide +kernel
theorem dX10_count_0 : decode cX10_count 0 = .ok (.iload_n 1, 1) := by decide +kernel
theorem dX10_count_1 : decode cX10_count 1 = .ok (.tableswitch 132 0 9 #[55, 63, 71, 79, 87, 95, 103, 111, 119, 127], 55) := by decide +kernel
theorem dX10_count_56 : decode cX10_count 56 = .ok (.aload_n 0, 1) := by decide +kernel
theorem dX10_count_57 : decode cX10_count 57 = .ok (.getfield 12, 3) := by decide +kernel
theorem dX10_count_60 : decode cX10_count 60 = .ok (.getfield 95, 3) := by decide +kernel
theorem dX10_count_63 : decode cX10_count 63 = .ok (.ireturn, 1) := by decide +kernel
theorem dX10_count_64 : decode cX10_count 64 = .ok (.aload_n 0, 1) := by decide +kernel
theorem dX10_count_65 : decode cX10_count 65 = .ok (.getfield 19, 3) := by decide +kernel
theorem dX10_count_68 : decode cX10_count 68 = .ok (.getfield 177, 3) := by decide +kernel
theorem dX10_count_71 : decode cX10_count 71 = .ok (.ireturn, 1) := by decide +kernel
theorem dX10_count_72 : decode cX10_count 72 = .ok (.aload_n 0, 1) := by decide +kernel
theorem dX10_count_73 : decode cX10_count 73 = .ok (.getfield 65, 3) := by decide +kernel
theorem dX10_count_76 : decode cX10_count 76 = .ok (.getfield 218, 3) := by decide +kernel
theorem dX10_count_79 : decode cX10_count 79 = .ok (.ireturn, 1) := by decide +kernel
theorem dX10_count_80 : decode cX10_count 80 = .ok (.aload_n 0, 1) := by decide +kernel
theorem dX10_count_81 : decode cX10_count 81 = .ok (.getfield 65, 3) := by decide +kernel
theorem dX10_count_84 : decode cX10_count 84 = .ok (.getfield 260, 3) := by decide +kernel
theorem dX10_count_87 : decode cX10_count 87 = .ok (.ireturn, 1) := by decide +kernel
theorem dX10_count_88 : decode cX10_count 88 = .ok (.aload_n 0, 1) := by decide +kernel
theorem dX10_count_89 : decode cX10_count 89 = .ok (.getfield 58, 3) := by decide +kernel
theorem dX10_count_92 : decode cX10_count 92 = .ok (.getfield 333, 3) := by decide +kernel
theorem dX10_count_95 : decode cX10_count 95 = .ok (.ireturn, 1) := by decide +kernel
theorem dX10_count_96 : decode cX10_count 96 = .ok (.aload_n 0, 1) := by decide +kernel
theorem dX10_count_97 : decode cX10_count 97 = .ok (.getfield 65, 3) := by decide +kernel
theorem dX10_count_100 : decode cX10_count 100 = .ok (.invokevirtual 274, 3) := by decide +kernel
theorem dX10_count_103 : decode cX10_count 103 = .ok (.ireturn, 1) := by decide +kernel
theorem dX10_count_104 : decode cX10_count 104 = .ok (.aload_n 0, 1) := by decide +kernel
theorem dX10_count_105 : decode cX10_count 105 = .ok (.getfield 65, 3) := by decide +kernel
theorem dX10_count_108 : decode cX10_count 108 = .ok (.invokevirtual 278, 3) := by decide +kernel
theorem dX10_count_111 : decode cX10_count 111 = .ok (.ireturn, 1) := by decide +kernel
theorem dX10_count_112 : decode cX10_count 112 = .ok (.aload_n 0, 1) := by decide +kernel
theorem dX10_count_113 : decode cX10_count 113 = .ok (.getfield 65, 3) := by decide +kernel
theorem dX10_count_116 : decode cX10_count 116 = .ok (.getfield 281, 3) := by decide +kernel
theorem dX10_count_119 : decode cX10_count 119 = .ok (.ireturn, 1) := by decide +kernel
theorem dX10_count_120 : decode cX10_count 120 = .ok (.aload_n 0, 1) := by decide +kernel
theorem dX10_count_121 : decode cX10_count 121 = .ok (.getfield 83, 3) := by decide +kernel
theorem dX10_count_124 : decode cX10_count 124 = .ok (.getfield 406, 3) := by decide +kernel
theorem dX10_count_127 : decode cX10_count 127 = .ok (.ireturn, 1) := by decide +kernel
theorem dX10_count_128 : decode cX10_count 128 = .ok (.aload_n 0, 1) := by decide +kernel
theorem dX10_count_129 : decode cX10_count 129 = .ok (.getfield 91, 3) := by decide +kernel
theorem dX10_count_132 : decode cX10_count 132 = .ok (.ireturn, 1) := by decide +kernel
theorem dX10_count_133 : decode cX10_count 133 = .ok (.iconst (-1), 1) := by decide +kernel
theorem dX10_count_134 : decode cX10_count 134 = .ok (.ireturn, 1) := by decide +kernel
theorem dX11_thrown_0 : decode cX11_thrown 0 = .ok (.aload_n 0, 1) := by decide +kernel
theorem dX11_thrown_1 : decode cX11_thrown 1 = .ok (.getfield 3, 3) := by decide +kernel
theorem dX11_thrown_4 : decode cX11_thrown 4 = .ok (.ireturn, 1) := by decide +kernel
theorem dX11_in_0 : decode cX11_in 0 = .ok (.lload_n 0, 1) := by decide +kernel
theorem dX11_in_1 : decode cX11_in 1 = .ok (.lload_n 2, 1) := by decide +kernel
theorem dX11_in_2 : decode cX11_in 2 = .ok (.lcmp, 1) := by decide +kernel
theorem dX11_in_3 : decode cX11_in 3 = .ok (.ifCond .lt 14, 3) := by decide +kernel
theorem dX11_in_6 : decode cX11_in 6 = .ok (.lload_n 0, 1) := by decide +kernel
theorem dX11_in_7 : decode cX11_in 7 = .ok (.lload 4, 2) := by decide +kernel
theorem dX11_in_9 : decode cX11_in 9 = .ok (.lcmp, 1) := by decide +kernel
theorem dX11_in_10 : decode cX11_in 10 = .ok (.ifCond .gt 7, 3) := by decide +kernel
theorem dX11_in_13 : decode cX11_in 13 = .ok (.iconst 1, 1) := by decide +kernel
theorem dX11_in_14 : decode cX11_in 14 = .ok (.goto 4, 3) := by decide +kernel
theorem dX11_in_17 : decode cX11_in 17 = .ok (.iconst 0, 1) := by decide +kernel
theorem dX11_in_18 : decode cX11_in 18 = .ok (.ireturn, 1) := by decide +kernel
theorem dX11_has_0 : decode cX11_has 0 = .ok (.iload_n 0, 1) := by decide +kernel
theorem dX11_has_1 : decode cX11_has 1 = .ok (.iload_n 1, 1) := by decide +kernel
theorem dX11_has_2 : decode cX11_has 2 = .ok (.ishr, 1) := by decide +kernel
theorem dX11_has_3 : decode cX11_has 3 = .ok (.iconst 1, 1) := by decide +kernel
theorem dX11_has_4 : decode cX11_has 4 = .ok (.iand, 1) := by decide +kernel
theorem dX11_has_5 : decode cX11_has 5 = .ok (.iconst 1, 1) := by decide +kernel
theorem dX11_has_6 : decode cX11_has 6 = .ok (.if_icmp .ne 7, 3) := by decide +kernel
theorem dX11_has_9 : decode cX11_has 9 = .ok (.iconst 1, 1) := by decide +kernel
theorem dX11_has_10 : decode cX11_has 10 = .ok (.goto 4, 3) := by decide +kernel
theorem dX11_has_13 : decode cX11_has 13 = .ok (.iconst 0, 1) := by decide +kernel
theorem dX11_has_14 : decode cX11_has 14 = .ok (.ireturn, 1) := by decide +kernel
theorem dX11_flag_0 : decode cX11_flag 0 = .ok (.iload_n 0, 1) := by decide +kernel
theorem dX11_flag_1 : decode cX11_flag 1 = .ok (.ifCond .eq 7, 3) := by decide +kernel
theorem dX11_flag_4 : decode cX11_flag 4 = .ok (.iconst 1, 1) := by decide +kernel
theorem dX11_flag_5 : decode cX11_flag 5 = .ok (.goto 4, 3) := by decide +kernel
theorem dX11_flag_8 : decode cX11_flag 8 = .ok (.iconst 0, 1) := by decide +kernel
theorem dX11_flag_9 : decode cX11_flag 9 = .ok (.ireturn, 1) := by decide +kernel
theorem dX11_refuse_0 : decode cX11_refuse 0 = .ok (.aload_n 0, 1) := by decide +kernel
theorem dX11_refuse_1 : decode cX11_refuse 1 = .ok (.iconst 1, 1) := by decide +kernel
theorem dX11_refuse_2 : decode cX11_refuse 2 = .ok (.putfield 3, 3) := by decide +kernel
theorem dX11_refuse_5 : decode cX11_refuse 5 = .ok (.iconst 0, 1) := by decide +kernel
theorem dX11_refuse_6 : decode cX11_refuse 6 = .ok (.ireturn, 1) := by decide +kernel
theorem dX11_enters_0 : decode cX11_enters 0 = .ok (.aload_n 0, 1) := by decide +kernel
theorem dX11_enters_1 : decode cX11_enters 1 = .ok (.getfield 7, 3) := by decide +kernel
theorem dX11_enters_4 : decode cX11_enters 4 = .ok (.aload_n 0, 1) := by decide +kernel
theorem dX11_enters_5 : decode cX11_enters 5 = .ok (.getfield 11, 3) := by decide +kernel
theorem dX11_enters_8 : decode cX11_enters 8 = .ok (.lload_n 1, 1) := by decide +kernel
theorem dX11_enters_9 : decode cX11_enters 9 = .ok (.lastore, 1) := by decide +kernel
theorem dX11_enters_10 : decode cX11_enters 10 = .ok (.aload_n 0, 1) := by decide +kernel
theorem dX11_enters_11 : decode cX11_enters 11 = .ok (.dup, 1) := by decide +kernel
theorem dX11_enters_12 : decode cX11_enters 12 = .ok (.getfield 11, 3) := by decide +kernel
theorem dX11_enters_15 : decode cX11_enters 15 = .ok (.iconst 1, 1) := by decide +kernel
theorem dX11_enters_16 : decode cX11_enters 16 = .ok (.iadd, 1) := by decide +kernel
theorem dX11_enters_17 : decode cX11_enters 17 = .ok (.putfield 11, 3) := by decide +kernel
theorem dX11_enters_20 : decode cX11_enters 20 = .ok (.return_, 1) := by decide +kernel
theorem dX11_common_0 : decode cX11_common 0 = .ok (.lload_n 0, 1) := by decide +kernel
theorem dX11_common_1 : decode cX11_common 1 = .ok (.lstore 4, 2) := by decide +kernel
theorem dX11_common_3 : decode cX11_common 3 = .ok (.lload_n 2, 1) := by decide +kernel
theorem dX11_common_4 : decode cX11_common 4 = .ok (.lstore 6, 2) := by decide +kernel
theorem dX11_common_6 : decode cX11_common 6 = .ok (.lload 6, 2) := by decide +kernel
theorem dX11_common_8 : decode cX11_common 8 = .ok (.lconst 0, 1) := by decide +kernel
theorem dX11_common_9 : decode cX11_common 9 = .ok (.lcmp, 1) := by decide +kernel
theorem dX11_common_10 : decode cX11_common 10 = .ok (.ifCond .eq 21, 3) := by decide +kernel
theorem dX11_common_13 : decode cX11_common 13 = .ok (.lload 4, 2) := by decide +kernel
theorem dX11_common_15 : decode cX11_common 15 = .ok (.lload 6, 2) := by decide +kernel
theorem dX11_common_17 : decode cX11_common 17 = .ok (.lrem, 1) := by decide +kernel
theorem dX11_common_18 : decode cX11_common 18 = .ok (.lstore 8, 2) := by decide +kernel
theorem dX11_common_20 : decode cX11_common 20 = .ok (.lload 6, 2) := by decide +kernel
theorem dX11_common_22 : decode cX11_common 22 = .ok (.lstore 4, 2) := by decide +kernel
theorem dX11_common_24 : decode cX11_common 24 = .ok (.lload 8, 2) := by decide +kernel
theorem dX11_common_26 : decode cX11_common 26 = .ok (.lstore 6, 2) := by decide +kernel
theorem dX11_common_28 : decode cX11_common 28 = .ok (.goto (-22), 3) := by decide +kernel
theorem dX11_common_31 : decode cX11_common 31 = .ok (.lload 4, 2) := by decide +kernel
theorem dX11_common_33 : decode cX11_common 33 = .ok (.lreturn, 1) := by decide +kernel
theorem dX11_entersFraction_0 : decode cX11_entersFraction 0 = .ok (.lload_n 1, 1) := by decide +kernel
theorem dX11_entersFraction_1 : decode cX11_entersFraction 1 = .ok (.lload_n 3, 1) := by decide +kernel
theorem dX11_entersFraction_2 : decode cX11_entersFraction 2 = .ok (.invokestatic 14, 3) := by decide +kernel
theorem dX11_entersFraction_5 : decode cX11_entersFraction 5 = .ok (.lstore 5, 2) := by decide +kernel
theorem dX11_entersFraction_7 : decode cX11_entersFraction 7 = .ok (.aload_n 0, 1) := by decide +kernel
theorem dX11_entersFraction_8 : decode cX11_entersFraction 8 = .ok (.lload_n 1, 1) := by decide +kernel
theorem dX11_entersFraction_9 : decode cX11_entersFraction 9 = .ok (.lload 5, 2) := by decide +kernel
theorem dX11_entersFraction_11 : decode cX11_entersFraction 11 = .ok (.ldiv, 1) := by decide +kernel
theorem dX11_entersFraction_12 : decode cX11_entersFraction 12 = .ok (.invokevirtual 18, 3) := by decide +kernel
theorem dX11_entersFraction_15 : decode cX11_entersFraction 15 = .ok (.aload_n 0, 1) := by decide +kernel
theorem dX11_entersFraction_16 : decode cX11_entersFraction 16 = .ok (.lload_n 3, 1) := by decide +kernel
theorem dX11_entersFraction_17 : decode cX11_entersFraction 17 = .ok (.lload 5, 2) := by decide +kernel
theorem dX11_entersFraction_19 : decode cX11_entersFraction 19 = .ok (.ldiv, 1) := by decide +kernel
theorem dX11_entersFraction_20 : decode cX11_entersFraction 20 = .ok (.invokevirtual 18, 3) := by decide +kernel
theorem dX11_entersFraction_23 : decode cX11_entersFraction 23 = .ok (.return_, 1) := by decide +kernel
theorem dX11_isOffice_0 : decode cX11_isOffice 0 = .ok (.iload_n 1, 1) := by decide +kernel
theorem dX11_isOffice_1 : decode cX11_isOffice 1 = .ok (.i2l, 1) := by decide +kernel
theorem dX11_isOffice_2 : decode cX11_isOffice 2 = .ok (.lconst 0, 1) := by decide +kernel
theorem dX11_isOffice_3 : decode cX11_isOffice 3 = .ok (.aload_n 0, 1) := by decide +kernel
theorem dX11_isOffice_4 : decode cX11_isOffice 4 = .ok (.getfield 22, 3) := by decide +kernel
theorem dX11_isOffice_7 : decode cX11_isOffice 7 = .ok (.iconst 1, 1) := by decide +kernel
theorem dX11_isOffice_8 : decode cX11_isOffice 8 = .ok (.isub, 1) := by decide +kernel
theorem dX11_isOffice_9 : decode cX11_isOffice 9 = .ok (.i2l, 1) := by decide +kernel
theorem dX11_isOffice_10 : decode cX11_isOffice 10 = .ok (.invokestatic 25, 3) := by decide +kernel
theorem dX11_isOffice_13 : decode cX11_isOffice 13 = .ok (.ireturn, 1) := by decide +kernel
theorem dX11_isHour_0 : decode cX11_isHour 0 = .ok (.iload_n 0, 1) := by decide +kernel
theorem dX11_isHour_1 : decode cX11_isHour 1 = .ok (.i2l, 1) := by decide +kernel
theorem dX11_isHour_2 : decode cX11_isHour 2 = .ok (.lconst 0, 1) := by decide +kernel
theorem dX11_isHour_3 : decode cX11_isHour 3 = .ok (.ldc2_w 29, 3) := by decide +kernel
theorem dX11_isHour_6 : decode cX11_isHour 6 = .ok (.invokestatic 25, 3) := by decide +kernel
theorem dX11_isHour_9 : decode cX11_isHour 9 = .ok (.ireturn, 1) := by decide +kernel
theorem dX11_opens_0 : decode cX11_opens 0 = .ok (.aload_n 0, 1) := by decide +kernel
theorem dX11_opens_1 : decode cX11_opens 1 = .ok (.getfield 22, 3) := by decide +kernel
theorem dX11_opens_4 : decode cX11_opens 4 = .ok (.istore 7, 2) := by decide +kernel
theorem dX11_opens_6 : decode cX11_opens 6 = .ok (.aload_n 0, 1) := by decide +kernel
theorem dX11_opens_7 : decode cX11_opens 7 = .ok (.getfield 31, 3) := by decide +kernel
theorem dX11_opens_10 : decode cX11_opens 10 = .ok (.iload 7, 2) := by decide +kernel
theorem dX11_opens_12 : decode cX11_opens 12 = .ok (.iload_n 1, 1) := by decide +kernel
theorem dX11_opens_13 : decode cX11_opens 13 = .ok (.iastore, 1) := by decide +kernel
theorem dX11_opens_14 : decode cX11_opens 14 = .ok (.aload_n 0, 1) := by decide +kernel
theorem dX11_opens_15 : decode cX11_opens 15 = .ok (.getfield 35, 3) := by decide +kernel
theorem dX11_opens_18 : decode cX11_opens 18 = .ok (.iload 7, 2) := by decide +kernel
theorem dX11_opens_20 : decode cX11_opens 20 = .ok (.iload_n 2, 1) := by decide +kernel
theorem dX11_opens_21 : decode cX11_opens 21 = .ok (.iastore, 1) := by decide +kernel
theorem dX11_opens_22 : decode cX11_opens 22 = .ok (.aload_n 0, 1) := by decide +kernel
theorem dX11_opens_23 : decode cX11_opens 23 = .ok (.getfield 38, 3) := by decide +kernel
theorem dX11_opens_26 : decode cX11_opens 26 = .ok (.iload 7, 2) := by decide +kernel
theorem dX11_opens_28 : decode cX11_opens 28 = .ok (.iload_n 3, 1) := by decide +kernel
theorem dX11_opens_29 : decode cX11_opens 29 = .ok (.iastore, 1) := by decide +kernel
theorem dX11_opens_30 : decode cX11_opens 30 = .ok (.aload_n 0, 1) := by decide +kernel
theorem dX11_opens_31 : decode cX11_opens 31 = .ok (.getfield 41, 3) := by decide +kernel
theorem dX11_opens_34 : decode cX11_opens 34 = .ok (.iload 7, 2) := by decide +kernel
theorem dX11_opens_36 : decode cX11_opens 36 = .ok (.iload 4, 2) := by decide +kernel
theorem dX11_opens_38 : decode cX11_opens 38 = .ok (.iastore, 1) := by decide +kernel
theorem dX11_opens_39 : decode cX11_opens 39 = .ok (.aload_n 0, 1) := by decide +kernel
theorem dX11_opens_40 : decode cX11_opens 40 = .ok (.getfield 44, 3) := by decide +kernel
theorem dX11_opens_43 : decode cX11_opens 43 = .ok (.iload 7, 2) := by decide +kernel
theorem dX11_opens_45 : decode cX11_opens 45 = .ok (.iload 5, 2) := by decide +kernel
theorem dX11_opens_47 : decode cX11_opens 47 = .ok (.iastore, 1) := by decide +kernel
theorem dX11_opens_48 : decode cX11_opens 48 = .ok (.aload_n 0, 1) := by decide +kernel
theorem dX11_opens_49 : decode cX11_opens 49 = .ok (.getfield 47, 3) := by decide +kernel
theorem dX11_opens_52 : decode cX11_opens 52 = .ok (.iload 7, 2) := by decide +kernel
theorem dX11_opens_54 : decode cX11_opens 54 = .ok (.iload 6, 2) := by decide +kernel
theorem dX11_opens_56 : decode cX11_opens 56 = .ok (.iastore, 1) := by decide +kernel
theorem dX11_opens_57 : decode cX11_opens 57 = .ok (.aload_n 0, 1) := by decide +kernel
theorem dX11_opens_58 : decode cX11_opens 58 = .ok (.getfield 50, 3) := by decide +kernel
theorem dX11_opens_61 : decode cX11_opens 61 = .ok (.iload 7, 2) := by decide +kernel
theorem dX11_opens_63 : decode cX11_opens 63 = .ok (.iconst 0, 1) := by decide +kernel
theorem dX11_opens_64 : decode cX11_opens 64 = .ok (.iastore, 1) := by decide +kernel
theorem dX11_opens_65 : decode cX11_opens 65 = .ok (.aload_n 0, 1) := by decide +kernel
theorem dX11_opens_66 : decode cX11_opens 66 = .ok (.getfield 53, 3) := by decide +kernel
theorem dX11_opens_69 : decode cX11_opens 69 = .ok (.iload 7, 2) := by decide +kernel
theorem dX11_opens_71 : decode cX11_opens 71 = .ok (.iconst 0, 1) := by decide +kernel
theorem dX11_opens_72 : decode cX11_opens 72 = .ok (.iastore, 1) := by decide +kernel
theorem dX11_opens_73 : decode cX11_opens 73 = .ok (.iconst 0, 1) := by decide +kernel
theorem dX11_opens_74 : decode cX11_opens 74 = .ok (.istore 8, 2) := by decide +kernel
theorem dX11_opens_76 : decode cX11_opens 76 = .ok (.iload 8, 2) := by decide +kernel
theorem dX11_opens_78 : decode cX11_opens 78 = .ok (.bipush 100, 2) := by decide +kernel
theorem dX11_opens_80 : decode cX11_opens 80 = .ok (.if_icmp .ge 23, 3) := by decide +kernel
theorem dX11_opens_83 : decode cX11_opens 83 = .ok (.aload_n 0, 1) := by decide +kernel
theorem dX11_opens_84 : decode cX11_opens 84 = .ok (.getfield 56, 3) := by decide +kernel
theorem dX11_opens_87 : decode cX11_opens 87 = .ok (.bipush 100, 2) := by decide +kernel
theorem dX11_opens_89 : decode cX11_opens 89 = .ok (.iload 7, 2) := by decide +kernel
theorem dX11_opens_91 : decode cX11_opens 91 = .ok (.imul, 1) := by decide +kernel
theorem dX11_opens_92 : decode cX11_opens 92 = .ok (.iload 8, 2) := by decide +kernel
theorem dX11_opens_94 : decode cX11_opens 94 = .ok (.iadd, 1) := by decide +kernel
theorem dX11_opens_95 : decode cX11_opens 95 = .ok (.iconst 0, 1) := by decide +kernel
theorem dX11_opens_96 : decode cX11_opens 96 = .ok (.bastore, 1) := by decide +kernel
theorem dX11_opens_97 : decode cX11_opens 97 = .ok (.iinc 8 1, 3) := by decide +kernel
theorem dX11_opens_100 : decode cX11_opens 100 = .ok (.goto (-24), 3) := by decide +kernel
theorem dX11_opens_103 : decode cX11_opens 103 = .ok (.iconst 0, 1) := by decide +kernel
theorem dX11_opens_104 : decode cX11_opens 104 = .ok (.istore 8, 2) := by decide +kernel
theorem dX11_opens_106 : decode cX11_opens 106 = .ok (.iload 8, 2) := by decide +kernel
theorem dX11_opens_108 : decode cX11_opens 108 = .ok (.bipush 6, 2) := by decide +kernel
theorem dX11_opens_110 : decode cX11_opens 110 = .ok (.if_icmp .ge 37, 3) := by decide +kernel
theorem dX11_opens_113 : decode cX11_opens 113 = .ok (.aload_n 0, 1) := by decide +kernel
theorem dX11_opens_114 : decode cX11_opens 114 = .ok (.getfield 60, 3) := by decide +kernel
theorem dX11_opens_117 : decode cX11_opens 117 = .ok (.bipush 6, 2) := by decide +kernel
theorem dX11_opens_119 : decode cX11_opens 119 = .ok (.iload 7, 2) := by decide +kernel
theorem dX11_opens_121 : decode cX11_opens 121 = .ok (.imul, 1) := by decide +kernel
theorem dX11_opens_122 : decode cX11_opens 122 = .ok (.iload 8, 2) := by decide +kernel
theorem dX11_opens_124 : decode cX11_opens 124 = .ok (.iadd, 1) := by decide +kernel
theorem dX11_opens_125 : decode cX11_opens 125 = .ok (.iconst 0, 1) := by decide +kernel
theorem dX11_opens_126 : decode cX11_opens 126 = .ok (.iastore, 1) := by decide +kernel
theorem dX11_opens_127 : decode cX11_opens 127 = .ok (.aload_n 0, 1) := by decide +kernel
theorem dX11_opens_128 : decode cX11_opens 128 = .ok (.getfield 60, 3) := by decide +kernel
theorem dX11_opens_131 : decode cX11_opens 131 = .ok (.bipush 6, 2) := by decide +kernel
theorem dX11_opens_133 : decode cX11_opens 133 = .ok (.iload 8, 2) := by decide +kernel
theorem dX11_opens_135 : decode cX11_opens 135 = .ok (.imul, 1) := by decide +kernel
theorem dX11_opens_136 : decode cX11_opens 136 = .ok (.iload 7, 2) := by decide +kernel
theorem dX11_opens_138 : decode cX11_opens 138 = .ok (.iadd, 1) := by decide +kernel
theorem dX11_opens_139 : decode cX11_opens 139 = .ok (.iconst 0, 1) := by decide +kernel
theorem dX11_opens_140 : decode cX11_opens 140 = .ok (.iastore, 1) := by decide +kernel
theorem dX11_opens_141 : decode cX11_opens 141 = .ok (.iinc 8 1, 3) := by decide +kernel
theorem dX11_opens_144 : decode cX11_opens 144 = .ok (.goto (-38), 3) := by decide +kernel
theorem dX11_opens_147 : decode cX11_opens 147 = .ok (.aload_n 0, 1) := by decide +kernel
theorem dX11_opens_148 : decode cX11_opens 148 = .ok (.getfield 60, 3) := by decide +kernel
theorem dX11_opens_151 : decode cX11_opens 151 = .ok (.bipush 6, 2) := by decide +kernel
theorem dX11_opens_153 : decode cX11_opens 153 = .ok (.iload 7, 2) := by decide +kernel
theorem dX11_opens_155 : decode cX11_opens 155 = .ok (.imul, 1) := by decide +kernel
theorem dX11_opens_156 : decode cX11_opens 156 = .ok (.iload 7, 2) := by decide +kernel
theorem dX11_opens_158 : decode cX11_opens 158 = .ok (.iadd, 1) := by decide +kernel
theorem dX11_opens_159 : decode cX11_opens 159 = .ok (.bipush 9, 2) := by decide +kernel
theorem dX11_opens_161 : decode cX11_opens 161 = .ok (.iastore, 1) := by decide +kernel
theorem dX11_opens_162 : decode cX11_opens 162 = .ok (.aload_n 0, 1) := by decide +kernel
theorem dX11_opens_163 : decode cX11_opens 163 = .ok (.dup, 1) := by decide +kernel
theorem dX11_opens_164 : decode cX11_opens 164 = .ok (.getfield 22, 3) := by decide +kernel
theorem dX11_opens_167 : decode cX11_opens 167 = .ok (.iconst 1, 1) := by decide +kernel
theorem dX11_opens_168 : decode cX11_opens 168 = .ok (.iadd, 1) := by decide +kernel
theorem dX11_opens_169 : decode cX11_opens 169 = .ok (.putfield 22, 3) := by decide +kernel
theorem dX11_opens_172 : decode cX11_opens 172 = .ok (.return_, 1) := by decide +kernel
theorem dX11_office_0 : decode cX11_office 0 = .ok (.aload_n 0, 1) := by decide +kernel
theorem dX11_office_1 : decode cX11_office 1 = .ok (.iconst 0, 1) := by decide +kernel
theorem dX11_office_2 : decode cX11_office 2 = .ok (.putfield 3, 3) := by decide +kernel
theorem dX11_office_5 : decode cX11_office 5 = .ok (.iload_n 1, 1) := by decide +kernel
theorem dX11_office_6 : decode cX11_office 6 = .ok (.i2l, 1) := by decide +kernel
theorem dX11_office_7 : decode cX11_office 7 = .ok (.lconst 0, 1) := by decide +kernel
theorem dX11_office_8 : decode cX11_office 8 = .ok (.ldc2_w 63, 3) := by decide +kernel
theorem dX11_office_11 : decode cX11_office 11 = .ok (.invokestatic 25, 3) := by decide +kernel
theorem dX11_office_14 : decode cX11_office 14 = .ok (.ifCond .eq 68, 3) := by decide +kernel
theorem dX11_office_17 : decode cX11_office 17 = .ok (.iload_n 2, 1) := by decide +kernel
theorem dX11_office_18 : decode cX11_office 18 = .ok (.i2l, 1) := by decide +kernel
theorem dX11_office_19 : decode cX11_office 19 = .ok (.lconst 1, 1) := by decide +kernel
theorem dX11_office_20 : decode cX11_office 20 = .ok (.ldc2_w 65, 3) := by decide +kernel
theorem dX11_office_23 : decode cX11_office 23 = .ok (.invokestatic 25, 3) := by decide +kernel
theorem dX11_office_26 : decode cX11_office 26 = .ok (.ifCond .eq 56, 3) := by decide +kernel
theorem dX11_office_29 : decode cX11_office 29 = .ok (.iload_n 3, 1) := by decide +kernel
theorem dX11_office_30 : decode cX11_office 30 = .ok (.i2l, 1) := by decide +kernel
theorem dX11_office_31 : decode cX11_office 31 = .ok (.lconst 1, 1) := by decide +kernel
theorem dX11_office_32 : decode cX11_office 32 = .ok (.ldc2_w 67, 3) := by decide +kernel
theorem dX11_office_35 : decode cX11_office 35 = .ok (.invokestatic 25, 3) := by decide +kernel
theorem dX11_office_38 : decode cX11_office 38 = .ok (.ifCond .eq 44, 3) := by decide +kernel
theorem dX11_office_41 : decode cX11_office 41 = .ok (.iload 4, 2) := by decide +kernel
theorem dX11_office_43 : decode cX11_office 43 = .ok (.ifCond .lt 39, 3) := by decide +kernel
theorem dX11_office_46 : decode cX11_office 46 = .ok (.iload 4, 2) := by decide +kernel
theorem dX11_office_48 : decode cX11_office 48 = .ok (.bipush 64, 2) := by decide +kernel
theorem dX11_office_50 : decode cX11_office 50 = .ok (.idiv, 1) := by decide +kernel
theorem dX11_office_51 : decode cX11_office 51 = .ok (.i2l, 1) := by decide +kernel
theorem dX11_office_52 : decode cX11_office 52 = .ok (.lconst 1, 1) := by decide +kernel
theorem dX11_office_53 : decode cX11_office 53 = .ok (.ldc2_w 69, 3) := by decide +kernel
theorem dX11_office_56 : decode cX11_office 56 = .ok (.invokestatic 25, 3) := by decide +kernel
theorem dX11_office_59 : decode cX11_office 59 = .ok (.ifCond .eq 23, 3) := by decide +kernel
theorem dX11_office_62 : decode cX11_office 62 = .ok (.iload 4, 2) := by decide +kernel
theorem dX11_office_64 : decode cX11_office 64 = .ok (.bipush 64, 2) := by decide +kernel
theorem dX11_office_66 : decode cX11_office 66 = .ok (.irem, 1) := by decide +kernel
theorem dX11_office_67 : decode cX11_office 67 = .ok (.i2l, 1) := by decide +kernel
theorem dX11_office_68 : decode cX11_office 68 = .ok (.lconst 1, 1) := by decide +kernel
theorem dX11_office_69 : decode cX11_office 69 = .ok (.ldc2_w 71, 3) := by decide +kernel
theorem dX11_office_72 : decode cX11_office 72 = .ok (.invokestatic 25, 3) := by decide +kernel
theorem dX11_office_75 : decode cX11_office 75 = .ok (.ifCond .eq 7, 3) := by decide +kernel
theorem dX11_office_78 : decode cX11_office 78 = .ok (.iconst 1, 1) := by decide +kernel
theorem dX11_office_79 : decode cX11_office 79 = .ok (.goto 4, 3) := by decide +kernel
theorem dX11_office_82 : decode cX11_office 82 = .ok (.iconst 0, 1) := by decide +kernel
theorem dX11_office_83 : decode cX11_office 83 = .ok (.istore 5, 2) := by decide +kernel
theorem dX11_office_85 : decode cX11_office 85 = .ok (.iload 5, 2) := by decide +kernel
theorem dX11_office_87 : decode cX11_office 87 = .ok (.ifCond .eq 12, 3) := by decide +kernel
theorem dX11_office_90 : decode cX11_office 90 = .ok (.aload_n 0, 1) := by decide +kernel
theorem dX11_office_91 : decode cX11_office 91 = .ok (.getfield 22, 3) := by decide +kernel
theorem dX11_office_94 : decode cX11_office 94 = .ok (.bipush 6, 2) := by decide +kernel
theorem dX11_office_96 : decode cX11_office 96 = .ok (.if_icmp .ne 5, 3) := by decide +kernel
theorem dX11_office_99 : decode cX11_office 99 = .ok (.iconst (-1), 1) := by decide +kernel
theorem dX11_office_100 : decode cX11_office 100 = .ok (.ireturn, 1) := by decide +kernel
theorem dX11_office_101 : decode cX11_office 101 = .ok (.aload_n 0, 1) := by decide +kernel
theorem dX11_office_102 : decode cX11_office 102 = .ok (.iload_n 1, 1) := by decide +kernel
theorem dX11_office_103 : decode cX11_office 103 = .ok (.bipush 24, 2) := by decide +kernel
theorem dX11_office_105 : decode cX11_office 105 = .ok (.idiv, 1) := by decide +kernel
theorem dX11_office_106 : decode cX11_office 106 = .ok (.iload_n 1, 1) := by decide +kernel
theorem dX11_office_107 : decode cX11_office 107 = .ok (.bipush 24, 2) := by decide +kernel
theorem dX11_office_109 : decode cX11_office 109 = .ok (.irem, 1) := by decide +kernel
theorem dX11_office_110 : decode cX11_office 110 = .ok (.iload_n 2, 1) := by decide +kernel
theorem dX11_office_111 : decode cX11_office 111 = .ok (.iload_n 3, 1) := by decide +kernel
theorem dX11_office_112 : decode cX11_office 112 = .ok (.iload 4, 2) := by decide +kernel
theorem dX11_office_114 : decode cX11_office 114 = .ok (.bipush 64, 2) := by decide +kernel
theorem dX11_office_116 : decode cX11_office 116 = .ok (.idiv, 1) := by decide +kernel
theorem dX11_office_117 : decode cX11_office 117 = .ok (.iload 4, 2) := by decide +kernel
theorem dX11_office_119 : decode cX11_office 119 = .ok (.bipush 64, 2) := by decide +kernel
theorem dX11_office_121 : decode cX11_office 121 = .ok (.irem, 1) := by decide +kernel
theorem dX11_office_122 : decode cX11_office 122 = .ok (.invokevirtual 73, 3) := by decide +kernel
theorem dX11_office_125 : decode cX11_office 125 = .ok (.aload_n 0, 1) := by decide +kernel
theorem dX11_office_126 : decode cX11_office 126 = .ok (.getfield 22, 3) := by decide +kernel
theorem dX11_office_129 : decode cX11_office 129 = .ok (.iconst 1, 1) := by decide +kernel
theorem dX11_office_130 : decode cX11_office 130 = .ok (.isub, 1) := by decide +kernel
theorem dX11_office_131 : decode cX11_office 131 = .ok (.ireturn, 1) := by decide +kernel
noncomputable def f_X10_together (fu : Nat) (x1 : Int32) (x2 : Int32) (m : hM) : Option (Int32 × hM) :=
  hBd (f_X0_has fu x1 m) fun y1 m2 =>
if y1 = 0 then (
some ((-1), m2)) else (
hBd (f_X10_isHour fu x2 m2) fun y4 m5 =>
if y4 = 0 then (
some ((-1), m5)) else (
if ¬ (gI m5 18 6) = 0 then (
if hIn x1 6 then (
hLet (gI m5 (6 + 2 * (Int32.toNatClampNeg x1)) 5) fun y9 =>
hLet (gI m5 (6 + 2 * (Int32.toNatClampNeg x1)) 4) fun y10 =>
hBd (f_X0_allPeople fu m5) fun y11 m12 =>
hBd (f_J9_min_7cf53 fu y11 9 m12) fun y13 m14 =>
hLet (sI m14 (6 + 2 * (Int32.toNatClampNeg x1)) 4 y13) fun m15 =>
hLet (sI m15 (6 + 2 * (Int32.toNatClampNeg x1)) 5 63) fun m16 =>
hLet (sI m16 32 3 0) fun m17 =>
hLet (sI m17 32 4 0) fun m18 =>
hBd (f_X10_begunAt fu x2 m18) fun y19 m20 =>
if y19 = 55 then (
hBd (f_J7_fill_53178 fu 56 8 x1 m20) fun _ m22 =>
hBd (f_X8_runToEnd fu 55 2399 m22) fun y23 m24 =>
hLet (sI m24 32 4 1) fun m25 =>
hLet (sI m25 32 3 1) fun m26 =>
hLet (sI m26 (6 + 2 * (Int32.toNatClampNeg x1)) 5 y9) fun m27 =>
hLet (sI m27 (6 + 2 * (Int32.toNatClampNeg x1)) 4 y10) fun m28 =>
if y23 = (-2) then (
some (y23, m28)) else (
hBd (f_X10_tellEnd fu 0 0 0 m28) fun _ m30 =>
some (y23, m30))) else none) else none) else (
some ((-1), m5))))
set_option maxRecDepth 100000 in
set_option maxHeartbeats 4000000 in
theorem c_X10_together (G : hG) (fu : Nat) (x1 : Int32) (x2 : Int32) (m : hM) : Mt vI G 8 yX10_together cX10_together 7 (some .int) [hA G 0, .int x1, .int x2] m (f_X10_together fu x1 x2 m) := by
  refine mt_of (by decide +kernel) (Nat.le_of_ble_eq_true rfl) (fun X C K => ?_)
  have C : Cx G X 8 cX10_together 7 RX10 (some .int) := C
  show Rf vI G X 0 [(0, hA G 0), (1, .int x1), (2, .int x2)] [] m _
  unfold f_X10_together
  refine rf_aload_n C (n := 1) (q := 0) dX10_together_0 rfl rfl rfl ?_
  refine rf_getS C (n := 4) fl_RX10_12 ly_0 rfl dX10_together_1 rfl ?_
  refine rf_iload_n C (n := 5) (q := 1) dX10_together_4 rfl rfl rfl ?_
  refine rf_callVi C (n := 8) (c_X0_has G fu _ _) mw_RX10_116 ly_1 rfl ⟨by decide, by decide⟩ rfl (Nat.le_of_ble_eq_true rfl) rfl dX10_together_5 rfl (fun y1 m2 => ?_)
  refine rf_if_eq C (tgt := 28) (n := 11) dX10_together_8 (by decide) rfl (fun h3 => ?_) (fun h3 => ?_)
  · refine rf_iconst C (n := 29) (v := (-1)) dX10_together_28 rfl (by decide) ?_
    exact rf_iret C K dX10_together_29
  · refine rf_iload_n C (n := 12) (q := 2) dX10_together_11 rfl rfl rfl ?_
    refine rf_callSi C (n := 15) (c_X10_isHour G fu _ _) sw_RX10_119 ⟨by decide, by decide⟩ rfl (Nat.le_of_ble_eq_true rfl) rfl dX10_together_12 rfl (fun y4 m5 => ?_)
    refine rf_if_eq C (tgt := 28) (n := 18) dX10_together_15 (by decide) rfl (fun h6 => ?_) (fun h6 => ?_)
    · refine rf_iconst C (n := 29) (v := (-1)) dX10_together_28 rfl (by decide) ?_
      exact rf_iret C K dX10_together_29
    · refine rf_aload_n C (n := 19) (q := 0) dX10_together_18 rfl rfl rfl ?_
      refine rf_getS C (n := 22) fl_RX10_19 ly_0 rfl dX10_together_19 rfl ?_
      refine rf_getI C (n := 25) fl_RX10_177 ly_18 rfl dX10_together_22 rfl ?_
      refine rf_if_ne C (tgt := 30) (n := 28) dX10_together_25 (by decide) rfl (fun h7 => ?_) (fun h7 => ?_)
      · refine rf_aload_n C (n := 31) (q := 0) dX10_together_30 rfl rfl rfl ?_
        refine rf_getS C (n := 34) fl_RX10_12 ly_0 rfl dX10_together_31 rfl ?_
        refine rf_getS C (n := 37) fl_RX10_102 ly_1 rfl dX10_together_34 rfl ?_
        refine rf_iload_n C (n := 38) (q := 1) dX10_together_37 rfl rfl rfl ?_
        refine rf_guard (fun h8 => ?_)
        refine rf_aaldO C (n := 39) ly_2 h8 (of_r h8) dX10_together_38 rfl ?_
        refine rf_astore_n C (n := 40) [(3, hA G (6 + 2 * (Int32.toNatClampNeg x1))), (0, hA G 0), (1, .int x1), (2, .int x2)] dX10_together_39 rfl rfl (by decide) rfl ?_
        refine rf_aload_n C (n := 41) (q := 0) dX10_together_40 rfl rfl rfl ?_
        refine rf_getI C (n := 44) fl_RX10_382 (pO_l (of_o h8)) rfl dX10_together_41 rfl ?_
        refine rf_letI (fun y9 => ?_)
        refine rf_istore C (n := 46) [(4, .int y9), (3, hA G (6 + 2 * (Int32.toNatClampNeg x1))), (0, hA G 0), (1, .int x1), (2, .int x2)] dX10_together_44 rfl (by decide) rfl ?_
        refine rf_aload_n C (n := 47) (q := 1) dX10_together_46 rfl rfl rfl ?_
        refine rf_getI C (n := 50) fl_RX10_385 (pO_l (of_o h8)) rfl dX10_together_47 rfl ?_
        refine rf_letI (fun y10 => ?_)
        refine rf_istore C (n := 52) [(5, .int y10), (4, .int y9), (3, hA G (6 + 2 * (Int32.toNatClampNeg x1))), (0, hA G 0), (1, .int x1), (2, .int x2)] dX10_together_50 rfl (by decide) rfl ?_
        refine rf_aload_n C (n := 53) (q := 2) dX10_together_52 rfl rfl rfl ?_
        refine rf_aload_n C (n := 54) (q := 3) dX10_together_53 rfl rfl rfl ?_
        refine rf_getS C (n := 57) fl_RX10_12 ly_0 rfl dX10_together_54 rfl ?_
        refine rf_callVi C (n := 60) (c_X0_allPeople G fu _) mw_RX10_388 ly_1 rfl ⟨by decide, by decide⟩ rfl (Nat.le_of_ble_eq_true rfl) rfl dX10_together_57 rfl (fun y11 m12 => ?_)
        refine rf_bipush C (n := 62) (v := 9) dX10_together_60 rfl (by decide) ?_
        refine rf_callSi C (n := 65) (c_J9_min_7cf53 G fu _ _ _) sw_RX10_363 ⟨by decide, by decide⟩ rfl (Nat.le_of_ble_eq_true rfl) rfl dX10_together_62 rfl (fun y13 m14 => ?_)
        refine rf_putI C (n := 68) pl_RX10_385 (pO_l (of_o h8)) rfl ⟨rfl, rfl⟩ dX10_together_65 rfl ?_
        refine rf_letM (fun m15 => ?_)
        refine rf_aload_n C (n := 69) (q := 2) dX10_together_68 rfl rfl rfl ?_
        refine rf_bipush C (n := 71) (v := 63) dX10_together_69 rfl (by decide) ?_
        refine rf_putI C (n := 74) pl_RX10_382 (pO_l (of_o h8)) rfl ⟨rfl, rfl⟩ dX10_together_71 rfl ?_
        refine rf_letM (fun m16 => ?_)
        refine rf_aload_n C (n := 75) (q := 3) dX10_together_74 rfl rfl rfl ?_
        refine rf_getS C (n := 78) fl_RX10_42 ly_0 rfl dX10_together_75 rfl ?_
        refine rf_iconst C (n := 79) (v := 0) dX10_together_78 rfl (by decide) ?_
        refine rf_putI C (n := 82) pl_RX10_318 ly_32 rfl ⟨rfl, rfl⟩ dX10_together_79 rfl ?_
        refine rf_letM (fun m17 => ?_)
        refine rf_aload_n C (n := 83) (q := 3) dX10_together_82 rfl rfl rfl ?_
        refine rf_getS C (n := 86) fl_RX10_42 ly_0 rfl dX10_together_83 rfl ?_
        refine rf_iconst C (n := 87) (v := 0) dX10_together_86 rfl (by decide) ?_
        refine rf_putI C (n := 90) pl_RX10_391 ly_32 rfl ⟨rfl, rfl⟩ dX10_together_87 rfl ?_
        refine rf_letM (fun m18 => ?_)
        refine rf_aload_n C (n := 91) (q := 3) dX10_together_90 rfl rfl rfl ?_
        refine rf_iload_n C (n := 92) (q := 5) dX10_together_91 rfl rfl rfl ?_
        refine rf_callVa C (n := 95) (c_X10_begunAt G fu _ _) mw_RX10_322 ly_0 rfl ⟨by decide, by decide⟩ rfl (Nat.le_of_ble_eq_true rfl) rfl dX10_together_92 rfl (fun y19 m20 => ?_)
        refine rf_guard (fun h21 => ?_)
        subst h21
        refine rf_pop C (n := 96) dX10_together_95 rfl rfl ?_
        refine rf_aload_n C (n := 97) (q := 3) dX10_together_96 rfl rfl rfl ?_
        refine rf_getS C (n := 100) fl_RX10_69 ly_0 rfl dX10_together_97 rfl ?_
        refine rf_getS C (n := 103) fl_RX10_232 ly_55 rfl dX10_together_100 rfl ?_
        refine rf_iload_n C (n := 104) (q := 4) dX10_together_103 rfl rfl rfl ?_
        refine rf_callSv C (n := 107) (c_J7_fill_53178 G fu _ _ _ _) sw_RX10_394 ⟨by decide, by decide⟩ rfl (Nat.le_of_ble_eq_true rfl) rfl dX10_together_104 rfl (fun _ m22 => ?_)
        refine rf_aload_n C (n := 108) (q := 3) dX10_together_107 rfl rfl rfl ?_
        refine rf_getS C (n := 111) fl_RX10_42 ly_0 rfl dX10_together_108 rfl ?_
        refine rf_aload_n C (n := 112) (q := 3) dX10_together_111 rfl rfl rfl ?_
        refine rf_getS C (n := 115) fl_RX10_69 ly_0 rfl dX10_together_112 rfl ?_
        refine rf_sipush C (n := 118) (v := 2399) dX10_together_115 rfl (by decide) ?_
        refine rf_callVi C (n := 121) (c_X8_runToEnd G fu _ _ _) mw_RX10_270 ly_32 rfl ⟨by decide, by decide⟩ rfl (Nat.le_of_ble_eq_true rfl) rfl dX10_together_118 rfl (fun y23 m24 => ?_)
        refine rf_istore C (n := 123) [(6, .int y23), (5, .int y10), (4, .int y9), (3, hA G (6 + 2 * (Int32.toNatClampNeg x1))), (0, hA G 0), (1, .int x1), (2, .int x2)] dX10_together_121 rfl (by decide) rfl ?_
        refine rf_aload_n C (n := 124) (q := 4) dX10_together_123 rfl rfl rfl ?_
        refine rf_getS C (n := 127) fl_RX10_42 ly_0 rfl dX10_together_124 rfl ?_
        refine rf_iconst C (n := 128) (v := 1) dX10_together_127 rfl (by decide) ?_
        refine rf_putI C (n := 131) pl_RX10_391 ly_32 rfl ⟨rfl, rfl⟩ dX10_together_128 rfl ?_
        refine rf_letM (fun m25 => ?_)
        refine rf_aload_n C (n := 132) (q := 4) dX10_together_131 rfl rfl rfl ?_
        refine rf_getS C (n := 135) fl_RX10_42 ly_0 rfl dX10_together_132 rfl ?_
        refine rf_iconst C (n := 136) (v := 1) dX10_together_135 rfl (by decide) ?_
        refine rf_putI C (n := 139) pl_RX10_318 ly_32 rfl ⟨rfl, rfl⟩ dX10_together_136 rfl ?_
        refine rf_letM (fun m26 => ?_)
        refine rf_aload_n C (n := 140) (q := 3) dX10_together_139 rfl rfl rfl ?_
        refine rf_iload C (n := 142) (q := 2) dX10_together_140 rfl rfl ?_
        refine rf_putI C (n := 145) pl_RX10_382 (pO_l (of_o h8)) rfl ⟨rfl, rfl⟩ dX10_together_142 rfl ?_
        refine rf_letM (fun m27 => ?_)
        refine rf_aload_n C (n := 146) (q := 3) dX10_together_145 rfl rfl rfl ?_
        refine rf_iload C (n := 148) (q := 1) dX10_together_146 rfl rfl ?_
        refine rf_putI C (n := 151) pl_RX10_385 (pO_l (of_o h8)) rfl ⟨rfl, rfl⟩ dX10_together_148 rfl ?_
        refine rf_letM (fun m28 => ?_)
        refine rf_iload C (n := 153) (q := 0) dX10_together_151 rfl rfl ?_
        refine rf_bipush C (n := 155) (v := (-2)) dX10_together_153 rfl (by decide) ?_
        refine rf_icmp_eq C (tgt := 165) (n := 158) dX10_together_155 (by decide) rfl (fun h29 => ?_) (fun h29 => ?_)
        · refine rf_iload C (n := 167) (q := 0) dX10_together_165 rfl rfl ?_
          exact rf_iret C K dX10_together_167
        · refine rf_aload_n C (n := 159) (q := 4) dX10_together_158 rfl rfl rfl ?_
          refine rf_iconst C (n := 160) (v := 0) dX10_together_159 rfl (by decide) ?_
          refine rf_iconst C (n := 161) (v := 0) dX10_together_160 rfl (by decide) ?_
          refine rf_iconst C (n := 162) (v := 0) dX10_together_161 rfl (by decide) ?_
          refine rf_callVv C (n := 165) (c_X10_tellEnd G fu _ _ _ _) mw_RX10_284 ly_0 rfl ⟨by decide, by decide⟩ rfl (Nat.le_of_ble_eq_true rfl) rfl dX10_together_162 rfl (fun _ m30 => ?_)
          refine rf_iload C (n := 167) (q := 0) dX10_together_165 rfl rfl ?_
          exact rf_iret C K dX10_together_167
      · refine rf_iconst C (n := 29) (v := (-1)) dX10_together_28 rfl (by decide) ?_
        exact rf_iret C K dX10_together_29
noncomputable def f_X10_sleeps (fu : Nat) (x1 : Int32) (x2 : Int32) (m : hM) : Option (Int32 × hM) :=
  hBd (f_X0_has fu x1 m) fun y1 m2 =>
if y1 = 0 then (
some ((-1), m2)) else (
hBd (f_X10_isDay fu x2 m2) fun y4 m5 =>
if y4 = 0 then (
some ((-1), m5)) else (
if ¬ (gI m5 18 6) = 0 then (
if hIn x1 6 then (
if hIn x2 100 then (
if (gI m5 (6 + 2 * (Int32.toNatClampNeg x1) + 1) (Int32.toNatClampNeg x2)) = 0 then (
hBd (f_X10_fromNow fu m5) fun y11 m12 =>
if y11 = 55 then (
hBd (f_X8_runToEnd fu 55 2399 m12) fun y14 m15 =>
hBd (f_X0_putFeast fu x1 x2 1 m15) fun _ m16 =>
hBd (f_X10_fromNow fu m16) fun y17 m18 =>
if y17 = 55 then (
hBd (f_X8_runToEnd fu 55 2399 m18) fun y20 m21 =>
hBd (f_X0_putFeast fu x1 x2 0 m21) fun _ m22 =>
hBd (f_X10_later fu y14 y20 m22) fun y23 m24 =>
some (y23, m24)) else none) else none) else (
some ((-9998), m5))) else none) else none) else (
some ((-1), m5))))
set_option maxRecDepth 100000 in
set_option maxHeartbeats 4000000 in
theorem c_X10_sleeps (G : hG) (fu : Nat) (x1 : Int32) (x2 : Int32) (m : hM) : Mt vI G 8 yX10_sleeps cX10_sleeps 5 (some .int) [hA G 0, .int x1, .int x2] m (f_X10_sleeps fu x1 x2 m) := by
  refine mt_of (by decide +kernel) (Nat.le_of_ble_eq_true rfl) (fun X C K => ?_)
  have C : Cx G X 8 cX10_sleeps 5 RX10 (some .int) := C
  show Rf vI G X 0 [(0, hA G 0), (1, .int x1), (2, .int x2)] [] m _
  unfold f_X10_sleeps
  refine rf_aload_n C (n := 1) (q := 0) dX10_sleeps_0 rfl rfl rfl ?_
  refine rf_getS C (n := 4) fl_RX10_12 ly_0 rfl dX10_sleeps_1 rfl ?_
  refine rf_iload_n C (n := 5) (q := 1) dX10_sleeps_4 rfl rfl rfl ?_
  refine rf_callVi C (n := 8) (c_X0_has G fu _ _) mw_RX10_116 ly_1 rfl ⟨by decide, by decide⟩ rfl (Nat.le_of_ble_eq_true rfl) rfl dX10_sleeps_5 rfl (fun y1 m2 => ?_)
  refine rf_if_eq C (tgt := 28) (n := 11) dX10_sleeps_8 (by decide) rfl (fun h3 => ?_) (fun h3 => ?_)
  · refine rf_iconst C (n := 29) (v := (-1)) dX10_sleeps_28 rfl (by decide) ?_
    exact rf_iret C K dX10_sleeps_29
  · refine rf_iload_n C (n := 12) (q := 2) dX10_sleeps_11 rfl rfl rfl ?_
    refine rf_callSi C (n := 15) (c_X10_isDay G fu _ _) sw_RX10_128 ⟨by decide, by decide⟩ rfl (Nat.le_of_ble_eq_true rfl) rfl dX10_sleeps_12 rfl (fun y4 m5 => ?_)
    refine rf_if_eq C (tgt := 28) (n := 18) dX10_sleeps_15 (by decide) rfl (fun h6 => ?_) (fun h6 => ?_)
    · refine rf_iconst C (n := 29) (v := (-1)) dX10_sleeps_28 rfl (by decide) ?_
      exact rf_iret C K dX10_sleeps_29
    · refine rf_aload_n C (n := 19) (q := 0) dX10_sleeps_18 rfl rfl rfl ?_
      refine rf_getS C (n := 22) fl_RX10_19 ly_0 rfl dX10_sleeps_19 rfl ?_
      refine rf_getI C (n := 25) fl_RX10_177 ly_18 rfl dX10_sleeps_22 rfl ?_
      refine rf_if_ne C (tgt := 30) (n := 28) dX10_sleeps_25 (by decide) rfl (fun h7 => ?_) (fun h7 => ?_)
      · refine rf_aload_n C (n := 31) (q := 0) dX10_sleeps_30 rfl rfl rfl ?_
        refine rf_getS C (n := 34) fl_RX10_12 ly_0 rfl dX10_sleeps_31 rfl ?_
        refine rf_getS C (n := 37) fl_RX10_102 ly_1 rfl dX10_sleeps_34 rfl ?_
        refine rf_iload_n C (n := 38) (q := 1) dX10_sleeps_37 rfl rfl rfl ?_
        refine rf_guard (fun h8 => ?_)
        refine rf_aaldO C (n := 39) ly_2 h8 (of_r h8) dX10_sleeps_38 rfl ?_
        refine rf_getS C (n := 42) fl_RX10_399 (pO_l (of_o h8)) rfl dX10_sleeps_39 rfl ?_
        refine rf_iload_n C (n := 43) (q := 2) dX10_sleeps_42 rfl rfl rfl ?_
        refine rf_guard (fun h9 => ?_)
        refine rf_zald C (n := 44) (of_a1 (of_o h8)) h9 rfl dX10_sleeps_43 rfl ?_
        refine rf_if_eq C (tgt := 51) (n := 47) dX10_sleeps_44 (by decide) rfl (fun h10 => ?_) (fun h10 => ?_)
        · refine rf_aload_n C (n := 52) (q := 0) dX10_sleeps_51 rfl rfl rfl ?_
          refine rf_getS C (n := 55) fl_RX10_42 ly_0 rfl dX10_sleeps_52 rfl ?_
          refine rf_aload_n C (n := 56) (q := 0) dX10_sleeps_55 rfl rfl rfl ?_
          refine rf_callVa C (n := 59) (c_X10_fromNow G fu _) mw_RX10_266 ly_0 rfl ⟨by decide, by decide⟩ rfl (Nat.le_of_ble_eq_true rfl) rfl dX10_sleeps_56 rfl (fun y11 m12 => ?_)
          refine rf_guard (fun h13 => ?_)
          subst h13
          refine rf_sipush C (n := 62) (v := 2399) dX10_sleeps_59 rfl (by decide) ?_
          refine rf_callVi C (n := 65) (c_X8_runToEnd G fu _ _ _) mw_RX10_270 ly_32 rfl ⟨by decide, by decide⟩ rfl (Nat.le_of_ble_eq_true rfl) rfl dX10_sleeps_62 rfl (fun y14 m15 => ?_)
          refine rf_istore_n C (n := 66) [(3, .int y14), (0, hA G 0), (1, .int x1), (2, .int x2)] dX10_sleeps_65 rfl rfl (by decide) rfl ?_
          refine rf_aload_n C (n := 67) (q := 1) dX10_sleeps_66 rfl rfl rfl ?_
          refine rf_getS C (n := 70) fl_RX10_12 ly_0 rfl dX10_sleeps_67 rfl ?_
          refine rf_iload_n C (n := 71) (q := 2) dX10_sleeps_70 rfl rfl rfl ?_
          refine rf_iload_n C (n := 72) (q := 3) dX10_sleeps_71 rfl rfl rfl ?_
          refine rf_iconst C (n := 73) (v := 1) dX10_sleeps_72 rfl (by decide) ?_
          refine rf_callVv C (n := 76) (c_X0_putFeast G fu _ _ _ _) mw_RX10_131 ly_1 rfl ⟨by decide, by decide⟩ rfl (Nat.le_of_ble_eq_true rfl) rfl dX10_sleeps_73 rfl (fun _ m16 => ?_)
          refine rf_aload_n C (n := 77) (q := 1) dX10_sleeps_76 rfl rfl rfl ?_
          refine rf_getS C (n := 80) fl_RX10_42 ly_0 rfl dX10_sleeps_77 rfl ?_
          refine rf_aload_n C (n := 81) (q := 1) dX10_sleeps_80 rfl rfl rfl ?_
          refine rf_callVa C (n := 84) (c_X10_fromNow G fu _) mw_RX10_266 ly_0 rfl ⟨by decide, by decide⟩ rfl (Nat.le_of_ble_eq_true rfl) rfl dX10_sleeps_81 rfl (fun y17 m18 => ?_)
          refine rf_guard (fun h19 => ?_)
          subst h19
          refine rf_sipush C (n := 87) (v := 2399) dX10_sleeps_84 rfl (by decide) ?_
          refine rf_callVi C (n := 90) (c_X8_runToEnd G fu _ _ _) mw_RX10_270 ly_32 rfl ⟨by decide, by decide⟩ rfl (Nat.le_of_ble_eq_true rfl) rfl dX10_sleeps_87 rfl (fun y20 m21 => ?_)
          refine rf_istore C (n := 92) [(4, .int y20), (3, .int y14), (0, hA G 0), (1, .int x1), (2, .int x2)] dX10_sleeps_90 rfl (by decide) rfl ?_
          refine rf_aload_n C (n := 93) (q := 2) dX10_sleeps_92 rfl rfl rfl ?_
          refine rf_getS C (n := 96) fl_RX10_12 ly_0 rfl dX10_sleeps_93 rfl ?_
          refine rf_iload_n C (n := 97) (q := 3) dX10_sleeps_96 rfl rfl rfl ?_
          refine rf_iload_n C (n := 98) (q := 4) dX10_sleeps_97 rfl rfl rfl ?_
          refine rf_iconst C (n := 99) (v := 0) dX10_sleeps_98 rfl (by decide) ?_
          refine rf_callVv C (n := 102) (c_X0_putFeast G fu _ _ _ _) mw_RX10_131 ly_1 rfl ⟨by decide, by decide⟩ rfl (Nat.le_of_ble_eq_true rfl) rfl dX10_sleeps_99 rfl (fun _ m22 => ?_)
          refine rf_iload_n C (n := 103) (q := 1) dX10_sleeps_102 rfl rfl rfl ?_
          refine rf_iload C (n := 105) (q := 0) dX10_sleeps_103 rfl rfl ?_
          refine rf_callSi C (n := 108) (c_X10_later G fu _ _ _) sw_RX10_357 ⟨by decide, by decide⟩ rfl (Nat.le_of_ble_eq_true rfl) rfl dX10_sleeps_105 rfl (fun y23 m24 => ?_)
          exact rf_iret C K dX10_sleeps_108
        · refine rf_sipush C (n := 50) (v := (-9998)) dX10_sleeps_47 rfl (by decide) ?_
          exact rf_iret C K dX10_sleeps_50
      · refine rf_iconst C (n := 29) (v := (-1)) dX10_sleeps_28 rfl (by decide) ?_
        exact rf_iret C K dX10_sleeps_29
noncomputable def f_X10_worst_145 (fu : Nat) (x4 : Int32) (x5 : Int32) (m : hM) : Option (Int32 × hM) :=
  if x4 = (-2) then (
some (x4, m)) else (
hBd (f_X1_clear fu m) fun _ m14 =>
hBd (f_X1_tell fu (Int32.toInt64 x5) m14) fun _ m15 =>
some (x4, m15))
set_option maxRecDepth 100000 in
set_option maxHeartbeats 4000000 in
theorem r_X10_worst_145 {G : hG} {X : hX} (C : Cx G X 8 cX10_worst 8 RX10 (some .int)) (K : Cr G X) (fu : Nat) (x4 : Int32) (x5 : Int32) (m : hM) : Rf vI G X 145 [(0, hA G 0), (4, .int x4), (5, .int x5)] [] m (f_X10_worst_145 fu x4 x5 m) := by
  unfold f_X10_worst_145
  refine rf_iload C (n := 147) (q := 1) dX10_worst_145 rfl rfl ?_
  refine rf_bipush C (n := 149) (v := (-2)) dX10_worst_147 rfl (by decide) ?_
  refine rf_icmp_eq C (tgt := 169) (n := 152) dX10_worst_149 (by decide) rfl (fun h13 => ?_) (fun h13 => ?_)
  · refine rf_iload C (n := 171) (q := 1) dX10_worst_169 rfl rfl ?_
    exact rf_iret C K dX10_worst_171
  · refine rf_aload_n C (n := 153) (q := 0) dX10_worst_152 rfl rfl rfl ?_
    refine rf_getS C (n := 156) fl_RX10_83 ly_0 rfl dX10_worst_153 rfl ?_
    refine rf_callVv C (n := 159) (c_X1_clear G fu _) mw_RX10_170 ly_66 rfl ⟨by decide, by decide⟩ rfl (Nat.le_of_ble_eq_true rfl) rfl dX10_worst_156 rfl (fun _ m14 => ?_)
    refine rf_aload_n C (n := 160) (q := 0) dX10_worst_159 rfl rfl rfl ?_
    refine rf_getS C (n := 163) fl_RX10_83 ly_0 rfl dX10_worst_160 rfl ?_
    refine rf_iload C (n := 165) (q := 2) dX10_worst_163 rfl rfl ?_
    refine rf_i2l C (n := 166) dX10_worst_165 rfl ?_
    refine rf_callVv C (n := 169) (c_X1_tell G fu _ _) mw_RX10_173 ly_66 rfl ⟨by decide, by decide⟩ rfl (Nat.le_of_ble_eq_true rfl) rfl dX10_worst_166 rfl (fun _ m15 => ?_)
    refine rf_iload C (n := 171) (q := 1) dX10_worst_169 rfl rfl ?_
    exact rf_iret C K dX10_worst_171
noncomputable def f_X10_worst_139 (fu : Nat) (k52 : Int32 → Int32 → Int32 → Int32 → Int32 → hM → Option (Int32 × hM)) (x1 : Int32) (x3 : Int32) (x4 : Int32) (x5 : Int32) (x6 : Int32) (m : hM) : Option (Int32 × hM) :=
  hLet (x6 + 1) fun y27 =>
k52 x1 x3 x4 x5 y27 m
set_option maxRecDepth 100000 in
set_option maxHeartbeats 4000000 in
theorem r_X10_worst_139 {G : hG} {X : hX} (C : Cx G X 8 cX10_worst 8 RX10 (some .int)) (K : Cr G X) (fu : Nat) (k52 : Int32 → Int32 → Int32 → Int32 → Int32 → hM → Option (Int32 × hM)) (hk52 : ∀ (x1 : Int32) (x3 : Int32) (x4 : Int32) (x5 : Int32) (x6 : Int32) (m : hM), Rf vI G X 52 [(0, hA G 0), (1, .int x1), (3, .int x3), (4, .int x4), (5, .int x5), (6, .int x6)] [] m (k52 x1 x3 x4 x5 x6 m)) (x1 : Int32) (x3 : Int32) (x4 : Int32) (x5 : Int32) (x6 : Int32) (m : hM) : Rf vI G X 139 [(0, hA G 0), (1, .int x1), (3, .int x3), (4, .int x4), (5, .int x5), (6, .int x6)] [] m (f_X10_worst_139 fu k52 x1 x3 x4 x5 x6 m) := by
  unfold f_X10_worst_139
  refine rf_iinc2 C (n := 142) (q := 5) (fun y27 => [(6, .int y27), (0, hA G 0), (1, .int x1), (3, .int x3), (4, .int x4), (5, .int x5)]) dX10_worst_139 rfl rfl (by decide) (by decide) (fun _ => rfl) (fun y27 => ?_)
  refine rf_goto C (n := 52) dX10_worst_142 (by decide) ?_
  exact rf_lv _ [1, 2, 3, 4, 5, 0] rfl (hk52 _ _ _ _ _ _)
noncomputable def s_X10_worst_52 (fu : Nat) (ih : Int32 → Int32 → Int32 → Int32 → Int32 → hM → Option (Int32 × hM)) (x1 : Int32) (x3 : Int32) (x4 : Int32) (x5 : Int32) (x6 : Int32) (m : hM) : Option (Int32 × hM) :=
  if x3 < x6 then (
f_X10_worst_145 fu x4 x5 m) else (
if hIn x1 6 then (
if hIn x6 100 then (
if (gI m (6 + 2 * (Int32.toNatClampNeg x1) + 1) (Int32.toNatClampNeg x6)) = 0 then (
hBd (f_X0_putFeast fu x1 x6 1 m) fun _ m19 =>
hBd (f_X10_fromNow fu m19) fun y20 m21 =>
if y20 = 55 then (
hBd (f_X8_runToEnd fu 55 2399 m21) fun y23 m24 =>
hBd (f_X0_putFeast fu x1 x6 0 m24) fun _ m25 =>
if y23 = (-2) then (
f_X10_worst_139 fu ih x1 x3 x4 x5 x6 m25) else (
if y23 ≤ x5 then (
f_X10_worst_139 fu ih x1 x3 x4 x5 x6 m25) else (
f_X10_worst_139 fu ih x1 x3 x6 y23 x6 m25))) else none) else (
f_X10_worst_139 fu ih x1 x3 x4 x5 x6 m)) else none) else none)
noncomputable def f_X10_worst_52 (fu : Nat) (n : Nat) : Int32 → Int32 → Int32 → Int32 → Int32 → hM → Option (Int32 × hM) :=
  Nat.rec (motive := fun _ => Int32 → Int32 → Int32 → Int32 → Int32 → hM → Option (Int32 × hM)) (fun _ _ _ _ _ _ => none) (fun _ ih => s_X10_worst_52 fu ih) n
theorem f_X10_worst_52_s (fu : Nat) (n : Nat) (x1 : Int32) (x3 : Int32) (x4 : Int32) (x5 : Int32) (x6 : Int32) (m : hM) : f_X10_worst_52 fu (n + 1) x1 x3 x4 x5 x6 m = s_X10_worst_52 fu (f_X10_worst_52 fu n) x1 x3 x4 x5 x6 m := rfl
set_option maxRecDepth 100000 in
set_option maxHeartbeats 4000000 in
theorem r_X10_worst_52 {G : hG} {X : hX} (C : Cx G X 8 cX10_worst 8 RX10 (some .int)) (K : Cr G X) (fu : Nat) (n : Nat) : ∀ (x1 : Int32) (x3 : Int32) (x4 : Int32) (x5 : Int32) (x6 : Int32) (m : hM), Rf vI G X 52 [(0, hA G 0), (1, .int x1), (3, .int x3), (4, .int x4), (5, .int x5), (6, .int x6)] [] m (f_X10_worst_52 fu n x1 x3 x4 x5 x6 m) := by
  induction n with
  | zero => intros; exact rf_none
  | succ n ih =>
    intro x1 x3 x4 x5 x6 m
    show Rf vI G X 52 [(0, hA G 0), (1, .int x1), (3, .int x3), (4, .int x4), (5, .int x5), (6, .int x6)] [] m (s_X10_worst_52 fu (f_X10_worst_52 fu n) x1 x3 x4 x5 x6 m)
    unfold s_X10_worst_52
    refine rf_iload C (n := 54) (q := 5) dX10_worst_52 rfl rfl ?_
    refine rf_iload_n C (n := 55) (q := 2) dX10_worst_54 rfl rfl rfl ?_
    refine rf_icmp_gt C (tgt := 145) (n := 58) dX10_worst_55 (by decide) rfl (fun h12 => ?_) (fun h12 => ?_)
    · exact rf_lv _ [0, 3, 4] rfl (r_X10_worst_145 C K fu _ _ _)
    · refine rf_aload_n C (n := 59) (q := 0) dX10_worst_58 rfl rfl rfl ?_
      refine rf_getS C (n := 62) fl_RX10_12 ly_0 rfl dX10_worst_59 rfl ?_
      refine rf_getS C (n := 65) fl_RX10_102 ly_1 rfl dX10_worst_62 rfl ?_
      refine rf_iload_n C (n := 66) (q := 1) dX10_worst_65 rfl rfl rfl ?_
      refine rf_guard (fun h16 => ?_)
      refine rf_aaldO C (n := 67) ly_2 h16 (of_r h16) dX10_worst_66 rfl ?_
      refine rf_getS C (n := 70) fl_RX10_399 (pO_l (of_o h16)) rfl dX10_worst_67 rfl ?_
      refine rf_iload C (n := 72) (q := 5) dX10_worst_70 rfl rfl ?_
      refine rf_guard (fun h17 => ?_)
      refine rf_zald C (n := 73) (of_a1 (of_o h16)) h17 rfl dX10_worst_72 rfl ?_
      refine rf_if_eq C (tgt := 79) (n := 76) dX10_worst_73 (by decide) rfl (fun h18 => ?_) (fun h18 => ?_)
      · refine rf_aload_n C (n := 80) (q := 0) dX10_worst_79 rfl rfl rfl ?_
        refine rf_getS C (n := 83) fl_RX10_12 ly_0 rfl dX10_worst_80 rfl ?_
        refine rf_iload_n C (n := 84) (q := 1) dX10_worst_83 rfl rfl rfl ?_
        refine rf_iload C (n := 86) (q := 5) dX10_worst_84 rfl rfl ?_
        refine rf_iconst C (n := 87) (v := 1) dX10_worst_86 rfl (by decide) ?_
        refine rf_callVv C (n := 90) (c_X0_putFeast G fu _ _ _ _) mw_RX10_131 ly_1 rfl ⟨by decide, by decide⟩ rfl (Nat.le_of_ble_eq_true rfl) rfl dX10_worst_87 rfl (fun _ m19 => ?_)
        refine rf_aload_n C (n := 91) (q := 0) dX10_worst_90 rfl rfl rfl ?_
        refine rf_getS C (n := 94) fl_RX10_42 ly_0 rfl dX10_worst_91 rfl ?_
        refine rf_aload_n C (n := 95) (q := 0) dX10_worst_94 rfl rfl rfl ?_
        refine rf_callVa C (n := 98) (c_X10_fromNow G fu _) mw_RX10_266 ly_0 rfl ⟨by decide, by decide⟩ rfl (Nat.le_of_ble_eq_true rfl) rfl dX10_worst_95 rfl (fun y20 m21 => ?_)
        refine rf_guard (fun h22 => ?_)
        subst h22
        refine rf_sipush C (n := 101) (v := 2399) dX10_worst_98 rfl (by decide) ?_
        refine rf_callVi C (n := 104) (c_X8_runToEnd G fu _ _ _) mw_RX10_270 ly_32 rfl ⟨by decide, by decide⟩ rfl (Nat.le_of_ble_eq_true rfl) rfl dX10_worst_101 rfl (fun y23 m24 => ?_)
        refine rf_istore C (n := 106) [(7, .int y23), (0, hA G 0), (1, .int x1), (3, .int x3), (4, .int x4), (5, .int x5), (6, .int x6)] dX10_worst_104 rfl (by decide) rfl ?_
        refine rf_aload_n C (n := 107) (q := 1) dX10_worst_106 rfl rfl rfl ?_
        refine rf_getS C (n := 110) fl_RX10_12 ly_0 rfl dX10_worst_107 rfl ?_
        refine rf_iload_n C (n := 111) (q := 2) dX10_worst_110 rfl rfl rfl ?_
        refine rf_iload C (n := 113) (q := 6) dX10_worst_111 rfl rfl ?_
        refine rf_iconst C (n := 114) (v := 0) dX10_worst_113 rfl (by decide) ?_
        refine rf_callVv C (n := 117) (c_X0_putFeast G fu _ _ _ _) mw_RX10_131 ly_1 rfl ⟨by decide, by decide⟩ rfl (Nat.le_of_ble_eq_true rfl) rfl dX10_worst_114 rfl (fun _ m25 => ?_)
        refine rf_iload C (n := 119) (q := 0) dX10_worst_117 rfl rfl ?_
        refine rf_bipush C (n := 121) (v := (-2)) dX10_worst_119 rfl (by decide) ?_
        refine rf_icmp_eq C (tgt := 139) (n := 124) dX10_worst_121 (by decide) rfl (fun h26 => ?_) (fun h26 => ?_)
        · exact rf_lv _ [1, 2, 3, 4, 5, 6] rfl (r_X10_worst_139 C K fu _ ih _ _ _ _ _ _)
        · refine rf_iload C (n := 126) (q := 0) dX10_worst_124 rfl rfl ?_
          refine rf_iload C (n := 128) (q := 5) dX10_worst_126 rfl rfl ?_
          refine rf_icmp_le C (tgt := 139) (n := 131) dX10_worst_128 (by decide) rfl (fun h28 => ?_) (fun h28 => ?_)
          · exact rf_lv _ [1, 2, 3, 4, 5, 6] rfl (r_X10_worst_139 C K fu _ ih _ _ _ _ _ _)
          · refine rf_iload C (n := 133) (q := 6) dX10_worst_131 rfl rfl ?_
            refine rf_istore C (n := 135) [(4, .int x6), (7, .int y23), (0, hA G 0), (1, .int x1), (3, .int x3), (5, .int x5), (6, .int x6)] dX10_worst_133 rfl (by decide) rfl ?_
            refine rf_iload C (n := 137) (q := 1) dX10_worst_135 rfl rfl ?_
            refine rf_istore C (n := 139) [(5, .int y23), (4, .int x6), (7, .int y23), (0, hA G 0), (1, .int x1), (3, .int x3), (6, .int x6)] dX10_worst_137 rfl (by decide) rfl ?_
            exact rf_lv _ [3, 4, 5, 1, 0, 6] rfl (r_X10_worst_139 C K fu _ ih _ _ _ _ _ _)
      · refine rf_goto C (n := 139) dX10_worst_76 (by decide) ?_
        exact rf_lv _ [0, 1, 2, 3, 4, 5] rfl (r_X10_worst_139 C K fu _ ih _ _ _ _ _ _)
noncomputable def f_X10_worst (fu : Nat) (x1 : Int32) (x2 : Int32) (x3 : Int32) (m : hM) : Option (Int32 × hM) :=
  hBd (f_X0_has fu x1 m) fun y1 m2 =>
if y1 = 0 then (
some ((-1), m2)) else (
hBd (f_X10_isDay fu x2 m2) fun y4 m5 =>
if y4 = 0 then (
some ((-1), m5)) else (
hBd (f_X10_isDay fu x3 m5) fun y7 m8 =>
if y7 = 0 then (
some ((-1), m8)) else (
if x3 < x2 then (
some ((-1), m8)) else (
if ¬ (gI m8 18 6) = 0 then (
f_X10_worst_52 fu fu x1 x3 (-2) (-1) x2 m8) else (
some ((-1), m8))))))
set_option maxRecDepth 100000 in
set_option maxHeartbeats 4000000 in
theorem c_X10_worst (G : hG) (fu : Nat) (x1 : Int32) (x2 : Int32) (x3 : Int32) (m : hM) : Mt vI G 8 yX10_worst cX10_worst 8 (some .int) [hA G 0, .int x1, .int x2, .int x3] m (f_X10_worst fu x1 x2 x3 m) := by
  refine mt_of (by decide +kernel) (Nat.le_of_ble_eq_true rfl) (fun X C K => ?_)
  have C : Cx G X 8 cX10_worst 8 RX10 (some .int) := C
  show Rf vI G X 0 [(0, hA G 0), (1, .int x1), (2, .int x2), (3, .int x3)] [] m _
  unfold f_X10_worst
  refine rf_aload_n C (n := 1) (q := 0) dX10_worst_0 rfl rfl rfl ?_
  refine rf_getS C (n := 4) fl_RX10_12 ly_0 rfl dX10_worst_1 rfl ?_
  refine rf_iload_n C (n := 5) (q := 1) dX10_worst_4 rfl rfl rfl ?_
  refine rf_callVi C (n := 8) (c_X0_has G fu _ _) mw_RX10_116 ly_1 rfl ⟨by decide, by decide⟩ rfl (Nat.le_of_ble_eq_true rfl) rfl dX10_worst_5 rfl (fun y1 m2 => ?_)
  refine rf_if_eq C (tgt := 40) (n := 11) dX10_worst_8 (by decide) rfl (fun h3 => ?_) (fun h3 => ?_)
  · refine rf_iconst C (n := 41) (v := (-1)) dX10_worst_40 rfl (by decide) ?_
    exact rf_iret C K dX10_worst_41
  · refine rf_iload_n C (n := 12) (q := 2) dX10_worst_11 rfl rfl rfl ?_
    refine rf_callSi C (n := 15) (c_X10_isDay G fu _ _) sw_RX10_128 ⟨by decide, by decide⟩ rfl (Nat.le_of_ble_eq_true rfl) rfl dX10_worst_12 rfl (fun y4 m5 => ?_)
    refine rf_if_eq C (tgt := 40) (n := 18) dX10_worst_15 (by decide) rfl (fun h6 => ?_) (fun h6 => ?_)
    · refine rf_iconst C (n := 41) (v := (-1)) dX10_worst_40 rfl (by decide) ?_
      exact rf_iret C K dX10_worst_41
    · refine rf_iload_n C (n := 19) (q := 3) dX10_worst_18 rfl rfl rfl ?_
      refine rf_callSi C (n := 22) (c_X10_isDay G fu _ _) sw_RX10_128 ⟨by decide, by decide⟩ rfl (Nat.le_of_ble_eq_true rfl) rfl dX10_worst_19 rfl (fun y7 m8 => ?_)
      refine rf_if_eq C (tgt := 40) (n := 25) dX10_worst_22 (by decide) rfl (fun h9 => ?_) (fun h9 => ?_)
      · refine rf_iconst C (n := 41) (v := (-1)) dX10_worst_40 rfl (by decide) ?_
        exact rf_iret C K dX10_worst_41
      · refine rf_iload_n C (n := 26) (q := 2) dX10_worst_25 rfl rfl rfl ?_
        refine rf_iload_n C (n := 27) (q := 3) dX10_worst_26 rfl rfl rfl ?_
        refine rf_icmp_gt C (tgt := 40) (n := 30) dX10_worst_27 (by decide) rfl (fun h10 => ?_) (fun h10 => ?_)
        · refine rf_iconst C (n := 41) (v := (-1)) dX10_worst_40 rfl (by decide) ?_
          exact rf_iret C K dX10_worst_41
        · refine rf_aload_n C (n := 31) (q := 0) dX10_worst_30 rfl rfl rfl ?_
          refine rf_getS C (n := 34) fl_RX10_19 ly_0 rfl dX10_worst_31 rfl ?_
          refine rf_getI C (n := 37) fl_RX10_177 ly_18 rfl dX10_worst_34 rfl ?_
          refine rf_if_ne C (tgt := 42) (n := 40) dX10_worst_37 (by decide) rfl (fun h11 => ?_) (fun h11 => ?_)
          · refine rf_bipush C (n := 44) (v := (-2)) dX10_worst_42 rfl (by decide) ?_
            refine rf_istore C (n := 46) [(4, .int (-2)), (0, hA G 0), (1, .int x1), (2, .int x2), (3, .int x3)] dX10_worst_44 rfl (by decide) rfl ?_
            refine rf_iconst C (n := 47) (v := (-1)) dX10_worst_46 rfl (by decide) ?_
            refine rf_istore C (n := 49) [(5, .int (-1)), (4, .int (-2)), (0, hA G 0), (1, .int x1), (2, .int x2), (3, .int x3)] dX10_worst_47 rfl (by decide) rfl ?_
            refine rf_iload_n C (n := 50) (q := 4) dX10_worst_49 rfl rfl rfl ?_
            refine rf_istore C (n := 52) [(6, .int x2), (5, .int (-1)), (4, .int (-2)), (0, hA G 0), (1, .int x1), (2, .int x2), (3, .int x3)] dX10_worst_50 rfl (by decide) rfl ?_
            exact rf_lv _ [3, 4, 6, 2, 1, 0] rfl (r_X10_worst_52 C K fu fu _ _ _ _ _ _)
          · refine rf_iconst C (n := 41) (v := (-1)) dX10_worst_40 rfl (by decide) ?_
            exact rf_iret C K dX10_worst_41
noncomputable def f_X10_march (fu : Nat) (x1 : Int32) (x2 : Int32) (m : hM) : Option (Int32 × hM) :=
  hBd (f_X0_has fu x1 m) fun y1 m2 =>
if y1 = 0 then (
some ((-1), m2)) else (
hBd (f_X10_isHour fu x2 m2) fun y4 m5 =>
if y4 = 0 then (
some ((-1), m5)) else (
if ¬ (gI m5 18 6) = 0 then (
hBd (f_X10_fromNow fu m5) fun y8 m9 =>
if y8 = 55 then (
hBd (f_X8_runToEnd fu 55 2399 m9) fun y11 m12 =>
if hIn x1 6 then (
hLet (gI m12 (6 + 2 * (Int32.toNatClampNeg x1)) 6) fun y14 =>
hLet (gI m12 (6 + 2 * (Int32.toNatClampNeg x1)) 7) fun y15 =>
hLet (sI m12 (6 + 2 * (Int32.toNatClampNeg x1)) 6 x2) fun m16 =>
hLet (sI m16 (6 + 2 * (Int32.toNatClampNeg x1)) 7 1) fun m17 =>
hBd (f_X0_refresh fu x1 0 2560 m17) fun _ m18 =>
hBd (f_X10_fromNow fu m18) fun y19 m20 =>
if y19 = 55 then (
hBd (f_X8_runToEnd fu 55 2399 m20) fun y22 m23 =>
hLet (sI m23 (6 + 2 * (Int32.toNatClampNeg x1)) 6 y14) fun m24 =>
hLet (sI m24 (6 + 2 * (Int32.toNatClampNeg x1)) 7 y15) fun m25 =>
hBd (f_X0_refresh fu x1 0 2560 m25) fun _ m26 =>
hBd (f_X10_later fu y11 y22 m26) fun y27 m28 =>
some (y27, m28)) else none) else none) else none) else (
some ((-1), m5))))
set_option maxRecDepth 100000 in
set_option maxHeartbeats 4000000 in
theorem c_X10_march (G : hG) (fu : Nat) (x1 : Int32) (x2 : Int32) (m : hM) : Mt vI G 8 yX10_march cX10_march 8 (some .int) [hA G 0, .int x1, .int x2] m (f_X10_march fu x1 x2 m) := by
  refine mt_of (by decide +kernel) (Nat.le_of_ble_eq_true rfl) (fun X C K => ?_)
  have C : Cx G X 8 cX10_march 8 RX10 (some .int) := C
  show Rf vI G X 0 [(0, hA G 0), (1, .int x1), (2, .int x2)] [] m _
  unfold f_X10_march
  refine rf_aload_n C (n := 1) (q := 0) dX10_march_0 rfl rfl rfl ?_
  refine rf_getS C (n := 4) fl_RX10_12 ly_0 rfl dX10_march_1 rfl ?_
  refine rf_iload_n C (n := 5) (q := 1) dX10_march_4 rfl rfl rfl ?_
  refine rf_callVi C (n := 8) (c_X0_has G fu _ _) mw_RX10_116 ly_1 rfl ⟨by decide, by decide⟩ rfl (Nat.le_of_ble_eq_true rfl) rfl dX10_march_5 rfl (fun y1 m2 => ?_)
  refine rf_if_eq C (tgt := 28) (n := 11) dX10_march_8 (by decide) rfl (fun h3 => ?_) (fun h3 => ?_)
  · refine rf_iconst C (n := 29) (v := (-1)) dX10_march_28 rfl (by decide) ?_
    exact rf_iret C K dX10_march_29
  · refine rf_iload_n C (n := 12) (q := 2) dX10_march_11 rfl rfl rfl ?_
    refine rf_callSi C (n := 15) (c_X10_isHour G fu _ _) sw_RX10_119 ⟨by decide, by decide⟩ rfl (Nat.le_of_ble_eq_true rfl) rfl dX10_march_12 rfl (fun y4 m5 => ?_)
    refine rf_if_eq C (tgt := 28) (n := 18) dX10_march_15 (by decide) rfl (fun h6 => ?_) (fun h6 => ?_)
    · refine rf_iconst C (n := 29) (v := (-1)) dX10_march_28 rfl (by decide) ?_
      exact rf_iret C K dX10_march_29
    · refine rf_aload_n C (n := 19) (q := 0) dX10_march_18 rfl rfl rfl ?_
      refine rf_getS C (n := 22) fl_RX10_19 ly_0 rfl dX10_march_19 rfl ?_
      refine rf_getI C (n := 25) fl_RX10_177 ly_18 rfl dX10_march_22 rfl ?_
      refine rf_if_ne C (tgt := 30) (n := 28) dX10_march_25 (by decide) rfl (fun h7 => ?_) (fun h7 => ?_)
      · refine rf_aload_n C (n := 31) (q := 0) dX10_march_30 rfl rfl rfl ?_
        refine rf_getS C (n := 34) fl_RX10_42 ly_0 rfl dX10_march_31 rfl ?_
        refine rf_aload_n C (n := 35) (q := 0) dX10_march_34 rfl rfl rfl ?_
        refine rf_callVa C (n := 38) (c_X10_fromNow G fu _) mw_RX10_266 ly_0 rfl ⟨by decide, by decide⟩ rfl (Nat.le_of_ble_eq_true rfl) rfl dX10_march_35 rfl (fun y8 m9 => ?_)
        refine rf_guard (fun h10 => ?_)
        subst h10
        refine rf_sipush C (n := 41) (v := 2399) dX10_march_38 rfl (by decide) ?_
        refine rf_callVi C (n := 44) (c_X8_runToEnd G fu _ _ _) mw_RX10_270 ly_32 rfl ⟨by decide, by decide⟩ rfl (Nat.le_of_ble_eq_true rfl) rfl dX10_march_41 rfl (fun y11 m12 => ?_)
        refine rf_istore_n C (n := 45) [(3, .int y11), (0, hA G 0), (1, .int x1), (2, .int x2)] dX10_march_44 rfl rfl (by decide) rfl ?_
        refine rf_aload_n C (n := 46) (q := 1) dX10_march_45 rfl rfl rfl ?_
        refine rf_getS C (n := 49) fl_RX10_12 ly_0 rfl dX10_march_46 rfl ?_
        refine rf_getS C (n := 52) fl_RX10_102 ly_1 rfl dX10_march_49 rfl ?_
        refine rf_iload_n C (n := 53) (q := 2) dX10_march_52 rfl rfl rfl ?_
        refine rf_guard (fun h13 => ?_)
        refine rf_aaldO C (n := 54) ly_2 h13 (of_r h13) dX10_march_53 rfl ?_
        refine rf_astore C (n := 56) [(4, hA G (6 + 2 * (Int32.toNatClampNeg x1))), (3, .int y11), (0, hA G 0), (1, .int x1), (2, .int x2)] dX10_march_54 rfl (by decide) rfl ?_
        refine rf_aload C (n := 58) (q := 0) dX10_march_56 rfl rfl ?_
        refine rf_getI C (n := 61) fl_RX10_122 (pO_l (of_o h13)) rfl dX10_march_58 rfl ?_
        refine rf_letI (fun y14 => ?_)
        refine rf_istore C (n := 63) [(5, .int y14), (4, hA G (6 + 2 * (Int32.toNatClampNeg x1))), (3, .int y11), (0, hA G 0), (1, .int x1), (2, .int x2)] dX10_march_61 rfl (by decide) rfl ?_
        refine rf_aload C (n := 65) (q := 1) dX10_march_63 rfl rfl ?_
        refine rf_getI C (n := 68) fl_RX10_125 (pO_l (of_o h13)) rfl dX10_march_65 rfl ?_
        refine rf_letI (fun y15 => ?_)
        refine rf_istore C (n := 70) [(6, .int y15), (5, .int y14), (4, hA G (6 + 2 * (Int32.toNatClampNeg x1))), (3, .int y11), (0, hA G 0), (1, .int x1), (2, .int x2)] dX10_march_68 rfl (by decide) rfl ?_
        refine rf_aload C (n := 72) (q := 2) dX10_march_70 rfl rfl ?_
        refine rf_iload_n C (n := 73) (q := 6) dX10_march_72 rfl rfl rfl ?_
        refine rf_putI C (n := 76) pl_RX10_122 (pO_l (of_o h13)) rfl ⟨rfl, rfl⟩ dX10_march_73 rfl ?_
        refine rf_letM (fun m16 => ?_)
        refine rf_aload C (n := 78) (q := 2) dX10_march_76 rfl rfl ?_
        refine rf_iconst C (n := 79) (v := 1) dX10_march_78 rfl (by decide) ?_
        refine rf_putI C (n := 82) pl_RX10_125 (pO_l (of_o h13)) rfl ⟨rfl, rfl⟩ dX10_march_79 rfl ?_
        refine rf_letM (fun m17 => ?_)
        refine rf_aload_n C (n := 83) (q := 4) dX10_march_82 rfl rfl rfl ?_
        refine rf_getS C (n := 86) fl_RX10_12 ly_0 rfl dX10_march_83 rfl ?_
        refine rf_iload_n C (n := 87) (q := 5) dX10_march_86 rfl rfl rfl ?_
        refine rf_iconst C (n := 88) (v := 0) dX10_march_87 rfl (by decide) ?_
        refine rf_sipush C (n := 91) (v := 2560) dX10_march_88 rfl (by decide) ?_
        refine rf_callVv C (n := 94) (c_X0_refresh G fu _ _ _ _) mw_RX10_112 ly_1 rfl ⟨by decide, by decide⟩ rfl (Nat.le_of_ble_eq_true rfl) rfl dX10_march_91 rfl (fun _ m18 => ?_)
        refine rf_aload_n C (n := 95) (q := 4) dX10_march_94 rfl rfl rfl ?_
        refine rf_getS C (n := 98) fl_RX10_42 ly_0 rfl dX10_march_95 rfl ?_
        refine rf_aload_n C (n := 99) (q := 4) dX10_march_98 rfl rfl rfl ?_
        refine rf_callVa C (n := 102) (c_X10_fromNow G fu _) mw_RX10_266 ly_0 rfl ⟨by decide, by decide⟩ rfl (Nat.le_of_ble_eq_true rfl) rfl dX10_march_99 rfl (fun y19 m20 => ?_)
        refine rf_guard (fun h21 => ?_)
        subst h21
        refine rf_sipush C (n := 105) (v := 2399) dX10_march_102 rfl (by decide) ?_
        refine rf_callVi C (n := 108) (c_X8_runToEnd G fu _ _ _) mw_RX10_270 ly_32 rfl ⟨by decide, by decide⟩ rfl (Nat.le_of_ble_eq_true rfl) rfl dX10_march_105 rfl (fun y22 m23 => ?_)
        refine rf_istore C (n := 110) [(7, .int y22), (6, .int y15), (5, .int y14), (4, hA G (6 + 2 * (Int32.toNatClampNeg x1))), (3, .int y11), (0, hA G 0), (1, .int x1), (2, .int x2)] dX10_march_108 rfl (by decide) rfl ?_
        refine rf_aload C (n := 112) (q := 3) dX10_march_110 rfl rfl ?_
        refine rf_iload C (n := 114) (q := 2) dX10_march_112 rfl rfl ?_
        refine rf_putI C (n := 117) pl_RX10_122 (pO_l (of_o h13)) rfl ⟨rfl, rfl⟩ dX10_march_114 rfl ?_
        refine rf_letM (fun m24 => ?_)
        refine rf_aload C (n := 119) (q := 3) dX10_march_117 rfl rfl ?_
        refine rf_iload C (n := 121) (q := 1) dX10_march_119 rfl rfl ?_
        refine rf_putI C (n := 124) pl_RX10_125 (pO_l (of_o h13)) rfl ⟨rfl, rfl⟩ dX10_march_121 rfl ?_
        refine rf_letM (fun m25 => ?_)
        refine rf_aload_n C (n := 125) (q := 5) dX10_march_124 rfl rfl rfl ?_
        refine rf_getS C (n := 128) fl_RX10_12 ly_0 rfl dX10_march_125 rfl ?_
        refine rf_iload_n C (n := 129) (q := 6) dX10_march_128 rfl rfl rfl ?_
        refine rf_iconst C (n := 130) (v := 0) dX10_march_129 rfl (by decide) ?_
        refine rf_sipush C (n := 133) (v := 2560) dX10_march_130 rfl (by decide) ?_
        refine rf_callVv C (n := 136) (c_X0_refresh G fu _ _ _ _) mw_RX10_112 ly_1 rfl ⟨by decide, by decide⟩ rfl (Nat.le_of_ble_eq_true rfl) rfl dX10_march_133 rfl (fun _ m26 => ?_)
        refine rf_iload_n C (n := 137) (q := 4) dX10_march_136 rfl rfl rfl ?_
        refine rf_iload C (n := 139) (q := 0) dX10_march_137 rfl rfl ?_
        refine rf_callSi C (n := 142) (c_X10_later G fu _ _ _) sw_RX10_357 ⟨by decide, by decide⟩ rfl (Nat.le_of_ble_eq_true rfl) rfl dX10_march_139 rfl (fun y27 m28 => ?_)
        exact rf_iret C K dX10_march_142
      · refine rf_iconst C (n := 29) (v := (-1)) dX10_march_28 rfl (by decide) ?_
        exact rf_iret C K dX10_march_29
noncomputable def f_X10_keep (fu : Nat) (x1 : Int32) (m : hM) : Option (Int32 × hM) :=
  if x1 < 0 then (
some (0, m)) else (
if x1 < 3 then (
if hIn x1 3 then (
hBd (f_X7_copyFrom fu (69 + 9 * (Int32.toNatClampNeg x1)) 46 m) fun _ m4 =>
if hIn x1 3 then (
hLet (sI m4 65 (Int32.toNatClampNeg x1) (gI m4 18 6)) fun m6 =>
some (1, m6)) else none) else none) else (
some (0, m)))
set_option maxRecDepth 100000 in
set_option maxHeartbeats 4000000 in
theorem c_X10_keep (G : hG) (fu : Nat) (x1 : Int32) (m : hM) : Mt vI G 3 yX10_keep cX10_keep 2 (some .boolean) [hA G 0, .int x1] m (f_X10_keep fu x1 m) := by
  refine mt_of (by decide +kernel) (Nat.le_of_ble_eq_true rfl) (fun X C K => ?_)
  have C : Cx G X 3 cX10_keep 2 RX10 (some .boolean) := C
  show Rf vI G X 0 [(0, hA G 0), (1, .int x1)] [] m _
  unfold f_X10_keep
  refine rf_iload_n C (n := 1) (q := 1) dX10_keep_0 rfl rfl rfl ?_
  refine rf_if_lt C (tgt := 13) (n := 4) dX10_keep_1 (by decide) rfl (fun h1 => ?_) (fun h1 => ?_)
  · refine rf_iconst C (n := 14) (v := 0) dX10_keep_13 rfl (by decide) ?_
    exact rf_zret C K (by decide) dX10_keep_14
  · refine rf_iload_n C (n := 5) (q := 1) dX10_keep_4 rfl rfl rfl ?_
    refine rf_aload_n C (n := 6) (q := 0) dX10_keep_5 rfl rfl rfl ?_
    refine rf_getS C (n := 9) fl_RX10_72 ly_0 rfl dX10_keep_6 rfl ?_
    refine rf_alenR C (n := 10) (v := 3) ly_64 (by decide) dX10_keep_9 rfl ?_
    refine rf_icmp_lt C (tgt := 15) (n := 13) dX10_keep_10 (by decide) rfl (fun h2 => ?_) (fun h2 => ?_)
    · refine rf_aload_n C (n := 16) (q := 0) dX10_keep_15 rfl rfl rfl ?_
      refine rf_getS C (n := 19) fl_RX10_72 ly_0 rfl dX10_keep_16 rfl ?_
      refine rf_iload_n C (n := 20) (q := 1) dX10_keep_19 rfl rfl rfl ?_
      refine rf_guard (fun h3 => ?_)
      refine rf_aaldS C (n := 21) ly_64 h3 (kp_r h3) dX10_keep_20 rfl ?_
      refine rf_aload_n C (n := 22) (q := 0) dX10_keep_21 rfl rfl rfl ?_
      refine rf_getS C (n := 25) fl_RX10_65 ly_0 rfl dX10_keep_22 rfl ?_
      refine rf_callVv C (n := 28) (c_X7_copyFrom G fu _ _ _) mw_RX10_403 (pS_l (kp_o h3)) rfl ⟨by decide, by decide⟩ rfl (Nat.le_of_ble_eq_true rfl) rfl dX10_keep_25 rfl (fun _ m4 => ?_)
      refine rf_aload_n C (n := 29) (q := 0) dX10_keep_28 rfl rfl rfl ?_
      refine rf_getS C (n := 32) fl_RX10_76 ly_0 rfl dX10_keep_29 rfl ?_
      refine rf_iload_n C (n := 33) (q := 1) dX10_keep_32 rfl rfl rfl ?_
      refine rf_aload_n C (n := 34) (q := 0) dX10_keep_33 rfl rfl rfl ?_
      refine rf_getS C (n := 37) fl_RX10_19 ly_0 rfl dX10_keep_34 rfl ?_
      refine rf_getI C (n := 40) fl_RX10_177 ly_18 rfl dX10_keep_37 rfl ?_
      refine rf_guard (fun h5 => ?_)
      refine rf_iast C (n := 41) ly_65 h5 rfl dX10_keep_40 rfl ?_
      refine rf_letM (fun m6 => ?_)
      refine rf_iconst C (n := 42) (v := 1) dX10_keep_41 rfl (by decide) ?_
      exact rf_zret C K (by decide) dX10_keep_42
    · refine rf_iconst C (n := 14) (v := 0) dX10_keep_13 rfl (by decide) ?_
      exact rf_zret C K (by decide) dX10_keep_14
noncomputable def f_X10_again (fu : Nat) (x1 : Int32) (m : hM) : Option (Int32 × hM) :=
  if x1 < 0 then (
some (0, m)) else (
if 3 ≤ x1 then (
some (0, m)) else (
if hIn x1 3 then (
if (gI m 65 (Int32.toNatClampNeg x1)) = (gI m 18 6) then (
if hIn x1 3 then (
hBd (f_X7_copyFrom fu 46 (69 + 9 * (Int32.toNatClampNeg x1)) m) fun _ m6 =>
some (1, m6)) else none) else (
some (0, m))) else none))
set_option maxRecDepth 100000 in
set_option maxHeartbeats 4000000 in
theorem c_X10_again (G : hG) (fu : Nat) (x1 : Int32) (m : hM) : Mt vI G 3 yX10_again cX10_again 2 (some .boolean) [hA G 0, .int x1] m (f_X10_again fu x1 m) := by
  refine mt_of (by decide +kernel) (Nat.le_of_ble_eq_true rfl) (fun X C K => ?_)
  have C : Cx G X 3 cX10_again 2 RX10 (some .boolean) := C
  show Rf vI G X 0 [(0, hA G 0), (1, .int x1)] [] m _
  unfold f_X10_again
  refine rf_iload_n C (n := 1) (q := 1) dX10_again_0 rfl rfl rfl ?_
  refine rf_if_lt C (tgt := 29) (n := 4) dX10_again_1 (by decide) rfl (fun h1 => ?_) (fun h1 => ?_)
  · refine rf_iconst C (n := 30) (v := 0) dX10_again_29 rfl (by decide) ?_
    exact rf_zret C K (by decide) dX10_again_30
  · refine rf_iload_n C (n := 5) (q := 1) dX10_again_4 rfl rfl rfl ?_
    refine rf_aload_n C (n := 6) (q := 0) dX10_again_5 rfl rfl rfl ?_
    refine rf_getS C (n := 9) fl_RX10_72 ly_0 rfl dX10_again_6 rfl ?_
    refine rf_alenR C (n := 10) (v := 3) ly_64 (by decide) dX10_again_9 rfl ?_
    refine rf_icmp_ge C (tgt := 29) (n := 13) dX10_again_10 (by decide) rfl (fun h2 => ?_) (fun h2 => ?_)
    · refine rf_iconst C (n := 30) (v := 0) dX10_again_29 rfl (by decide) ?_
      exact rf_zret C K (by decide) dX10_again_30
    · refine rf_aload_n C (n := 14) (q := 0) dX10_again_13 rfl rfl rfl ?_
      refine rf_getS C (n := 17) fl_RX10_76 ly_0 rfl dX10_again_14 rfl ?_
      refine rf_iload_n C (n := 18) (q := 1) dX10_again_17 rfl rfl rfl ?_
      refine rf_guard (fun h3 => ?_)
      refine rf_iald C (n := 19) ly_65 h3 rfl dX10_again_18 rfl ?_
      refine rf_aload_n C (n := 20) (q := 0) dX10_again_19 rfl rfl rfl ?_
      refine rf_getS C (n := 23) fl_RX10_19 ly_0 rfl dX10_again_20 rfl ?_
      refine rf_getI C (n := 26) fl_RX10_177 ly_18 rfl dX10_again_23 rfl ?_
      refine rf_icmp_eq C (tgt := 31) (n := 29) dX10_again_26 (by decide) rfl (fun h4 => ?_) (fun h4 => ?_)
      · refine rf_aload_n C (n := 32) (q := 0) dX10_again_31 rfl rfl rfl ?_
        refine rf_getS C (n := 35) fl_RX10_65 ly_0 rfl dX10_again_32 rfl ?_
        refine rf_aload_n C (n := 36) (q := 0) dX10_again_35 rfl rfl rfl ?_
        refine rf_getS C (n := 39) fl_RX10_72 ly_0 rfl dX10_again_36 rfl ?_
        refine rf_iload_n C (n := 40) (q := 1) dX10_again_39 rfl rfl rfl ?_
        refine rf_guard (fun h5 => ?_)
        refine rf_aaldS C (n := 41) ly_64 h5 (kp_r h5) dX10_again_40 rfl ?_
        refine rf_callVv C (n := 44) (c_X7_copyFrom G fu _ _ _) mw_RX10_403 ly_46 rfl ⟨by decide, by decide⟩ rfl (Nat.le_of_ble_eq_true rfl) rfl dX10_again_41 rfl (fun _ m6 => ?_)
        refine rf_iconst C (n := 45) (v := 1) dX10_again_44 rfl (by decide) ?_
        exact rf_zret C K (by decide) dX10_again_45
      · refine rf_iconst C (n := 30) (v := 0) dX10_again_29 rfl (by decide) ?_
        exact rf_zret C K (by decide) dX10_again_30
noncomputable def f_X10_count (fu : Nat) (x1 : Int32) (m : hM) : Option (Int32 × hM) :=
  if x1 = 0 then (
some (gI m 1 4, m)) else if x1 = 1 then (
some (gI m 18 6, m)) else if x1 = 2 then (
some (gI m 46 0, m)) else if x1 = 3 then (
some (gI m 46 1, m)) else if x1 = 4 then (
some (gI m 41 4, m)) else if x1 = 5 then (
hBd (f_X7_allHandings fu 46 m) fun y7 m8 =>
some (y7, m8)) else if x1 = 6 then (
hBd (f_X7_allLost fu 46 m) fun y10 m11 =>
some (y10, m11)) else if x1 = 7 then (
some (gI m 46 10, m)) else if x1 = 8 then (
some (gI m 66 1, m)) else if x1 = 9 then (
some (gI m 0 13, m)) else (
some ((-1), m))
set_option maxRecDepth 100000 in
set_option maxHeartbeats 4000000 in
theorem c_X10_count (G : hG) (fu : Nat) (x1 : Int32) (m : hM) : Mt vI G 2 yX10_count cX10_count 2 (some .int) [hA G 0, .int x1] m (f_X10_count fu x1 m) := by
  refine mt_of (by decide +kernel) (Nat.le_of_ble_eq_true rfl) (fun X C K => ?_)
  have C : Cx G X 2 cX10_count 2 RX10 (some .int) := C
  show Rf vI G X 0 [(0, hA G 0), (1, .int x1)] [] m _
  unfold f_X10_count
  refine rf_iload_n C (n := 1) (q := 1) dX10_count_0 rfl rfl rfl ?_
  refine rf_sw (fun h1 => ?_) (fun h1 => ?_)
  · refine rf_tabIn C (n := 56) (off := 55) dX10_count_1 h1 (by decide) (by decide) (by decide) (by decide) ?_
    refine rf_aload_n C (n := 57) (q := 0) dX10_count_56 rfl rfl rfl ?_
    refine rf_getS C (n := 60) fl_RX10_12 ly_0 rfl dX10_count_57 rfl ?_
    refine rf_getI C (n := 63) fl_RX10_95 ly_1 rfl dX10_count_60 rfl ?_
    exact rf_iret C K dX10_count_63
  refine rf_sw (fun h2 => ?_) (fun h2 => ?_)
  · refine rf_tabIn C (n := 64) (off := 63) dX10_count_1 h2 (by decide) (by decide) (by decide) (by decide) ?_
    refine rf_aload_n C (n := 65) (q := 0) dX10_count_64 rfl rfl rfl ?_
    refine rf_getS C (n := 68) fl_RX10_19 ly_0 rfl dX10_count_65 rfl ?_
    refine rf_getI C (n := 71) fl_RX10_177 ly_18 rfl dX10_count_68 rfl ?_
    exact rf_iret C K dX10_count_71
  refine rf_sw (fun h3 => ?_) (fun h3 => ?_)
  · refine rf_tabIn C (n := 72) (off := 71) dX10_count_1 h3 (by decide) (by decide) (by decide) (by decide) ?_
    refine rf_aload_n C (n := 73) (q := 0) dX10_count_72 rfl rfl rfl ?_
    refine rf_getS C (n := 76) fl_RX10_65 ly_0 rfl dX10_count_73 rfl ?_
    refine rf_getI C (n := 79) fl_RX10_218 ly_46 rfl dX10_count_76 rfl ?_
    exact rf_iret C K dX10_count_79
  refine rf_sw (fun h4 => ?_) (fun h4 => ?_)
  · refine rf_tabIn C (n := 80) (off := 79) dX10_count_1 h4 (by decide) (by decide) (by decide) (by decide) ?_
    refine rf_aload_n C (n := 81) (q := 0) dX10_count_80 rfl rfl rfl ?_
    refine rf_getS C (n := 84) fl_RX10_65 ly_0 rfl dX10_count_81 rfl ?_
    refine rf_getI C (n := 87) fl_RX10_260 ly_46 rfl dX10_count_84 rfl ?_
    exact rf_iret C K dX10_count_87
  refine rf_sw (fun h5 => ?_) (fun h5 => ?_)
  · refine rf_tabIn C (n := 88) (off := 87) dX10_count_1 h5 (by decide) (by decide) (by decide) (by decide) ?_
    refine rf_aload_n C (n := 89) (q := 0) dX10_count_88 rfl rfl rfl ?_
    refine rf_getS C (n := 92) fl_RX10_58 ly_0 rfl dX10_count_89 rfl ?_
    refine rf_getI C (n := 95) fl_RX10_333 ly_41 rfl dX10_count_92 rfl ?_
    exact rf_iret C K dX10_count_95
  refine rf_sw (fun h6 => ?_) (fun h6 => ?_)
  · refine rf_tabIn C (n := 96) (off := 95) dX10_count_1 h6 (by decide) (by decide) (by decide) (by decide) ?_
    refine rf_aload_n C (n := 97) (q := 0) dX10_count_96 rfl rfl rfl ?_
    refine rf_getS C (n := 100) fl_RX10_65 ly_0 rfl dX10_count_97 rfl ?_
    refine rf_callVi C (n := 103) (c_X7_allHandings G fu _ _) mw_RX10_274 ly_46 rfl ⟨by decide, by decide⟩ rfl (Nat.le_of_ble_eq_true rfl) rfl dX10_count_100 rfl (fun y7 m8 => ?_)
    exact rf_iret C K dX10_count_103
  refine rf_sw (fun h9 => ?_) (fun h9 => ?_)
  · refine rf_tabIn C (n := 104) (off := 103) dX10_count_1 h9 (by decide) (by decide) (by decide) (by decide) ?_
    refine rf_aload_n C (n := 105) (q := 0) dX10_count_104 rfl rfl rfl ?_
    refine rf_getS C (n := 108) fl_RX10_65 ly_0 rfl dX10_count_105 rfl ?_
    refine rf_callVi C (n := 111) (c_X7_allLost G fu _ _) mw_RX10_278 ly_46 rfl ⟨by decide, by decide⟩ rfl (Nat.le_of_ble_eq_true rfl) rfl dX10_count_108 rfl (fun y10 m11 => ?_)
    exact rf_iret C K dX10_count_111
  refine rf_sw (fun h12 => ?_) (fun h12 => ?_)
  · refine rf_tabIn C (n := 112) (off := 111) dX10_count_1 h12 (by decide) (by decide) (by decide) (by decide) ?_
    refine rf_aload_n C (n := 113) (q := 0) dX10_count_112 rfl rfl rfl ?_
    refine rf_getS C (n := 116) fl_RX10_65 ly_0 rfl dX10_count_113 rfl ?_
    refine rf_getI C (n := 119) fl_RX10_281 ly_46 rfl dX10_count_116 rfl ?_
    exact rf_iret C K dX10_count_119
  refine rf_sw (fun h13 => ?_) (fun h13 => ?_)
  · refine rf_tabIn C (n := 120) (off := 119) dX10_count_1 h13 (by decide) (by decide) (by decide) (by decide) ?_
    refine rf_aload_n C (n := 121) (q := 0) dX10_count_120 rfl rfl rfl ?_
    refine rf_getS C (n := 124) fl_RX10_83 ly_0 rfl dX10_count_121 rfl ?_
    refine rf_getI C (n := 127) fl_RX10_406 ly_66 rfl dX10_count_124 rfl ?_
    exact rf_iret C K dX10_count_127
  refine rf_sw (fun h14 => ?_) (fun h14 => ?_)
  · refine rf_tabIn C (n := 128) (off := 127) dX10_count_1 h14 (by decide) (by decide) (by decide) (by decide) ?_
    refine rf_aload_n C (n := 129) (q := 0) dX10_count_128 rfl rfl rfl ?_
    refine rf_getI C (n := 132) fl_RX10_91 ly_0 rfl dX10_count_129 rfl ?_
    exact rf_iret C K dX10_count_132
  refine rf_tabD C (n := 133) dX10_count_1 [0, 1, 2, 3, 4, 5, 6, 7, 8, 9] (by intro c hc; simp only [List.mem_cons, List.not_mem_nil, or_false] at hc; rcases hc with rfl | rfl | rfl | rfl | rfl | rfl | rfl | rfl | rfl | rfl <;> assumption) (by decide) (by decide) (by decide) ?_
  refine rf_iconst C (n := 134) (v := (-1)) dX10_count_133 rfl (by decide) ?_
  exact rf_iret C K dX10_count_134
noncomputable def f_X11_thrown (fu : Nat) (m : hM) : Option (Int32 × hM) :=
  some (gI m 96 0, m)
set_option maxRecDepth 100000 in
set_option maxHeartbeats 4000000 in
theorem c_X11_thrown (G : hG) (fu : Nat) (m : hM) : Mt vI G 1 yX11_thrown cX11_thrown 1 (some .int) [hA G 96] m (f_X11_thrown fu m) := by
  refine mt_of (by decide +kernel) (Nat.le_of_ble_eq_true rfl) (fun X C K => ?_)
  have C : Cx G X 1 cX11_thrown 1 RX11 (some .int) := C
  show Rf vI G X 0 [(0, hA G 96)] [] m _
  unfold f_X11_thrown
  refine rf_aload_n C (n := 1) (q := 0) dX11_thrown_0 rfl rfl rfl ?_
  refine rf_getI C (n := 4) fl_RX11_3 ly_96 rfl dX11_thrown_1 rfl ?_
  exact rf_iret C K dX11_thrown_4
noncomputable def f_X11_in (fu : Nat) (x0 : Int64) (x2 : Int64) (x4 : Int64) (m : hM) : Option (Int32 × hM) :=
  if (lg_cmp x0 x2) < 0 then (
some (0, m)) else (
if 0 < (lg_cmp x0 x4) then (
some (0, m)) else (
some (1, m)))
set_option maxRecDepth 100000 in
set_option maxHeartbeats 4000000 in
theorem c_X11_in (G : hG) (fu : Nat) (x0 : Int64) (x2 : Int64) (x4 : Int64) (m : hM) : Mt vI G 1 yX11_in cX11_in 6 (some .boolean) [.long x0, .long x2, .long x4] m (f_X11_in fu x0 x2 x4 m) := by
  refine mt_of (by decide +kernel) (Nat.le_of_ble_eq_true rfl) (fun X C K => ?_)
  have C : Cx G X 1 cX11_in 6 RX11 (some .boolean) := C
  show Rf vI G X 0 [(0, .long x0), (2, .long x2), (4, .long x4)] [] m _
  unfold f_X11_in
  refine rf_lload_n C (n := 1) (q := 0) dX11_in_0 rfl rfl rfl ?_
  refine rf_lload_n C (n := 2) (q := 1) dX11_in_1 rfl rfl rfl ?_
  refine rf_lcmp C (n := 3) dX11_in_2 rfl ?_
  refine rf_if_lt C (tgt := 17) (n := 6) dX11_in_3 (by decide) rfl (fun h1 => ?_) (fun h1 => ?_)
  · refine rf_iconst C (n := 18) (v := 0) dX11_in_17 rfl (by decide) ?_
    exact rf_zret C K (by decide) dX11_in_18
  · refine rf_lload_n C (n := 7) (q := 0) dX11_in_6 rfl rfl rfl ?_
    refine rf_lload C (n := 9) (q := 2) dX11_in_7 rfl rfl ?_
    refine rf_lcmp C (n := 10) dX11_in_9 rfl ?_
    refine rf_if_gt C (tgt := 17) (n := 13) dX11_in_10 (by decide) rfl (fun h2 => ?_) (fun h2 => ?_)
    · refine rf_iconst C (n := 18) (v := 0) dX11_in_17 rfl (by decide) ?_
      exact rf_zret C K (by decide) dX11_in_18
    · refine rf_iconst C (n := 14) (v := 1) dX11_in_13 rfl (by decide) ?_
      refine rf_goto C (n := 18) dX11_in_14 (by decide) ?_
      exact rf_zret C K (by decide) dX11_in_18
noncomputable def f_X11_has (fu : Nat) (x0 : Int32) (x1 : Int32) (m : hM) : Option (Int32 × hM) :=
  if ¬ ((x0 >>> (x1 &&& 31)) &&& 1) = 1 then (
some (0, m)) else (
some (1, m))
set_option maxRecDepth 100000 in
set_option maxHeartbeats 4000000 in
theorem c_X11_has (G : hG) (fu : Nat) (x0 : Int32) (x1 : Int32) (m : hM) : Mt vI G 1 yX11_has cX11_has 2 (some .boolean) [.int x0, .int x1] m (f_X11_has fu x0 x1 m) := by
  refine mt_of (by decide +kernel) (Nat.le_of_ble_eq_true rfl) (fun X C K => ?_)
  have C : Cx G X 1 cX11_has 2 RX11 (some .boolean) := C
  show Rf vI G X 0 [(0, .int x0), (1, .int x1)] [] m _
  unfold f_X11_has
  refine rf_iload_n C (n := 1) (q := 0) dX11_has_0 rfl rfl rfl ?_
  refine rf_iload_n C (n := 2) (q := 1) dX11_has_1 rfl rfl rfl ?_
  refine rf_ishr C (n := 3) dX11_has_2 rfl ?_
  refine rf_iconst C (n := 4) (v := 1) dX11_has_3 rfl (by decide) ?_
  refine rf_iand C (n := 5) dX11_has_4 rfl ?_
  refine rf_iconst C (n := 6) (v := 1) dX11_has_5 rfl (by decide) ?_
  refine rf_icmp_ne C (tgt := 13) (n := 9) dX11_has_6 (by decide) rfl (fun h1 => ?_) (fun h1 => ?_)
  · refine rf_iconst C (n := 14) (v := 0) dX11_has_13 rfl (by decide) ?_
    exact rf_zret C K (by decide) dX11_has_14
  · refine rf_iconst C (n := 10) (v := 1) dX11_has_9 rfl (by decide) ?_
    refine rf_goto C (n := 14) dX11_has_10 (by decide) ?_
    exact rf_zret C K (by decide) dX11_has_14
noncomputable def f_X11_flag (fu : Nat) (x0 : Int32) (m : hM) : Option (Int32 × hM) :=
  if x0 = 0 then (
some (0, m)) else (
some (1, m))
set_option maxRecDepth 100000 in
set_option maxHeartbeats 4000000 in
theorem c_X11_flag (G : hG) (fu : Nat) (x0 : Int32) (m : hM) : Mt vI G 1 yX11_flag cX11_flag 1 (some .int) [.int x0] m (f_X11_flag fu x0 m) := by
  refine mt_of (by decide +kernel) (Nat.le_of_ble_eq_true rfl) (fun X C K => ?_)
  have C : Cx G X 1 cX11_flag 1 RX11 (some .int) := C
  show Rf vI G X 0 [(0, .int x0)] [] m _
  unfold f_X11_flag
  refine rf_iload_n C (n := 1) (q := 0) dX11_flag_0 rfl rfl rfl ?_
  refine rf_if_eq C (tgt := 8) (n := 4) dX11_flag_1 (by decide) rfl (fun h1 => ?_) (fun h1 => ?_)
  · refine rf_iconst C (n := 9) (v := 0) dX11_flag_8 rfl (by decide) ?_
    exact rf_iret C K dX11_flag_9
  · refine rf_iconst C (n := 5) (v := 1) dX11_flag_4 rfl (by decide) ?_
    refine rf_goto C (n := 9) dX11_flag_5 (by decide) ?_
    exact rf_iret C K dX11_flag_9
noncomputable def f_X11_refuse (fu : Nat) (m : hM) : Option (Int32 × hM) :=
  hLet (sI m 96 0 1) fun m1 =>
some (0, m1)
set_option maxRecDepth 100000 in
set_option maxHeartbeats 4000000 in
theorem c_X11_refuse (G : hG) (fu : Nat) (m : hM) : Mt vI G 1 yX11_refuse cX11_refuse 1 (some .int) [hA G 96] m (f_X11_refuse fu m) := by
  refine mt_of (by decide +kernel) (Nat.le_of_ble_eq_true rfl) (fun X C K => ?_)
  have C : Cx G X 1 cX11_refuse 1 RX11 (some .int) := C
  show Rf vI G X 0 [(0, hA G 96)] [] m _
  unfold f_X11_refuse
  refine rf_aload_n C (n := 1) (q := 0) dX11_refuse_0 rfl rfl rfl ?_
  refine rf_iconst C (n := 2) (v := 1) dX11_refuse_1 rfl (by decide) ?_
  refine rf_putI C (n := 5) pl_RX11_3 ly_96 rfl ⟨rfl, rfl⟩ dX11_refuse_2 rfl ?_
  refine rf_letM (fun m1 => ?_)
  refine rf_iconst C (n := 6) (v := 0) dX11_refuse_5 rfl (by decide) ?_
  exact rf_iret C K dX11_refuse_6
noncomputable def f_X11_enters (fu : Nat) (x1 : Int64) (m : hM) : Option (Unit × hM) :=
  if hIn (gI m 96 1) 24 then (
hLet (sL m 97 (Int32.toNatClampNeg (gI m 96 1)) x1) fun m2 =>
hLet (sI m2 96 1 ((gI m2 96 1) + 1)) fun m3 =>
some ((), m3)) else none
set_option maxRecDepth 100000 in
set_option maxHeartbeats 4000000 in
theorem c_X11_enters (G : hG) (fu : Nat) (x1 : Int64) (m : hM) : Mt vU G 1 yX11_enters cX11_enters 3 none [hA G 96, .long x1] m (f_X11_enters fu x1 m) := by
  refine mt_of (by decide +kernel) (Nat.le_of_ble_eq_true rfl) (fun X C K => ?_)
  have C : Cx G X 1 cX11_enters 3 RX11 none := C
  show Rf vU G X 0 [(0, hA G 96), (1, .long x1)] [] m _
  unfold f_X11_enters
  refine rf_aload_n C (n := 1) (q := 0) dX11_enters_0 rfl rfl rfl ?_
  refine rf_getS C (n := 4) fl_RX11_7 ly_96 rfl dX11_enters_1 rfl ?_
  refine rf_aload_n C (n := 5) (q := 0) dX11_enters_4 rfl rfl rfl ?_
  refine rf_getI C (n := 8) fl_RX11_11 ly_96 rfl dX11_enters_5 rfl ?_
  refine rf_lload_n C (n := 9) (q := 1) dX11_enters_8 rfl rfl rfl ?_
  refine rf_guard (fun h1 => ?_)
  refine rf_last C (n := 10) ly_97 h1 rfl dX11_enters_9 rfl ?_
  refine rf_letM (fun m2 => ?_)
  refine rf_aload_n C (n := 11) (q := 0) dX11_enters_10 rfl rfl rfl ?_
  refine rf_dup C (n := 12) dX11_enters_11 rfl rfl ?_
  refine rf_getI C (n := 15) fl_RX11_11 ly_96 rfl dX11_enters_12 rfl ?_
  refine rf_iconst C (n := 16) (v := 1) dX11_enters_15 rfl (by decide) ?_
  refine rf_iadd C (n := 17) dX11_enters_16 rfl ?_
  refine rf_putI C (n := 20) pl_RX11_11 ly_96 rfl ⟨rfl, rfl⟩ dX11_enters_17 rfl ?_
  refine rf_letM (fun m3 => ?_)
  exact rf_vret C K dX11_enters_20
noncomputable def s_X11_common_6 (fu : Nat) (ih : Int64 → Int64 → hM → Option (Int64 × hM)) (x4 : Int64) (x6 : Int64) (m : hM) : Option (Int64 × hM) :=
  if (lg_cmp x6 0) = 0 then (
some (x4, m)) else (
if ¬ x6 = 0 then (
hLet (x4 - x4 / x6 * x6) fun y3 =>
ih x6 y3 m) else none)
noncomputable def f_X11_common_6 (fu : Nat) (n : Nat) : Int64 → Int64 → hM → Option (Int64 × hM) :=
  Nat.rec (motive := fun _ => Int64 → Int64 → hM → Option (Int64 × hM)) (fun _ _ _ => none) (fun _ ih => s_X11_common_6 fu ih) n
theorem f_X11_common_6_s (fu : Nat) (n : Nat) (x4 : Int64) (x6 : Int64) (m : hM) : f_X11_common_6 fu (n + 1) x4 x6 m = s_X11_common_6 fu (f_X11_common_6 fu n) x4 x6 m := rfl
set_option maxRecDepth 100000 in
set_option maxHeartbeats 4000000 in
theorem r_X11_common_6 {G : hG} {X : hX} (C : Cx G X 1 cX11_common 10 RX11 (some .long)) (K : Cr G X) (fu : Nat) (n : Nat) : ∀ (x4 : Int64) (x6 : Int64) (m : hM), Rf vJ G X 6 [(4, .long x4), (6, .long x6)] [] m (f_X11_common_6 fu n x4 x6 m) := by
  induction n with
  | zero => intros; exact rf_none
  | succ n ih =>
    intro x4 x6 m
    show Rf vJ G X 6 [(4, .long x4), (6, .long x6)] [] m (s_X11_common_6 fu (f_X11_common_6 fu n) x4 x6 m)
    unfold s_X11_common_6
    refine rf_lload C (n := 8) (q := 1) dX11_common_6 rfl rfl ?_
    refine rf_lconst C (n := 9) (v := 0) dX11_common_8 rfl (by decide) ?_
    refine rf_lcmp C (n := 10) dX11_common_9 rfl ?_
    refine rf_if_eq C (tgt := 31) (n := 13) dX11_common_10 (by decide) rfl (fun h1 => ?_) (fun h1 => ?_)
    · refine rf_lload C (n := 33) (q := 0) dX11_common_31 rfl rfl ?_
      exact rf_lret C K dX11_common_33
    · refine rf_lload C (n := 15) (q := 0) dX11_common_13 rfl rfl ?_
      refine rf_lload C (n := 17) (q := 1) dX11_common_15 rfl rfl ?_
      refine rf_guard (fun h2 => ?_)
      refine rf_lrem C (n := 18) dX11_common_17 rfl h2 ?_
      refine rf_letL (fun y3 => ?_)
      refine rf_lstore C (n := 20) [(8, .long y3), (4, .long x4), (6, .long x6)] dX11_common_18 rfl (by decide) rfl ?_
      refine rf_lload C (n := 22) (q := 2) dX11_common_20 rfl rfl ?_
      refine rf_lstore C (n := 24) [(4, .long x6), (8, .long y3), (6, .long x6)] dX11_common_22 rfl (by decide) rfl ?_
      refine rf_lload C (n := 26) (q := 1) dX11_common_24 rfl rfl ?_
      refine rf_lstore C (n := 28) [(6, .long y3), (4, .long x6), (8, .long y3)] dX11_common_26 rfl (by decide) rfl ?_
      refine rf_goto C (n := 6) dX11_common_28 (by decide) ?_
      exact rf_lv _ [1, 0] rfl (ih _ _ _)
noncomputable def f_X11_common (fu : Nat) (x0 : Int64) (x2 : Int64) (m : hM) : Option (Int64 × hM) :=
  f_X11_common_6 fu fu x0 x2 m
set_option maxRecDepth 100000 in
set_option maxHeartbeats 4000000 in
theorem c_X11_common (G : hG) (fu : Nat) (x0 : Int64) (x2 : Int64) (m : hM) : Mt vJ G 1 yX11_common cX11_common 10 (some .long) [.long x0, .long x2] m (f_X11_common fu x0 x2 m) := by
  refine mt_of (by decide +kernel) (Nat.le_of_ble_eq_true rfl) (fun X C K => ?_)
  have C : Cx G X 1 cX11_common 10 RX11 (some .long) := C
  show Rf vJ G X 0 [(0, .long x0), (2, .long x2)] [] m _
  unfold f_X11_common
  refine rf_lload_n C (n := 1) (q := 0) dX11_common_0 rfl rfl rfl ?_
  refine rf_lstore C (n := 3) [(4, .long x0), (0, .long x0), (2, .long x2)] dX11_common_1 rfl (by decide) rfl ?_
  refine rf_lload_n C (n := 4) (q := 2) dX11_common_3 rfl rfl rfl ?_
  refine rf_lstore C (n := 6) [(6, .long x2), (4, .long x0), (0, .long x0), (2, .long x2)] dX11_common_4 rfl (by decide) rfl ?_
  exact rf_lv _ [1, 0] rfl (r_X11_common_6 C K fu fu _ _ _)
noncomputable def f_X11_entersFraction (fu : Nat) (x1 : Int64) (x3 : Int64) (m : hM) : Option (Unit × hM) :=
  hBd (f_X11_common fu x1 x3 m) fun y1 m2 =>
if ¬ y1 = 0 then (
hBd (f_X11_enters fu (x1 / y1) m2) fun _ m4 =>
if ¬ y1 = 0 then (
hBd (f_X11_enters fu (x3 / y1) m4) fun _ m6 =>
some ((), m6)) else none) else none
set_option maxRecDepth 100000 in
set_option maxHeartbeats 4000000 in
theorem c_X11_entersFraction (G : hG) (fu : Nat) (x1 : Int64) (x3 : Int64) (m : hM) : Mt vU G 2 yX11_entersFraction cX11_entersFraction 7 none [hA G 96, .long x1, .long x3] m (f_X11_entersFraction fu x1 x3 m) := by
  refine mt_of (by decide +kernel) (Nat.le_of_ble_eq_true rfl) (fun X C K => ?_)
  have C : Cx G X 2 cX11_entersFraction 7 RX11 none := C
  show Rf vU G X 0 [(0, hA G 96), (1, .long x1), (3, .long x3)] [] m _
  unfold f_X11_entersFraction
  refine rf_lload_n C (n := 1) (q := 1) dX11_entersFraction_0 rfl rfl rfl ?_
  refine rf_lload_n C (n := 2) (q := 2) dX11_entersFraction_1 rfl rfl rfl ?_
  refine rf_callSl C (n := 5) (c_X11_common G fu _ _ _) sw_RX11_14 ⟨by decide, by decide⟩ rfl (Nat.le_of_ble_eq_true rfl) rfl dX11_entersFraction_2 rfl (fun y1 m2 => ?_)
  refine rf_lstore C (n := 7) [(5, .long y1), (0, hA G 96), (1, .long x1), (3, .long x3)] dX11_entersFraction_5 rfl (by decide) rfl ?_
  refine rf_aload_n C (n := 8) (q := 1) dX11_entersFraction_7 rfl rfl rfl ?_
  refine rf_lload_n C (n := 9) (q := 2) dX11_entersFraction_8 rfl rfl rfl ?_
  refine rf_lload C (n := 11) (q := 0) dX11_entersFraction_9 rfl rfl ?_
  refine rf_guard (fun h3 => ?_)
  refine rf_ldiv C (n := 12) dX11_entersFraction_11 rfl h3 ?_
  refine rf_callVv C (n := 15) (c_X11_enters G fu _ _) mw_RX11_18 ly_96 rfl ⟨by decide, by decide⟩ rfl (Nat.le_of_ble_eq_true rfl) rfl dX11_entersFraction_12 rfl (fun _ m4 => ?_)
  refine rf_aload_n C (n := 16) (q := 1) dX11_entersFraction_15 rfl rfl rfl ?_
  refine rf_lload_n C (n := 17) (q := 3) dX11_entersFraction_16 rfl rfl rfl ?_
  refine rf_lload C (n := 19) (q := 0) dX11_entersFraction_17 rfl rfl ?_
  refine rf_guard (fun h5 => ?_)
  refine rf_ldiv C (n := 20) dX11_entersFraction_19 rfl h5 ?_
  refine rf_callVv C (n := 23) (c_X11_enters G fu _ _) mw_RX11_18 ly_96 rfl ⟨by decide, by decide⟩ rfl (Nat.le_of_ble_eq_true rfl) rfl dX11_entersFraction_20 rfl (fun _ m6 => ?_)
  exact rf_vret C K dX11_entersFraction_23
noncomputable def f_X11_isOffice (fu : Nat) (x1 : Int32) (m : hM) : Option (Int32 × hM) :=
  hBd (f_X11_in fu (Int32.toInt64 x1) 0 (Int32.toInt64 ((gI m 96 3) - 1)) m) fun y1 m2 =>
if y1 = 0 ∨ y1 = 1 then (
some (y1, m2)) else none
set_option maxRecDepth 100000 in
set_option maxHeartbeats 4000000 in
theorem c_X11_isOffice (G : hG) (fu : Nat) (x1 : Int32) (m : hM) : Mt vI G 2 yX11_isOffice cX11_isOffice 2 (some .boolean) [hA G 96, .int x1] m (f_X11_isOffice fu x1 m) := by
  refine mt_of (by decide +kernel) (Nat.le_of_ble_eq_true rfl) (fun X C K => ?_)
  have C : Cx G X 2 cX11_isOffice 2 RX11 (some .boolean) := C
  show Rf vI G X 0 [(0, hA G 96), (1, .int x1)] [] m _
  unfold f_X11_isOffice
  refine rf_iload_n C (n := 1) (q := 1) dX11_isOffice_0 rfl rfl rfl ?_
  refine rf_i2l C (n := 2) dX11_isOffice_1 rfl ?_
  refine rf_lconst C (n := 3) (v := 0) dX11_isOffice_2 rfl (by decide) ?_
  refine rf_aload_n C (n := 4) (q := 0) dX11_isOffice_3 rfl rfl rfl ?_
  refine rf_getI C (n := 7) fl_RX11_22 ly_96 rfl dX11_isOffice_4 rfl ?_
  refine rf_iconst C (n := 8) (v := 1) dX11_isOffice_7 rfl (by decide) ?_
  refine rf_isub C (n := 9) dX11_isOffice_8 rfl ?_
  refine rf_i2l C (n := 10) dX11_isOffice_9 rfl ?_
  refine rf_callSi C (n := 13) (c_X11_in G fu _ _ _ _) sw_RX11_25 ⟨by decide, by decide⟩ rfl (Nat.le_of_ble_eq_true rfl) rfl dX11_isOffice_10 rfl (fun y1 m2 => ?_)
  refine rf_guard (fun h3 => ?_)
  exact rf_zret C K (hz_bool h3).1 dX11_isOffice_13
noncomputable def f_X11_isHour (fu : Nat) (x0 : Int32) (m : hM) : Option (Int32 × hM) :=
  hBd (f_X11_in fu (Int32.toInt64 x0) 0 2399 m) fun y1 m2 =>
if y1 = 0 ∨ y1 = 1 then (
some (y1, m2)) else none
set_option maxRecDepth 100000 in
set_option maxHeartbeats 4000000 in
theorem c_X11_isHour (G : hG) (fu : Nat) (x0 : Int32) (m : hM) : Mt vI G 2 yX11_isHour cX11_isHour 1 (some .boolean) [.int x0] m (f_X11_isHour fu x0 m) := by
  refine mt_of (by decide +kernel) (Nat.le_of_ble_eq_true rfl) (fun X C K => ?_)
  have C : Cx G X 2 cX11_isHour 1 RX11 (some .boolean) := C
  show Rf vI G X 0 [(0, .int x0)] [] m _
  unfold f_X11_isHour
  refine rf_iload_n C (n := 1) (q := 0) dX11_isHour_0 rfl rfl rfl ?_
  refine rf_i2l C (n := 2) dX11_isHour_1 rfl ?_
  refine rf_lconst C (n := 3) (v := 0) dX11_isHour_2 rfl (by decide) ?_
  refine rf_ldc2 C (n := 6) dX11_isHour_3 rfl kl_RX11_29 ?_
  refine rf_callSi C (n := 9) (c_X11_in G fu _ _ _ _) sw_RX11_25 ⟨by decide, by decide⟩ rfl (Nat.le_of_ble_eq_true rfl) rfl dX11_isHour_6 rfl (fun y1 m2 => ?_)
  refine rf_guard (fun h3 => ?_)
  exact rf_zret C K (hz_bool h3).1 dX11_isHour_9
noncomputable def f_X11_opens_147 (fu : Nat) (x7 : Int32) (m : hM) : Option (Unit × hM) :=
  if hIn ((6 * x7) + x7) 36 then (
hLet (sI m 107 (Int32.toNatClampNeg ((6 * x7) + x7)) 9) fun m21 =>
hLet (sI m21 96 3 ((gI m21 96 3) + 1)) fun m22 =>
some ((), m22)) else none
set_option maxRecDepth 100000 in
set_option maxHeartbeats 4000000 in
theorem r_X11_opens_147 {G : hG} {X : hX} (C : Cx G X 1 cX11_opens 9 RX11 none) (K : Cr G X) (fu : Nat) (x7 : Int32) (m : hM) : Rf vU G X 147 [(0, hA G 96), (7, .int x7)] [] m (f_X11_opens_147 fu x7 m) := by
  unfold f_X11_opens_147
  refine rf_aload_n C (n := 148) (q := 0) dX11_opens_147 rfl rfl rfl ?_
  refine rf_getS C (n := 151) fl_RX11_60 ly_96 rfl dX11_opens_148 rfl ?_
  refine rf_bipush C (n := 153) (v := 6) dX11_opens_151 rfl (by decide) ?_
  refine rf_iload C (n := 155) (q := 1) dX11_opens_153 rfl rfl ?_
  refine rf_imul C (n := 156) dX11_opens_155 rfl ?_
  refine rf_iload C (n := 158) (q := 1) dX11_opens_156 rfl rfl ?_
  refine rf_iadd C (n := 159) dX11_opens_158 rfl ?_
  refine rf_bipush C (n := 161) (v := 9) dX11_opens_159 rfl (by decide) ?_
  refine rf_guard (fun h20 => ?_)
  refine rf_iast C (n := 162) ly_107 h20 rfl dX11_opens_161 rfl ?_
  refine rf_letM (fun m21 => ?_)
  refine rf_aload_n C (n := 163) (q := 0) dX11_opens_162 rfl rfl rfl ?_
  refine rf_dup C (n := 164) dX11_opens_163 rfl rfl ?_
  refine rf_getI C (n := 167) fl_RX11_22 ly_96 rfl dX11_opens_164 rfl ?_
  refine rf_iconst C (n := 168) (v := 1) dX11_opens_167 rfl (by decide) ?_
  refine rf_iadd C (n := 169) dX11_opens_168 rfl ?_
  refine rf_putI C (n := 172) pl_RX11_22 ly_96 rfl ⟨rfl, rfl⟩ dX11_opens_169 rfl ?_
  refine rf_letM (fun m22 => ?_)
  exact rf_vret C K dX11_opens_172
noncomputable def s_X11_opens_106 (fu : Nat) (ih : Int32 → Int32 → hM → Option (Unit × hM)) (x7 : Int32) (x8 : Int32) (m : hM) : Option (Unit × hM) :=
  if 6 ≤ x8 then (
f_X11_opens_147 fu x7 m) else (
if hIn ((6 * x7) + x8) 36 then (
hLet (sI m 107 (Int32.toNatClampNeg ((6 * x7) + x8)) 0) fun m24 =>
if hIn ((6 * x8) + x7) 36 then (
hLet (sI m24 107 (Int32.toNatClampNeg ((6 * x8) + x7)) 0) fun m26 =>
hLet (x8 + 1) fun y27 =>
ih x7 y27 m26) else none) else none)
noncomputable def f_X11_opens_106 (fu : Nat) (n : Nat) : Int32 → Int32 → hM → Option (Unit × hM) :=
  Nat.rec (motive := fun _ => Int32 → Int32 → hM → Option (Unit × hM)) (fun _ _ _ => none) (fun _ ih => s_X11_opens_106 fu ih) n
theorem f_X11_opens_106_s (fu : Nat) (n : Nat) (x7 : Int32) (x8 : Int32) (m : hM) : f_X11_opens_106 fu (n + 1) x7 x8 m = s_X11_opens_106 fu (f_X11_opens_106 fu n) x7 x8 m := rfl
set_option maxRecDepth 100000 in
set_option maxHeartbeats 4000000 in
theorem r_X11_opens_106 {G : hG} {X : hX} (C : Cx G X 1 cX11_opens 9 RX11 none) (K : Cr G X) (fu : Nat) (n : Nat) : ∀ (x7 : Int32) (x8 : Int32) (m : hM), Rf vU G X 106 [(0, hA G 96), (7, .int x7), (8, .int x8)] [] m (f_X11_opens_106 fu n x7 x8 m) := by
  induction n with
  | zero => intros; exact rf_none
  | succ n ih =>
    intro x7 x8 m
    show Rf vU G X 106 [(0, hA G 96), (7, .int x7), (8, .int x8)] [] m (s_X11_opens_106 fu (f_X11_opens_106 fu n) x7 x8 m)
    unfold s_X11_opens_106
    refine rf_iload C (n := 108) (q := 2) dX11_opens_106 rfl rfl ?_
    refine rf_bipush C (n := 110) (v := 6) dX11_opens_108 rfl (by decide) ?_
    refine rf_icmp_ge C (tgt := 147) (n := 113) dX11_opens_110 (by decide) rfl (fun h19 => ?_) (fun h19 => ?_)
    · exact rf_lv _ [0, 1] rfl (r_X11_opens_147 C K fu _ _)
    · refine rf_aload_n C (n := 114) (q := 0) dX11_opens_113 rfl rfl rfl ?_
      refine rf_getS C (n := 117) fl_RX11_60 ly_96 rfl dX11_opens_114 rfl ?_
      refine rf_bipush C (n := 119) (v := 6) dX11_opens_117 rfl (by decide) ?_
      refine rf_iload C (n := 121) (q := 1) dX11_opens_119 rfl rfl ?_
      refine rf_imul C (n := 122) dX11_opens_121 rfl ?_
      refine rf_iload C (n := 124) (q := 2) dX11_opens_122 rfl rfl ?_
      refine rf_iadd C (n := 125) dX11_opens_124 rfl ?_
      refine rf_iconst C (n := 126) (v := 0) dX11_opens_125 rfl (by decide) ?_
      refine rf_guard (fun h23 => ?_)
      refine rf_iast C (n := 127) ly_107 h23 rfl dX11_opens_126 rfl ?_
      refine rf_letM (fun m24 => ?_)
      refine rf_aload_n C (n := 128) (q := 0) dX11_opens_127 rfl rfl rfl ?_
      refine rf_getS C (n := 131) fl_RX11_60 ly_96 rfl dX11_opens_128 rfl ?_
      refine rf_bipush C (n := 133) (v := 6) dX11_opens_131 rfl (by decide) ?_
      refine rf_iload C (n := 135) (q := 2) dX11_opens_133 rfl rfl ?_
      refine rf_imul C (n := 136) dX11_opens_135 rfl ?_
      refine rf_iload C (n := 138) (q := 1) dX11_opens_136 rfl rfl ?_
      refine rf_iadd C (n := 139) dX11_opens_138 rfl ?_
      refine rf_iconst C (n := 140) (v := 0) dX11_opens_139 rfl (by decide) ?_
      refine rf_guard (fun h25 => ?_)
      refine rf_iast C (n := 141) ly_107 h25 rfl dX11_opens_140 rfl ?_
      refine rf_letM (fun m26 => ?_)
      refine rf_iinc2 C (n := 144) (q := 2) (fun y27 => [(8, .int y27), (0, hA G 96), (7, .int x7)]) dX11_opens_141 rfl rfl (by decide) (by decide) (fun _ => rfl) (fun y27 => ?_)
      refine rf_goto C (n := 106) dX11_opens_144 (by decide) ?_
      exact rf_lv _ [1, 2, 0] rfl (ih _ _ _)
noncomputable def f_X11_opens_103 (fu : Nat) (x7 : Int32) (m : hM) : Option (Unit × hM) :=
  f_X11_opens_106 fu fu x7 0 m
set_option maxRecDepth 100000 in
set_option maxHeartbeats 4000000 in
theorem r_X11_opens_103 {G : hG} {X : hX} (C : Cx G X 1 cX11_opens 9 RX11 none) (K : Cr G X) (fu : Nat) (x7 : Int32) (m : hM) : Rf vU G X 103 [(0, hA G 96), (7, .int x7)] [] m (f_X11_opens_103 fu x7 m) := by
  unfold f_X11_opens_103
  refine rf_iconst C (n := 104) (v := 0) dX11_opens_103 rfl (by decide) ?_
  refine rf_istore C (n := 106) [(8, .int 0), (0, hA G 96), (7, .int x7)] dX11_opens_104 rfl (by decide) rfl ?_
  exact rf_lv _ [1, 2, 0] rfl (r_X11_opens_106 C K fu fu _ _ _)
noncomputable def s_X11_opens_76 (fu : Nat) (ih : Int32 → Int32 → hM → Option (Unit × hM)) (x7 : Int32) (x8 : Int32) (m : hM) : Option (Unit × hM) :=
  if 100 ≤ x8 then (
f_X11_opens_103 fu x7 m) else (
if hIn ((100 * x7) + x8) 600 then (
hLet (sI m 106 (Int32.toNatClampNeg ((100 * x7) + x8)) (vp_nar .boolean 0)) fun m29 =>
hLet (x8 + 1) fun y30 =>
ih x7 y30 m29) else none)
noncomputable def f_X11_opens_76 (fu : Nat) (n : Nat) : Int32 → Int32 → hM → Option (Unit × hM) :=
  Nat.rec (motive := fun _ => Int32 → Int32 → hM → Option (Unit × hM)) (fun _ _ _ => none) (fun _ ih => s_X11_opens_76 fu ih) n
theorem f_X11_opens_76_s (fu : Nat) (n : Nat) (x7 : Int32) (x8 : Int32) (m : hM) : f_X11_opens_76 fu (n + 1) x7 x8 m = s_X11_opens_76 fu (f_X11_opens_76 fu n) x7 x8 m := rfl
set_option maxRecDepth 100000 in
set_option maxHeartbeats 4000000 in
theorem r_X11_opens_76 {G : hG} {X : hX} (C : Cx G X 1 cX11_opens 9 RX11 none) (K : Cr G X) (fu : Nat) (n : Nat) : ∀ (x7 : Int32) (x8 : Int32) (m : hM), Rf vU G X 76 [(0, hA G 96), (7, .int x7), (8, .int x8)] [] m (f_X11_opens_76 fu n x7 x8 m) := by
  induction n with
  | zero => intros; exact rf_none
  | succ n ih =>
    intro x7 x8 m
    show Rf vU G X 76 [(0, hA G 96), (7, .int x7), (8, .int x8)] [] m (s_X11_opens_76 fu (f_X11_opens_76 fu n) x7 x8 m)
    unfold s_X11_opens_76
    refine rf_iload C (n := 78) (q := 2) dX11_opens_76 rfl rfl ?_
    refine rf_bipush C (n := 80) (v := 100) dX11_opens_78 rfl (by decide) ?_
    refine rf_icmp_ge C (tgt := 103) (n := 83) dX11_opens_80 (by decide) rfl (fun h18 => ?_) (fun h18 => ?_)
    · exact rf_lv _ [0, 1] rfl (r_X11_opens_103 C K fu _ _)
    · refine rf_aload_n C (n := 84) (q := 0) dX11_opens_83 rfl rfl rfl ?_
      refine rf_getS C (n := 87) fl_RX11_56 ly_96 rfl dX11_opens_84 rfl ?_
      refine rf_bipush C (n := 89) (v := 100) dX11_opens_87 rfl (by decide) ?_
      refine rf_iload C (n := 91) (q := 1) dX11_opens_89 rfl rfl ?_
      refine rf_imul C (n := 92) dX11_opens_91 rfl ?_
      refine rf_iload C (n := 94) (q := 2) dX11_opens_92 rfl rfl ?_
      refine rf_iadd C (n := 95) dX11_opens_94 rfl ?_
      refine rf_iconst C (n := 96) (v := 0) dX11_opens_95 rfl (by decide) ?_
      refine rf_guard (fun h28 => ?_)
      refine rf_zast C (n := 97) ly_106 h28 rfl dX11_opens_96 rfl ?_
      refine rf_letM (fun m29 => ?_)
      refine rf_iinc2 C (n := 100) (q := 2) (fun y30 => [(8, .int y30), (0, hA G 96), (7, .int x7)]) dX11_opens_97 rfl rfl (by decide) (by decide) (fun _ => rfl) (fun y30 => ?_)
      refine rf_goto C (n := 76) dX11_opens_100 (by decide) ?_
      exact rf_lv _ [1, 2, 0] rfl (ih _ _ _)
noncomputable def f_X11_opens (fu : Nat) (x1 : Int32) (x2 : Int32) (x3 : Int32) (x4 : Int32) (x5 : Int32) (x6 : Int32) (m : hM) : Option (Unit × hM) :=
  hLet (gI m 96 3) fun y1 =>
if hIn y1 6 then (
hLet (sI m 98 (Int32.toNatClampNeg y1) x1) fun m3 =>
if hIn y1 6 then (
hLet (sI m3 99 (Int32.toNatClampNeg y1) x2) fun m5 =>
if hIn y1 6 then (
hLet (sI m5 100 (Int32.toNatClampNeg y1) x3) fun m7 =>
if hIn y1 6 then (
hLet (sI m7 101 (Int32.toNatClampNeg y1) x4) fun m9 =>
if hIn y1 6 then (
hLet (sI m9 102 (Int32.toNatClampNeg y1) x5) fun m11 =>
if hIn y1 6 then (
hLet (sI m11 103 (Int32.toNatClampNeg y1) x6) fun m13 =>
if hIn y1 6 then (
hLet (sI m13 104 (Int32.toNatClampNeg y1) 0) fun m15 =>
if hIn y1 6 then (
hLet (sI m15 105 (Int32.toNatClampNeg y1) 0) fun m17 =>
f_X11_opens_76 fu fu y1 0 m17) else none) else none) else none) else none) else none) else none) else none) else none
set_option maxRecDepth 100000 in
set_option maxHeartbeats 4000000 in
theorem c_X11_opens (G : hG) (fu : Nat) (x1 : Int32) (x2 : Int32) (x3 : Int32) (x4 : Int32) (x5 : Int32) (x6 : Int32) (m : hM) : Mt vU G 1 yX11_opens cX11_opens 9 none [hA G 96, .int x1, .int x2, .int x3, .int x4, .int x5, .int x6] m (f_X11_opens fu x1 x2 x3 x4 x5 x6 m) := by
  refine mt_of (by decide +kernel) (Nat.le_of_ble_eq_true rfl) (fun X C K => ?_)
  have C : Cx G X 1 cX11_opens 9 RX11 none := C
  show Rf vU G X 0 [(0, hA G 96), (1, .int x1), (2, .int x2), (3, .int x3), (4, .int x4), (5, .int x5), (6, .int x6)] [] m _
  unfold f_X11_opens
  refine rf_aload_n C (n := 1) (q := 0) dX11_opens_0 rfl rfl rfl ?_
  refine rf_getI C (n := 4) fl_RX11_22 ly_96 rfl dX11_opens_1 rfl ?_
  refine rf_letI (fun y1 => ?_)
  refine rf_istore C (n := 6) [(7, .int y1), (0, hA G 96), (1, .int x1), (2, .int x2), (3, .int x3), (4, .int x4), (5, .int x5), (6, .int x6)] dX11_opens_4 rfl (by decide) rfl ?_
  refine rf_aload_n C (n := 7) (q := 1) dX11_opens_6 rfl rfl rfl ?_
  refine rf_getS C (n := 10) fl_RX11_31 ly_96 rfl dX11_opens_7 rfl ?_
  refine rf_iload C (n := 12) (q := 0) dX11_opens_10 rfl rfl ?_
  refine rf_iload_n C (n := 13) (q := 2) dX11_opens_12 rfl rfl rfl ?_
  refine rf_guard (fun h2 => ?_)
  refine rf_iast C (n := 14) ly_98 h2 rfl dX11_opens_13 rfl ?_
  refine rf_letM (fun m3 => ?_)
  refine rf_aload_n C (n := 15) (q := 1) dX11_opens_14 rfl rfl rfl ?_
  refine rf_getS C (n := 18) fl_RX11_35 ly_96 rfl dX11_opens_15 rfl ?_
  refine rf_iload C (n := 20) (q := 0) dX11_opens_18 rfl rfl ?_
  refine rf_iload_n C (n := 21) (q := 3) dX11_opens_20 rfl rfl rfl ?_
  refine rf_guard (fun h4 => ?_)
  refine rf_iast C (n := 22) ly_99 h4 rfl dX11_opens_21 rfl ?_
  refine rf_letM (fun m5 => ?_)
  refine rf_aload_n C (n := 23) (q := 1) dX11_opens_22 rfl rfl rfl ?_
  refine rf_getS C (n := 26) fl_RX11_38 ly_96 rfl dX11_opens_23 rfl ?_
  refine rf_iload C (n := 28) (q := 0) dX11_opens_26 rfl rfl ?_
  refine rf_iload_n C (n := 29) (q := 4) dX11_opens_28 rfl rfl rfl ?_
  refine rf_guard (fun h6 => ?_)
  refine rf_iast C (n := 30) ly_100 h6 rfl dX11_opens_29 rfl ?_
  refine rf_letM (fun m7 => ?_)
  refine rf_aload_n C (n := 31) (q := 1) dX11_opens_30 rfl rfl rfl ?_
  refine rf_getS C (n := 34) fl_RX11_41 ly_96 rfl dX11_opens_31 rfl ?_
  refine rf_iload C (n := 36) (q := 0) dX11_opens_34 rfl rfl ?_
  refine rf_iload C (n := 38) (q := 5) dX11_opens_36 rfl rfl ?_
  refine rf_guard (fun h8 => ?_)
  refine rf_iast C (n := 39) ly_101 h8 rfl dX11_opens_38 rfl ?_
  refine rf_letM (fun m9 => ?_)
  refine rf_aload_n C (n := 40) (q := 1) dX11_opens_39 rfl rfl rfl ?_
  refine rf_getS C (n := 43) fl_RX11_44 ly_96 rfl dX11_opens_40 rfl ?_
  refine rf_iload C (n := 45) (q := 0) dX11_opens_43 rfl rfl ?_
  refine rf_iload C (n := 47) (q := 6) dX11_opens_45 rfl rfl ?_
  refine rf_guard (fun h10 => ?_)
  refine rf_iast C (n := 48) ly_102 h10 rfl dX11_opens_47 rfl ?_
  refine rf_letM (fun m11 => ?_)
  refine rf_aload_n C (n := 49) (q := 1) dX11_opens_48 rfl rfl rfl ?_
  refine rf_getS C (n := 52) fl_RX11_47 ly_96 rfl dX11_opens_49 rfl ?_
  refine rf_iload C (n := 54) (q := 0) dX11_opens_52 rfl rfl ?_
  refine rf_iload C (n := 56) (q := 7) dX11_opens_54 rfl rfl ?_
  refine rf_guard (fun h12 => ?_)
  refine rf_iast C (n := 57) ly_103 h12 rfl dX11_opens_56 rfl ?_
  refine rf_letM (fun m13 => ?_)
  refine rf_aload_n C (n := 58) (q := 1) dX11_opens_57 rfl rfl rfl ?_
  refine rf_getS C (n := 61) fl_RX11_50 ly_96 rfl dX11_opens_58 rfl ?_
  refine rf_iload C (n := 63) (q := 0) dX11_opens_61 rfl rfl ?_
  refine rf_iconst C (n := 64) (v := 0) dX11_opens_63 rfl (by decide) ?_
  refine rf_guard (fun h14 => ?_)
  refine rf_iast C (n := 65) ly_104 h14 rfl dX11_opens_64 rfl ?_
  refine rf_letM (fun m15 => ?_)
  refine rf_aload_n C (n := 66) (q := 1) dX11_opens_65 rfl rfl rfl ?_
  refine rf_getS C (n := 69) fl_RX11_53 ly_96 rfl dX11_opens_66 rfl ?_
  refine rf_iload C (n := 71) (q := 0) dX11_opens_69 rfl rfl ?_
  refine rf_iconst C (n := 72) (v := 0) dX11_opens_71 rfl (by decide) ?_
  refine rf_guard (fun h16 => ?_)
  refine rf_iast C (n := 73) ly_105 h16 rfl dX11_opens_72 rfl ?_
  refine rf_letM (fun m17 => ?_)
  refine rf_iconst C (n := 74) (v := 0) dX11_opens_73 rfl (by decide) ?_
  refine rf_istore C (n := 76) [(8, .int 0), (7, .int y1), (0, hA G 96), (1, .int x1), (2, .int x2), (3, .int x3), (4, .int x4), (5, .int x5), (6, .int x6)] dX11_opens_74 rfl (by decide) rfl ?_
  exact rf_lv _ [2, 1, 0] rfl (r_X11_opens_76 C K fu fu _ _ _)
noncomputable def f_X11_office_83 (fu : Nat) (x1 : Int32) (x2 : Int32) (x3 : Int32) (x4 : Int32) (s0 : Int32) (m : hM) : Option (Int32 × hM) :=
  if s0 = 0 then (
some ((-1), m)) else (
if ¬ (gI m 96 3) = 6 then (
hBd (f_X11_opens fu (x1 / 24) (x1 - x1 / 24 * 24) x2 x3 (x4 / 64) (x4 - x4 / 64 * 64) m) fun _ m7 =>
some ((gI m7 96 3) - 1, m7)) else (
some ((-1), m)))
set_option maxRecDepth 100000 in
set_option maxHeartbeats 4000000 in
theorem r_X11_office_83 {G : hG} {X : hX} (C : Cx G X 2 cX11_office 6 RX11 (some .int)) (K : Cr G X) (fu : Nat) (x1 : Int32) (x2 : Int32) (x3 : Int32) (x4 : Int32) (s0 : Int32) (m : hM) : Rf vI G X 83 [(0, hA G 96), (1, .int x1), (2, .int x2), (3, .int x3), (4, .int x4)] [.int s0] m (f_X11_office_83 fu x1 x2 x3 x4 s0 m) := by
  unfold f_X11_office_83
  refine rf_istore C (n := 85) [(5, .int s0), (0, hA G 96), (1, .int x1), (2, .int x2), (3, .int x3), (4, .int x4)] dX11_office_83 rfl (by decide) rfl ?_
  refine rf_iload C (n := 87) (q := 0) dX11_office_85 rfl rfl ?_
  refine rf_if_eq C (tgt := 99) (n := 90) dX11_office_87 (by decide) rfl (fun h5 => ?_) (fun h5 => ?_)
  · refine rf_iconst C (n := 100) (v := (-1)) dX11_office_99 rfl (by decide) ?_
    exact rf_iret C K dX11_office_100
  · refine rf_aload_n C (n := 91) (q := 1) dX11_office_90 rfl rfl rfl ?_
    refine rf_getI C (n := 94) fl_RX11_22 ly_96 rfl dX11_office_91 rfl ?_
    refine rf_bipush C (n := 96) (v := 6) dX11_office_94 rfl (by decide) ?_
    refine rf_icmp_ne C (tgt := 101) (n := 99) dX11_office_96 (by decide) rfl (fun h6 => ?_) (fun h6 => ?_)
    · refine rf_aload_n C (n := 102) (q := 1) dX11_office_101 rfl rfl rfl ?_
      refine rf_iload_n C (n := 103) (q := 2) dX11_office_102 rfl rfl rfl ?_
      refine rf_bipush C (n := 105) (v := 24) dX11_office_103 rfl (by decide) ?_
      refine rf_idiv C (n := 106) dX11_office_105 rfl (by decide) ?_
      refine rf_iload_n C (n := 107) (q := 2) dX11_office_106 rfl rfl rfl ?_
      refine rf_bipush C (n := 109) (v := 24) dX11_office_107 rfl (by decide) ?_
      refine rf_irem C (n := 110) dX11_office_109 rfl (by decide) ?_
      refine rf_iload_n C (n := 111) (q := 3) dX11_office_110 rfl rfl rfl ?_
      refine rf_iload_n C (n := 112) (q := 4) dX11_office_111 rfl rfl rfl ?_
      refine rf_iload C (n := 114) (q := 5) dX11_office_112 rfl rfl ?_
      refine rf_bipush C (n := 116) (v := 64) dX11_office_114 rfl (by decide) ?_
      refine rf_idiv C (n := 117) dX11_office_116 rfl (by decide) ?_
      refine rf_iload C (n := 119) (q := 5) dX11_office_117 rfl rfl ?_
      refine rf_bipush C (n := 121) (v := 64) dX11_office_119 rfl (by decide) ?_
      refine rf_irem C (n := 122) dX11_office_121 rfl (by decide) ?_
      refine rf_callVv C (n := 125) (c_X11_opens G fu _ _ _ _ _ _ _) mw_RX11_73 ly_96 rfl ⟨by decide, by decide⟩ rfl (Nat.le_of_ble_eq_true rfl) rfl dX11_office_122 rfl (fun _ m7 => ?_)
      refine rf_aload_n C (n := 126) (q := 1) dX11_office_125 rfl rfl rfl ?_
      refine rf_getI C (n := 129) fl_RX11_22 ly_96 rfl dX11_office_126 rfl ?_
      refine rf_iconst C (n := 130) (v := 1) dX11_office_129 rfl (by decide) ?_
      refine rf_isub C (n := 131) dX11_office_130 rfl ?_
      exact rf_iret C K dX11_office_131
    · refine rf_iconst C (n := 100) (v := (-1)) dX11_office_99 rfl (by decide) ?_
      exact rf_iret C K dX11_office_100
noncomputable def f_X11_office_82 (fu : Nat) (x1 : Int32) (x2 : Int32) (x3 : Int32) (x4 : Int32) (m : hM) : Option (Int32 × hM) :=
  f_X11_office_83 fu x1 x2 x3 x4 0 m
set_option maxRecDepth 100000 in
set_option maxHeartbeats 4000000 in
theorem r_X11_office_82 {G : hG} {X : hX} (C : Cx G X 2 cX11_office 6 RX11 (some .int)) (K : Cr G X) (fu : Nat) (x1 : Int32) (x2 : Int32) (x3 : Int32) (x4 : Int32) (m : hM) : Rf vI G X 82 [(0, hA G 96), (1, .int x1), (2, .int x2), (3, .int x3), (4, .int x4)] [] m (f_X11_office_82 fu x1 x2 x3 x4 m) := by
  unfold f_X11_office_82
  refine rf_iconst C (n := 83) (v := 0) dX11_office_82 rfl (by decide) ?_
  exact rf_lv _ [0, 1, 2, 3, 4] rfl (r_X11_office_83 C K fu _ _ _ _ _ _)
noncomputable def f_X11_office (fu : Nat) (x1 : Int32) (x2 : Int32) (x3 : Int32) (x4 : Int32) (m : hM) : Option (Int32 × hM) :=
  hLet (sI m 96 0 0) fun m1 =>
hBd (f_X11_in fu (Int32.toInt64 x1) 0 575 m1) fun y2 m3 =>
if y2 = 0 then (
f_X11_office_82 fu x1 x2 x3 x4 m3) else (
hBd (f_X11_in fu (Int32.toInt64 x2) 1 16 m3) fun y8 m9 =>
if y8 = 0 then (
f_X11_office_82 fu x1 x2 x3 x4 m9) else (
hBd (f_X11_in fu (Int32.toInt64 x3) 1 99 m9) fun y11 m12 =>
if y11 = 0 then (
f_X11_office_82 fu x1 x2 x3 x4 m12) else (
if x4 < 0 then (
f_X11_office_82 fu x1 x2 x3 x4 m12) else (
hBd (f_X11_in fu (Int32.toInt64 (x4 / 64)) 1 9 m12) fun y15 m16 =>
if y15 = 0 then (
f_X11_office_82 fu x1 x2 x3 x4 m16) else (
hBd (f_X11_in fu (Int32.toInt64 (x4 - x4 / 64 * 64)) 1 63 m16) fun y18 m19 =>
if y18 = 0 then (
f_X11_office_82 fu x1 x2 x3 x4 m19) else (
f_X11_office_83 fu x1 x2 x3 x4 1 m19))))))
set_option maxRecDepth 100000 in
set_option maxHeartbeats 4000000 in
theorem c_X11_office (G : hG) (fu : Nat) (x1 : Int32) (x2 : Int32) (x3 : Int32) (x4 : Int32) (m : hM) : Mt vI G 2 yX11_office cX11_office 6 (some .int) [hA G 96, .int x1, .int x2, .int x3, .int x4] m (f_X11_office fu x1 x2 x3 x4 m) := by
  refine mt_of (by decide +kernel) (Nat.le_of_ble_eq_true rfl) (fun X C K => ?_)
  have C : Cx G X 2 cX11_office 6 RX11 (some .int) := C
  show Rf vI G X 0 [(0, hA G 96), (1, .int x1), (2, .int x2), (3, .int x3), (4, .int x4)] [] m _
  unfold f_X11_office
  refine rf_aload_n C (n := 1) (q := 0) dX11_office_0 rfl rfl rfl ?_
  refine rf_iconst C (n := 2) (v := 0) dX11_office_1 rfl (by decide) ?_
  refine rf_putI C (n := 5) pl_RX11_3 ly_96 rfl ⟨rfl, rfl⟩ dX11_office_2 rfl ?_
  refine rf_letM (fun m1 => ?_)
  refine rf_iload_n C (n := 6) (q := 1) dX11_office_5 rfl rfl rfl ?_
  refine rf_i2l C (n := 7) dX11_office_6 rfl ?_
  refine rf_lconst C (n := 8) (v := 0) dX11_office_7 rfl (by decide) ?_
  refine rf_ldc2 C (n := 11) dX11_office_8 rfl kl_RX11_63 ?_
  refine rf_callSi C (n := 14) (c_X11_in G fu _ _ _ _) sw_RX11_25 ⟨by decide, by decide⟩ rfl (Nat.le_of_ble_eq_true rfl) rfl dX11_office_11 rfl (fun y2 m3 => ?_)
  refine rf_if_eq C (tgt := 82) (n := 17) dX11_office_14 (by decide) rfl (fun h4 => ?_) (fun h4 => ?_)
  · exact rf_lv _ [0, 1, 2, 3, 4] rfl (r_X11_office_82 C K fu _ _ _ _ _)
  · refine rf_iload_n C (n := 18) (q := 2) dX11_office_17 rfl rfl rfl ?_
    refine rf_i2l C (n := 19) dX11_office_18 rfl ?_
    refine rf_lconst C (n := 20) (v := 1) dX11_office_19 rfl (by decide) ?_
    refine rf_ldc2 C (n := 23) dX11_office_20 rfl kl_RX11_65 ?_
    refine rf_callSi C (n := 26) (c_X11_in G fu _ _ _ _) sw_RX11_25 ⟨by decide, by decide⟩ rfl (Nat.le_of_ble_eq_true rfl) rfl dX11_office_23 rfl (fun y8 m9 => ?_)
    refine rf_if_eq C (tgt := 82) (n := 29) dX11_office_26 (by decide) rfl (fun h10 => ?_) (fun h10 => ?_)
    · exact rf_lv _ [0, 1, 2, 3, 4] rfl (r_X11_office_82 C K fu _ _ _ _ _)
    · refine rf_iload_n C (n := 30) (q := 3) dX11_office_29 rfl rfl rfl ?_
      refine rf_i2l C (n := 31) dX11_office_30 rfl ?_
      refine rf_lconst C (n := 32) (v := 1) dX11_office_31 rfl (by decide) ?_
      refine rf_ldc2 C (n := 35) dX11_office_32 rfl kl_RX11_67 ?_
      refine rf_callSi C (n := 38) (c_X11_in G fu _ _ _ _) sw_RX11_25 ⟨by decide, by decide⟩ rfl (Nat.le_of_ble_eq_true rfl) rfl dX11_office_35 rfl (fun y11 m12 => ?_)
      refine rf_if_eq C (tgt := 82) (n := 41) dX11_office_38 (by decide) rfl (fun h13 => ?_) (fun h13 => ?_)
      · exact rf_lv _ [0, 1, 2, 3, 4] rfl (r_X11_office_82 C K fu _ _ _ _ _)
      · refine rf_iload C (n := 43) (q := 4) dX11_office_41 rfl rfl ?_
        refine rf_if_lt C (tgt := 82) (n := 46) dX11_office_43 (by decide) rfl (fun h14 => ?_) (fun h14 => ?_)
        · exact rf_lv _ [0, 1, 2, 3, 4] rfl (r_X11_office_82 C K fu _ _ _ _ _)
        · refine rf_iload C (n := 48) (q := 4) dX11_office_46 rfl rfl ?_
          refine rf_bipush C (n := 50) (v := 64) dX11_office_48 rfl (by decide) ?_
          refine rf_idiv C (n := 51) dX11_office_50 rfl (by decide) ?_
          refine rf_i2l C (n := 52) dX11_office_51 rfl ?_
          refine rf_lconst C (n := 53) (v := 1) dX11_office_52 rfl (by decide) ?_
          refine rf_ldc2 C (n := 56) dX11_office_53 rfl kl_RX11_69 ?_
          refine rf_callSi C (n := 59) (c_X11_in G fu _ _ _ _) sw_RX11_25 ⟨by decide, by decide⟩ rfl (Nat.le_of_ble_eq_true rfl) rfl dX11_office_56 rfl (fun y15 m16 => ?_)
          refine rf_if_eq C (tgt := 82) (n := 62) dX11_office_59 (by decide) rfl (fun h17 => ?_) (fun h17 => ?_)
          · exact rf_lv _ [0, 1, 2, 3, 4] rfl (r_X11_office_82 C K fu _ _ _ _ _)
          · refine rf_iload C (n := 64) (q := 4) dX11_office_62 rfl rfl ?_
            refine rf_bipush C (n := 66) (v := 64) dX11_office_64 rfl (by decide) ?_
            refine rf_irem C (n := 67) dX11_office_66 rfl (by decide) ?_
            refine rf_i2l C (n := 68) dX11_office_67 rfl ?_
            refine rf_lconst C (n := 69) (v := 1) dX11_office_68 rfl (by decide) ?_
            refine rf_ldc2 C (n := 72) dX11_office_69 rfl kl_RX11_71 ?_
            refine rf_callSi C (n := 75) (c_X11_in G fu _ _ _ _) sw_RX11_25 ⟨by decide, by decide⟩ rfl (Nat.le_of_ble_eq_true rfl) rfl dX11_office_72 rfl (fun y18 m19 => ?_)
            refine rf_if_eq C (tgt := 82) (n := 78) dX11_office_75 (by decide) rfl (fun h20 => ?_) (fun h20 => ?_)
            · exact rf_lv _ [0, 1, 2, 3, 4] rfl (r_X11_office_82 C K fu _ _ _ _ _)
            · refine rf_iconst C (n := 79) (v := 1) dX11_office_78 rfl (by decide) ?_
              refine rf_goto C (n := 83) dX11_office_79 (by decide) ?_
              exact rf_lv _ [0, 1, 2, 3, 4] rfl (r_X11_office_83 C K fu _ _ _ _ _ _)
