theorem dX11_edge_0 : decode cX11_edge 0 = .ok (.aload_n 0, 1) := by decide +kernel
theorem dX11_edge_1 : decode cX11_edge 1 = .ok (.iconst 0, 1) := by decide +kernel
theorem dX11_edge_2 : decode cX11_edge 2 = .ok (.putfield 3, 3) := by decide +kernel
theorem dX11_edge_5 : decode cX11_edge 5 = .ok (.aload_n 0, 1) := by decide +kernel
theorem dX11_edge_6 : decode cX11_edge 6 = .ok (.iload_n 1, 1) := by decide +kernel
theorem dX11_edge_7 : decode cX11_edge 7 = .ok (.invokevirtual 256, 3) := by decide +kernel
theorem dX11_edge_10 : decode cX11_edge 10 = .ok (.ifCond .eq 22, 3) := by decide +kernel
theorem dX11_edge_13 : decode cX11_edge 13 = .ok (.iload_n 2, 1) := by decide +kernel
theorem dX11_edge_14 : decode cX11_edge 14 = .ok (.invokestatic 81, 3) := by decide +kernel
theorem dX11_edge_17 : decode cX11_edge 17 = .ok (.ifCond .eq 15, 3) := by decide +kernel
theorem dX11_edge_20 : decode cX11_edge 20 = .ok (.iload_n 3, 1) := by decide +kernel
theorem dX11_edge_21 : decode cX11_edge 21 = .ok (.i2l, 1) := by decide +kernel
theorem dX11_edge_22 : decode cX11_edge 22 = .ok (.lconst 1, 1) := by decide +kernel
theorem dX11_edge_23 : decode cX11_edge 23 = .ok (.ldc2_w 93, 3) := by decide +kernel
theorem dX11_edge_26 : decode cX11_edge 26 = .ok (.invokestatic 25, 3) := by decide +kernel
theorem dX11_edge_29 : decode cX11_edge 29 = .ok (.ifCond .ne 5, 3) := by decide +kernel
theorem dX11_edge_32 : decode cX11_edge 32 = .ok (.iconst (-1), 1) := by decide +kernel
theorem dX11_edge_33 : decode cX11_edge 33 = .ok (.ireturn, 1) := by decide +kernel
theorem dX11_edge_34 : decode cX11_edge 34 = .ok (.aload_n 0, 1) := by decide +kernel
theorem dX11_edge_35 : decode cX11_edge 35 = .ok (.iload_n 1, 1) := by decide +kernel
theorem dX11_edge_36 : decode cX11_edge 36 = .ok (.iload_n 2, 1) := by decide +kernel
theorem dX11_edge_37 : decode cX11_edge 37 = .ok (.iconst 0, 1) := by decide +kernel
theorem dX11_edge_38 : decode cX11_edge 38 = .ok (.invokevirtual 367, 3) := by decide +kernel
theorem dX11_edge_41 : decode cX11_edge 41 = .ok (.istore 4, 2) := by decide +kernel
theorem dX11_edge_43 : decode cX11_edge 43 = .ok (.iload 4, 2) := by decide +kernel
theorem dX11_edge_45 : decode cX11_edge 45 = .ok (.ifCond .ge 5, 3) := by decide +kernel
theorem dX11_edge_48 : decode cX11_edge 48 = .ok (.iconst (-1), 1) := by decide +kernel
theorem dX11_edge_49 : decode cX11_edge 49 = .ok (.ireturn, 1) := by decide +kernel
theorem dX11_edge_50 : decode cX11_edge 50 = .ok (.aload_n 0, 1) := by decide +kernel
theorem dX11_edge_51 : decode cX11_edge 51 = .ok (.getfield 108, 3) := by decide +kernel
theorem dX11_edge_54 : decode cX11_edge 54 = .ok (.istore 5, 2) := by decide +kernel
theorem dX11_edge_56 : decode cX11_edge 56 = .ok (.bipush (-2), 2) := by decide +kernel
theorem dX11_edge_58 : decode cX11_edge 58 = .ok (.istore 6, 2) := by decide +kernel
theorem dX11_edge_60 : decode cX11_edge 60 = .ok (.iconst 1, 1) := by decide +kernel
theorem dX11_edge_61 : decode cX11_edge 61 = .ok (.istore 7, 2) := by decide +kernel
theorem dX11_edge_63 : decode cX11_edge 63 = .ok (.bipush 20, 2) := by decide +kernel
theorem dX11_edge_65 : decode cX11_edge 65 = .ok (.istore 8, 2) := by decide +kernel
theorem dX11_edge_67 : decode cX11_edge 67 = .ok (.iload 8, 2) := by decide +kernel
theorem dX11_edge_69 : decode cX11_edge 69 = .ok (.ifCond .lt 53, 3) := by decide +kernel
theorem dX11_edge_72 : decode cX11_edge 72 = .ok (.iload 7, 2) := by decide +kernel
theorem dX11_edge_74 : decode cX11_edge 74 = .ok (.ifCond .eq 48, 3) := by decide +kernel
theorem dX11_edge_77 : decode cX11_edge 77 = .ok (.aload_n 0, 1) := by decide +kernel
theorem dX11_edge_78 : decode cX11_edge 78 = .ok (.iload 8, 2) := by decide +kernel
theorem dX11_edge_80 : decode cX11_edge 80 = .ok (.putfield 108, 3) := by decide +kernel
theorem dX11_edge_83 : decode cX11_edge 83 = .ok (.aload_n 0, 1) := by decide +kernel
theorem dX11_edge_84 : decode cX11_edge 84 = .ok (.iload_n 1, 1) := by decide +kernel
theorem dX11_edge_85 : decode cX11_edge 85 = .ok (.iload_n 2, 1) := by decide +kernel
theorem dX11_edge_86 : decode cX11_edge 86 = .ok (.iload_n 3, 1) := by decide +kernel
theorem dX11_edge_87 : decode cX11_edge 87 = .ok (.invokevirtual 367, 3) := by decide +kernel
theorem dX11_edge_90 : decode cX11_edge 90 = .ok (.iload 4, 2) := by decide +kernel
theorem dX11_edge_92 : decode cX11_edge 92 = .ok (.if_icmp .lt 7, 3) := by decide +kernel
theorem dX11_edge_95 : decode cX11_edge 95 = .ok (.iconst 1, 1) := by decide +kernel
theorem dX11_edge_96 : decode cX11_edge 96 = .ok (.goto 4, 3) := by decide +kernel
theorem dX11_edge_99 : decode cX11_edge 99 = .ok (.iconst 0, 1) := by decide +kernel
theorem dX11_edge_100 : decode cX11_edge 100 = .ok (.istore 7, 2) := by decide +kernel
theorem dX11_edge_102 : decode cX11_edge 102 = .ok (.iload 7, 2) := by decide +kernel
theorem dX11_edge_104 : decode cX11_edge 104 = .ok (.ifCond .eq 8, 3) := by decide +kernel
theorem dX11_edge_107 : decode cX11_edge 107 = .ok (.iload 8, 2) := by decide +kernel
theorem dX11_edge_109 : decode cX11_edge 109 = .ok (.goto 5, 3) := by decide +kernel
theorem dX11_edge_112 : decode cX11_edge 112 = .ok (.iload 6, 2) := by decide +kernel
theorem dX11_edge_114 : decode cX11_edge 114 = .ok (.istore 6, 2) := by decide +kernel
theorem dX11_edge_116 : decode cX11_edge 116 = .ok (.iinc 8 (-1), 3) := by decide +kernel
theorem dX11_edge_119 : decode cX11_edge 119 = .ok (.goto (-52), 3) := by decide +kernel
theorem dX11_edge_122 : decode cX11_edge 122 = .ok (.aload_n 0, 1) := by decide +kernel
theorem dX11_edge_123 : decode cX11_edge 123 = .ok (.iload 5, 2) := by decide +kernel
theorem dX11_edge_125 : decode cX11_edge 125 = .ok (.putfield 108, 3) := by decide +kernel
theorem dX11_edge_128 : decode cX11_edge 128 = .ok (.aload_n 0, 1) := by decide +kernel
theorem dX11_edge_129 : decode cX11_edge 129 = .ok (.iconst 0, 1) := by decide +kernel
theorem dX11_edge_130 : decode cX11_edge 130 = .ok (.putfield 11, 3) := by decide +kernel
theorem dX11_edge_133 : decode cX11_edge 133 = .ok (.aload_n 0, 1) := by decide +kernel
theorem dX11_edge_134 : decode cX11_edge 134 = .ok (.iload 4, 2) := by decide +kernel
theorem dX11_edge_136 : decode cX11_edge 136 = .ok (.i2l, 1) := by decide +kernel
theorem dX11_edge_137 : decode cX11_edge 137 = .ok (.invokevirtual 18, 3) := by decide +kernel
theorem dX11_edge_140 : decode cX11_edge 140 = .ok (.iload 6, 2) := by decide +kernel
theorem dX11_edge_142 : decode cX11_edge 142 = .ok (.ireturn, 1) := by decide +kernel
theorem dX11_lies_0 : decode cX11_lies 0 = .ok (.aload_n 0, 1) := by decide +kernel
theorem dX11_lies_1 : decode cX11_lies 1 = .ok (.getfield 146, 3) := by decide +kernel
theorem dX11_lies_4 : decode cX11_lies 4 = .ok (.iload_n 1, 1) := by decide +kernel
theorem dX11_lies_5 : decode cX11_lies 5 = .ok (.iaload, 1) := by decide +kernel
theorem dX11_lies_6 : decode cX11_lies 6 = .ok (.istore 4, 2) := by decide +kernel
theorem dX11_lies_8 : decode cX11_lies 8 = .ok (.iconst 0, 1) := by decide +kernel
theorem dX11_lies_9 : decode cX11_lies 9 = .ok (.istore 5, 2) := by decide +kernel
theorem dX11_lies_11 : decode cX11_lies 11 = .ok (.iconst 0, 1) := by decide +kernel
theorem dX11_lies_12 : decode cX11_lies 12 = .ok (.istore 6, 2) := by decide +kernel
theorem dX11_lies_14 : decode cX11_lies 14 = .ok (.aload_n 0, 1) := by decide +kernel
theorem dX11_lies_15 : decode cX11_lies 15 = .ok (.iconst 0, 1) := by decide +kernel
theorem dX11_lies_16 : decode cX11_lies 16 = .ok (.putfield 405, 3) := by decide +kernel
theorem dX11_lies_19 : decode cX11_lies 19 = .ok (.iload_n 3, 1) := by decide +kernel
theorem dX11_lies_20 : decode cX11_lies 20 = .ok (.istore 7, 2) := by decide +kernel
theorem dX11_lies_22 : decode cX11_lies 22 = .ok (.iload 7, 2) := by decide +kernel
theorem dX11_lies_24 : decode cX11_lies 24 = .ok (.sipush 2399, 3) := by decide +kernel
theorem dX11_lies_27 : decode cX11_lies 27 = .ok (.if_icmp .ge 129, 3) := by decide +kernel
theorem dX11_lies_30 : decode cX11_lies 30 = .ok (.iload 6, 2) := by decide +kernel
theorem dX11_lies_32 : decode cX11_lies 32 = .ok (.ifCond .eq 48, 3) := by decide +kernel
theorem dX11_lies_35 : decode cX11_lies 35 = .ok (.aload_n 0, 1) := by decide +kernel
theorem dX11_lies_36 : decode cX11_lies 36 = .ok (.dup, 1) := by decide +kernel
theorem dX11_lies_37 : decode cX11_lies 37 = .ok (.getfield 405, 3) := by decide +kernel
theorem dX11_lies_40 : decode cX11_lies 40 = .ok (.iconst 1, 1) := by decide +kernel
theorem dX11_lies_41 : decode cX11_lies 41 = .ok (.iadd, 1) := by decide +kernel
theorem dX11_lies_42 : decode cX11_lies 42 = .ok (.putfield 405, 3) := by decide +kernel
theorem dX11_lies_45 : decode cX11_lies 45 = .ok (.aload_n 0, 1) := by decide +kernel
theorem dX11_lies_46 : decode cX11_lies 46 = .ok (.iload_n 2, 1) := by decide +kernel
theorem dX11_lies_47 : decode cX11_lies 47 = .ok (.iload 7, 2) := by decide +kernel
theorem dX11_lies_49 : decode cX11_lies 49 = .ok (.invokevirtual 120, 3) := by decide +kernel
theorem dX11_lies_52 : decode cX11_lies 52 = .ok (.ifCond .eq 18, 3) := by decide +kernel
theorem dX11_lies_55 : decode cX11_lies 55 = .ok (.aload_n 0, 1) := by decide +kernel
theorem dX11_lies_56 : decode cX11_lies 56 = .ok (.aload_n 0, 1) := by decide +kernel
theorem dX11_lies_57 : decode cX11_lies 57 = .ok (.getfield 163, 3) := by decide +kernel
theorem dX11_lies_60 : decode cX11_lies 60 = .ok (.iload_n 1, 1) := by decide +kernel
theorem dX11_lies_61 : decode cX11_lies 61 = .ok (.iaload, 1) := by decide +kernel
theorem dX11_lies_62 : decode cX11_lies 62 = .ok (.iload 7, 2) := by decide +kernel
theorem dX11_lies_64 : decode cX11_lies 64 = .ok (.invokevirtual 120, 3) := by decide +kernel
theorem dX11_lies_67 : decode cX11_lies 67 = .ok (.ifCond .ne 7, 3) := by decide +kernel
theorem dX11_lies_70 : decode cX11_lies 70 = .ok (.iconst 1, 1) := by decide +kernel
theorem dX11_lies_71 : decode cX11_lies 71 = .ok (.goto 4, 3) := by decide +kernel
theorem dX11_lies_74 : decode cX11_lies 74 = .ok (.iconst 0, 1) := by decide +kernel
theorem dX11_lies_75 : decode cX11_lies 75 = .ok (.istore 6, 2) := by decide +kernel
theorem dX11_lies_77 : decode cX11_lies 77 = .ok (.goto 73, 3) := by decide +kernel
theorem dX11_lies_80 : decode cX11_lies 80 = .ok (.aload_n 0, 1) := by decide +kernel
theorem dX11_lies_81 : decode cX11_lies 81 = .ok (.iload_n 2, 1) := by decide +kernel
theorem dX11_lies_82 : decode cX11_lies 82 = .ok (.iload 7, 2) := by decide +kernel
theorem dX11_lies_84 : decode cX11_lies 84 = .ok (.invokevirtual 120, 3) := by decide +kernel
theorem dX11_lies_87 : decode cX11_lies 87 = .ok (.ifCond .eq 63, 3) := by decide +kernel
theorem dX11_lies_90 : decode cX11_lies 90 = .ok (.aload_n 0, 1) := by decide +kernel
theorem dX11_lies_91 : decode cX11_lies 91 = .ok (.getfield 47, 3) := by decide +kernel
theorem dX11_lies_94 : decode cX11_lies 94 = .ok (.iload_n 2, 1) := by decide +kernel
theorem dX11_lies_95 : decode cX11_lies 95 = .ok (.iaload, 1) := by decide +kernel
theorem dX11_lies_96 : decode cX11_lies 96 = .ok (.aload_n 0, 1) := by decide +kernel
theorem dX11_lies_97 : decode cX11_lies 97 = .ok (.getfield 154, 3) := by decide +kernel
theorem dX11_lies_100 : decode cX11_lies 100 = .ok (.iload_n 1, 1) := by decide +kernel
theorem dX11_lies_101 : decode cX11_lies 101 = .ok (.iaload, 1) := by decide +kernel
theorem dX11_lies_102 : decode cX11_lies 102 = .ok (.invokestatic 137, 3) := by decide +kernel
theorem dX11_lies_105 : decode cX11_lies 105 = .ok (.ifCond .eq 45, 3) := by decide +kernel
theorem dX11_lies_108 : decode cX11_lies 108 = .ok (.iinc 4 (-1), 3) := by decide +kernel
theorem dX11_lies_111 : decode cX11_lies 111 = .ok (.iinc 5 1, 3) := by decide +kernel
theorem dX11_lies_114 : decode cX11_lies 114 = .ok (.iload 4, 2) := by decide +kernel
theorem dX11_lies_116 : decode cX11_lies 116 = .ok (.ifCond .ne 8, 3) := by decide +kernel
theorem dX11_lies_119 : decode cX11_lies 119 = .ok (.iload 7, 2) := by decide +kernel
theorem dX11_lies_121 : decode cX11_lies 121 = .ok (.iconst 1, 1) := by decide +kernel
theorem dX11_lies_122 : decode cX11_lies 122 = .ok (.iadd, 1) := by decide +kernel
theorem dX11_lies_123 : decode cX11_lies 123 = .ok (.ireturn, 1) := by decide +kernel
theorem dX11_lies_124 : decode cX11_lies 124 = .ok (.aload_n 0, 1) := by decide +kernel
theorem dX11_lies_125 : decode cX11_lies 125 = .ok (.getfield 163, 3) := by decide +kernel
theorem dX11_lies_128 : decode cX11_lies 128 = .ok (.iload_n 1, 1) := by decide +kernel
theorem dX11_lies_129 : decode cX11_lies 129 = .ok (.iaload, 1) := by decide +kernel
theorem dX11_lies_130 : decode cX11_lies 130 = .ok (.ifCond .lt 20, 3) := by decide +kernel
theorem dX11_lies_133 : decode cX11_lies 133 = .ok (.iload 5, 2) := by decide +kernel
theorem dX11_lies_135 : decode cX11_lies 135 = .ok (.aload_n 0, 1) := by decide +kernel
theorem dX11_lies_136 : decode cX11_lies 136 = .ok (.getfield 157, 3) := by decide +kernel
theorem dX11_lies_139 : decode cX11_lies 139 = .ok (.iload_n 1, 1) := by decide +kernel
theorem dX11_lies_140 : decode cX11_lies 140 = .ok (.iaload, 1) := by decide +kernel
theorem dX11_lies_141 : decode cX11_lies 141 = .ok (.if_icmp .ne 9, 3) := by decide +kernel
theorem dX11_lies_144 : decode cX11_lies 144 = .ok (.iconst 1, 1) := by decide +kernel
theorem dX11_lies_145 : decode cX11_lies 145 = .ok (.istore 6, 2) := by decide +kernel
theorem dX11_lies_147 : decode cX11_lies 147 = .ok (.iconst 0, 1) := by decide +kernel
theorem dX11_lies_148 : decode cX11_lies 148 = .ok (.istore 5, 2) := by decide +kernel
theorem dX11_lies_150 : decode cX11_lies 150 = .ok (.iinc 7 1, 3) := by decide +kernel
theorem dX11_lies_153 : decode cX11_lies 153 = .ok (.goto (-131), 3) := by decide +kernel
theorem dX11_lies_156 : decode cX11_lies 156 = .ok (.iconst (-1), 1) := by decide +kernel
theorem dX11_lies_157 : decode cX11_lies 157 = .ok (.ireturn, 1) := by decide +kernel
theorem dX11_lie_0 : decode cX11_lie 0 = .ok (.aload_n 0, 1) := by decide +kernel
theorem dX11_lie_1 : decode cX11_lie 1 = .ok (.iconst 0, 1) := by decide +kernel
theorem dX11_lie_2 : decode cX11_lie 2 = .ok (.putfield 3, 3) := by decide +kernel
theorem dX11_lie_5 : decode cX11_lie 5 = .ok (.aload_n 0, 1) := by decide +kernel
theorem dX11_lie_6 : decode cX11_lie 6 = .ok (.iload_n 1, 1) := by decide +kernel
theorem dX11_lie_7 : decode cX11_lie 7 = .ok (.invokevirtual 256, 3) := by decide +kernel
theorem dX11_lie_10 : decode cX11_lie 10 = .ok (.ifCond .eq 10, 3) := by decide +kernel
theorem dX11_lie_13 : decode cX11_lie 13 = .ok (.iload_n 2, 1) := by decide +kernel
theorem dX11_lie_14 : decode cX11_lie 14 = .ok (.invokestatic 81, 3) := by decide +kernel
theorem dX11_lie_17 : decode cX11_lie 17 = .ok (.ifCond .ne 5, 3) := by decide +kernel
theorem dX11_lie_20 : decode cX11_lie 20 = .ok (.iconst (-1), 1) := by decide +kernel
theorem dX11_lie_21 : decode cX11_lie 21 = .ok (.ireturn, 1) := by decide +kernel
theorem dX11_lie_22 : decode cX11_lie 22 = .ok (.bipush (-2), 2) := by decide +kernel
theorem dX11_lie_24 : decode cX11_lie 24 = .ok (.istore_n 3, 1) := by decide +kernel
theorem dX11_lie_25 : decode cX11_lie 25 = .ok (.iconst 0, 1) := by decide +kernel
theorem dX11_lie_26 : decode cX11_lie 26 = .ok (.istore 4, 2) := by decide +kernel
theorem dX11_lie_28 : decode cX11_lie 28 = .ok (.iconst 0, 1) := by decide +kernel
theorem dX11_lie_29 : decode cX11_lie 29 = .ok (.istore 5, 2) := by decide +kernel
theorem dX11_lie_31 : decode cX11_lie 31 = .ok (.iconst 0, 1) := by decide +kernel
theorem dX11_lie_32 : decode cX11_lie 32 = .ok (.istore 6, 2) := by decide +kernel
theorem dX11_lie_34 : decode cX11_lie 34 = .ok (.iload 6, 2) := by decide +kernel
theorem dX11_lie_36 : decode cX11_lie 36 = .ok (.aload_n 0, 1) := by decide +kernel
theorem dX11_lie_37 : decode cX11_lie 37 = .ok (.getfield 22, 3) := by decide +kernel
theorem dX11_lie_40 : decode cX11_lie 40 = .ok (.if_icmp .ge 48, 3) := by decide +kernel
theorem dX11_lie_43 : decode cX11_lie 43 = .ok (.aload_n 0, 1) := by decide +kernel
theorem dX11_lie_44 : decode cX11_lie 44 = .ok (.iload_n 1, 1) := by decide +kernel
theorem dX11_lie_45 : decode cX11_lie 45 = .ok (.iload 6, 2) := by decide +kernel
theorem dX11_lie_47 : decode cX11_lie 47 = .ok (.iload_n 2, 1) := by decide +kernel
theorem dX11_lie_48 : decode cX11_lie 48 = .ok (.invokevirtual 408, 3) := by decide +kernel
theorem dX11_lie_51 : decode cX11_lie 51 = .ok (.istore 7, 2) := by decide +kernel
theorem dX11_lie_53 : decode cX11_lie 53 = .ok (.iload 7, 2) := by decide +kernel
theorem dX11_lie_55 : decode cX11_lie 55 = .ok (.ifCond .lt 27, 3) := by decide +kernel
theorem dX11_lie_58 : decode cX11_lie 58 = .ok (.iload_n 3, 1) := by decide +kernel
theorem dX11_lie_59 : decode cX11_lie 59 = .ok (.ifCond .lt 10, 3) := by decide +kernel
theorem dX11_lie_62 : decode cX11_lie 62 = .ok (.iload 7, 2) := by decide +kernel
theorem dX11_lie_64 : decode cX11_lie 64 = .ok (.iload 4, 2) := by decide +kernel
theorem dX11_lie_66 : decode cX11_lie 66 = .ok (.if_icmp .ge 16, 3) := by decide +kernel
theorem dX11_lie_69 : decode cX11_lie 69 = .ok (.iload 6, 2) := by decide +kernel
theorem dX11_lie_71 : decode cX11_lie 71 = .ok (.istore_n 3, 1) := by decide +kernel
theorem dX11_lie_72 : decode cX11_lie 72 = .ok (.iload 7, 2) := by decide +kernel
theorem dX11_lie_74 : decode cX11_lie 74 = .ok (.istore 4, 2) := by decide +kernel
theorem dX11_lie_76 : decode cX11_lie 76 = .ok (.aload_n 0, 1) := by decide +kernel
theorem dX11_lie_77 : decode cX11_lie 77 = .ok (.getfield 405, 3) := by decide +kernel
theorem dX11_lie_80 : decode cX11_lie 80 = .ok (.istore 5, 2) := by decide +kernel
theorem dX11_lie_82 : decode cX11_lie 82 = .ok (.iinc 6 1, 3) := by decide +kernel
theorem dX11_lie_85 : decode cX11_lie 85 = .ok (.goto (-51), 3) := by decide +kernel
theorem dX11_lie_88 : decode cX11_lie 88 = .ok (.iload_n 3, 1) := by decide +kernel
theorem dX11_lie_89 : decode cX11_lie 89 = .ok (.ifCond .lt 22, 3) := by decide +kernel
theorem dX11_lie_92 : decode cX11_lie 92 = .ok (.aload_n 0, 1) := by decide +kernel
theorem dX11_lie_93 : decode cX11_lie 93 = .ok (.iconst 0, 1) := by decide +kernel
theorem dX11_lie_94 : decode cX11_lie 94 = .ok (.putfield 11, 3) := by decide +kernel
theorem dX11_lie_97 : decode cX11_lie 97 = .ok (.aload_n 0, 1) := by decide +kernel
theorem dX11_lie_98 : decode cX11_lie 98 = .ok (.iload 4, 2) := by decide +kernel
theorem dX11_lie_100 : decode cX11_lie 100 = .ok (.i2l, 1) := by decide +kernel
theorem dX11_lie_101 : decode cX11_lie 101 = .ok (.invokevirtual 18, 3) := by decide +kernel
theorem dX11_lie_104 : decode cX11_lie 104 = .ok (.aload_n 0, 1) := by decide +kernel
theorem dX11_lie_105 : decode cX11_lie 105 = .ok (.iload 5, 2) := by decide +kernel
theorem dX11_lie_107 : decode cX11_lie 107 = .ok (.i2l, 1) := by decide +kernel
theorem dX11_lie_108 : decode cX11_lie 108 = .ok (.invokevirtual 18, 3) := by decide +kernel
theorem dX11_lie_111 : decode cX11_lie 111 = .ok (.iload_n 3, 1) := by decide +kernel
theorem dX11_lie_112 : decode cX11_lie 112 = .ok (.ireturn, 1) := by decide +kernel
theorem dX11_keepsBorn_0 : decode cX11_keepsBorn 0 = .ok (.iconst 0, 1) := by decide +kernel
theorem dX11_keepsBorn_1 : decode cX11_keepsBorn 1 = .ok (.istore_n 1, 1) := by decide +kernel
theorem dX11_keepsBorn_2 : decode cX11_keepsBorn 2 = .ok (.iload_n 1, 1) := by decide +kernel
theorem dX11_keepsBorn_3 : decode cX11_keepsBorn 3 = .ok (.bipush 8, 2) := by decide +kernel
theorem dX11_keepsBorn_5 : decode cX11_keepsBorn 5 = .ok (.if_icmp .ge 21, 3) := by decide +kernel
theorem dX11_keepsBorn_8 : decode cX11_keepsBorn 8 = .ok (.aload_n 0, 1) := by decide +kernel
theorem dX11_keepsBorn_9 : decode cX11_keepsBorn 9 = .ok (.getfield 411, 3) := by decide +kernel
theorem dX11_keepsBorn_12 : decode cX11_keepsBorn 12 = .ok (.iload_n 1, 1) := by decide +kernel
theorem dX11_keepsBorn_13 : decode cX11_keepsBorn 13 = .ok (.aload_n 0, 1) := by decide +kernel
theorem dX11_keepsBorn_14 : decode cX11_keepsBorn 14 = .ok (.getfield 143, 3) := by decide +kernel
theorem dX11_keepsBorn_17 : decode cX11_keepsBorn 17 = .ok (.iload_n 1, 1) := by decide +kernel
theorem dX11_keepsBorn_18 : decode cX11_keepsBorn 18 = .ok (.iaload, 1) := by decide +kernel
theorem dX11_keepsBorn_19 : decode cX11_keepsBorn 19 = .ok (.iastore, 1) := by decide +kernel
theorem dX11_keepsBorn_20 : decode cX11_keepsBorn 20 = .ok (.iinc 1 1, 3) := by decide +kernel
theorem dX11_keepsBorn_23 : decode cX11_keepsBorn 23 = .ok (.goto (-21), 3) := by decide +kernel
theorem dX11_keepsBorn_26 : decode cX11_keepsBorn 26 = .ok (.return_, 1) := by decide +kernel
theorem dX11_givesBorn_0 : decode cX11_givesBorn 0 = .ok (.iconst 0, 1) := by decide +kernel
theorem dX11_givesBorn_1 : decode cX11_givesBorn 1 = .ok (.istore_n 1, 1) := by decide +kernel
theorem dX11_givesBorn_2 : decode cX11_givesBorn 2 = .ok (.iload_n 1, 1) := by decide +kernel
theorem dX11_givesBorn_3 : decode cX11_givesBorn 3 = .ok (.bipush 8, 2) := by decide +kernel
theorem dX11_givesBorn_5 : decode cX11_givesBorn 5 = .ok (.if_icmp .ge 21, 3) := by decide +kernel
theorem dX11_givesBorn_8 : decode cX11_givesBorn 8 = .ok (.aload_n 0, 1) := by decide +kernel
theorem dX11_givesBorn_9 : decode cX11_givesBorn 9 = .ok (.getfield 143, 3) := by decide +kernel
theorem dX11_givesBorn_12 : decode cX11_givesBorn 12 = .ok (.iload_n 1, 1) := by decide +kernel
theorem dX11_givesBorn_13 : decode cX11_givesBorn 13 = .ok (.aload_n 0, 1) := by decide +kernel
theorem dX11_givesBorn_14 : decode cX11_givesBorn 14 = .ok (.getfield 411, 3) := by decide +kernel
theorem dX11_givesBorn_17 : decode cX11_givesBorn 17 = .ok (.iload_n 1, 1) := by decide +kernel
theorem dX11_givesBorn_18 : decode cX11_givesBorn 18 = .ok (.iaload, 1) := by decide +kernel
theorem dX11_givesBorn_19 : decode cX11_givesBorn 19 = .ok (.iastore, 1) := by decide +kernel
theorem dX11_givesBorn_20 : decode cX11_givesBorn 20 = .ok (.iinc 1 1, 3) := by decide +kernel
theorem dX11_givesBorn_23 : decode cX11_givesBorn 23 = .ok (.goto (-21), 3) := by decide +kernel
theorem dX11_givesBorn_26 : decode cX11_givesBorn 26 = .ok (.return_, 1) := by decide +kernel
theorem dX11_movesHomes_0 : decode cX11_movesHomes 0 = .ok (.aload_n 0, 1) := by decide +kernel
theorem dX11_movesHomes_1 : decode cX11_movesHomes 1 = .ok (.getfield 151, 3) := by decide +kernel
theorem dX11_movesHomes_4 : decode cX11_movesHomes 4 = .ok (.iconst 1, 1) := by decide +kernel
theorem dX11_movesHomes_5 : decode cX11_movesHomes 5 = .ok (.isub, 1) := by decide +kernel
theorem dX11_movesHomes_6 : decode cX11_movesHomes 6 = .ok (.istore_n 2, 1) := by decide +kernel
theorem dX11_movesHomes_7 : decode cX11_movesHomes 7 = .ok (.iload_n 2, 1) := by decide +kernel
theorem dX11_movesHomes_8 : decode cX11_movesHomes 8 = .ok (.ifCond .lt 52, 3) := by decide +kernel
theorem dX11_movesHomes_11 : decode cX11_movesHomes 11 = .ok (.iload_n 1, 1) := by decide +kernel
theorem dX11_movesHomes_12 : decode cX11_movesHomes 12 = .ok (.iload_n 2, 1) := by decide +kernel
theorem dX11_movesHomes_13 : decode cX11_movesHomes 13 = .ok (.invokestatic 137, 3) := by decide +kernel
theorem dX11_movesHomes_16 : decode cX11_movesHomes 16 = .ok (.ifCond .ne 6, 3) := by decide +kernel
theorem dX11_movesHomes_19 : decode cX11_movesHomes 19 = .ok (.goto 35, 3) := by decide +kernel
theorem dX11_movesHomes_22 : decode cX11_movesHomes 22 = .ok (.aload_n 0, 1) := by decide +kernel
theorem dX11_movesHomes_23 : decode cX11_movesHomes 23 = .ok (.getfield 143, 3) := by decide +kernel
theorem dX11_movesHomes_26 : decode cX11_movesHomes 26 = .ok (.iload_n 2, 1) := by decide +kernel
theorem dX11_movesHomes_27 : decode cX11_movesHomes 27 = .ok (.dup2, 1) := by decide +kernel
theorem dX11_movesHomes_28 : decode cX11_movesHomes 28 = .ok (.iaload, 1) := by decide +kernel
theorem dX11_movesHomes_29 : decode cX11_movesHomes 29 = .ok (.iconst 1, 1) := by decide +kernel
theorem dX11_movesHomes_30 : decode cX11_movesHomes 30 = .ok (.iadd, 1) := by decide +kernel
theorem dX11_movesHomes_31 : decode cX11_movesHomes 31 = .ok (.iastore, 1) := by decide +kernel
theorem dX11_movesHomes_32 : decode cX11_movesHomes 32 = .ok (.aload_n 0, 1) := by decide +kernel
theorem dX11_movesHomes_33 : decode cX11_movesHomes 33 = .ok (.getfield 143, 3) := by decide +kernel
theorem dX11_movesHomes_36 : decode cX11_movesHomes 36 = .ok (.iload_n 2, 1) := by decide +kernel
theorem dX11_movesHomes_37 : decode cX11_movesHomes 37 = .ok (.iaload, 1) := by decide +kernel
theorem dX11_movesHomes_38 : decode cX11_movesHomes 38 = .ok (.aload_n 0, 1) := by decide +kernel
theorem dX11_movesHomes_39 : decode cX11_movesHomes 39 = .ok (.getfield 22, 3) := by decide +kernel
theorem dX11_movesHomes_42 : decode cX11_movesHomes 42 = .ok (.if_icmp .ge 5, 3) := by decide +kernel
theorem dX11_movesHomes_45 : decode cX11_movesHomes 45 = .ok (.iconst 1, 1) := by decide +kernel
theorem dX11_movesHomes_46 : decode cX11_movesHomes 46 = .ok (.ireturn, 1) := by decide +kernel
theorem dX11_movesHomes_47 : decode cX11_movesHomes 47 = .ok (.aload_n 0, 1) := by decide +kernel
theorem dX11_movesHomes_48 : decode cX11_movesHomes 48 = .ok (.getfield 143, 3) := by decide +kernel
theorem dX11_movesHomes_51 : decode cX11_movesHomes 51 = .ok (.iload_n 2, 1) := by decide +kernel
theorem dX11_movesHomes_52 : decode cX11_movesHomes 52 = .ok (.iconst 0, 1) := by decide +kernel
theorem dX11_movesHomes_53 : decode cX11_movesHomes 53 = .ok (.iastore, 1) := by decide +kernel
theorem dX11_movesHomes_54 : decode cX11_movesHomes 54 = .ok (.iinc 2 (-1), 3) := by decide +kernel
theorem dX11_movesHomes_57 : decode cX11_movesHomes 57 = .ok (.goto (-50), 3) := by decide +kernel
theorem dX11_movesHomes_60 : decode cX11_movesHomes 60 = .ok (.iconst 0, 1) := by decide +kernel
theorem dX11_movesHomes_61 : decode cX11_movesHomes 61 = .ok (.ireturn, 1) := by decide +kernel
theorem dX11_homes_0 : decode cX11_homes 0 = .ok (.aload_n 0, 1) := by decide +kernel
theorem dX11_homes_1 : decode cX11_homes 1 = .ok (.iconst 0, 1) := by decide +kernel
theorem dX11_homes_2 : decode cX11_homes 2 = .ok (.putfield 3, 3) := by decide +kernel
theorem dX11_homes_5 : decode cX11_homes 5 = .ok (.iload_n 1, 1) := by decide +kernel
theorem dX11_homes_6 : decode cX11_homes 6 = .ok (.i2l, 1) := by decide +kernel
theorem dX11_homes_7 : decode cX11_homes 7 = .ok (.lconst 1, 1) := by decide +kernel
theorem dX11_homes_8 : decode cX11_homes 8 = .ok (.iconst 1, 1) := by decide +kernel
theorem dX11_homes_9 : decode cX11_homes 9 = .ok (.aload_n 0, 1) := by decide +kernel
theorem dX11_homes_10 : decode cX11_homes 10 = .ok (.getfield 151, 3) := by decide +kernel
theorem dX11_homes_13 : decode cX11_homes 13 = .ok (.ishl, 1) := by decide +kernel
theorem dX11_homes_14 : decode cX11_homes 14 = .ok (.iconst 1, 1) := by decide +kernel
theorem dX11_homes_15 : decode cX11_homes 15 = .ok (.isub, 1) := by decide +kernel
theorem dX11_homes_16 : decode cX11_homes 16 = .ok (.i2l, 1) := by decide +kernel
theorem dX11_homes_17 : decode cX11_homes 17 = .ok (.invokestatic 25, 3) := by decide +kernel
theorem dX11_homes_20 : decode cX11_homes 20 = .ok (.ifCond .eq 18, 3) := by decide +kernel
theorem dX11_homes_23 : decode cX11_homes 23 = .ok (.iload_n 1, 1) := by decide +kernel
theorem dX11_homes_24 : decode cX11_homes 24 = .ok (.invokestatic 414, 3) := by decide +kernel
theorem dX11_homes_27 : decode cX11_homes 27 = .ok (.iconst 4, 1) := by decide +kernel
theorem dX11_homes_28 : decode cX11_homes 28 = .ok (.if_icmp .gt 10, 3) := by decide +kernel
theorem dX11_homes_31 : decode cX11_homes 31 = .ok (.iload_n 2, 1) := by decide +kernel
theorem dX11_homes_32 : decode cX11_homes 32 = .ok (.invokestatic 81, 3) := by decide +kernel
theorem dX11_homes_35 : decode cX11_homes 35 = .ok (.ifCond .ne 5, 3) := by decide +kernel
theorem dX11_homes_38 : decode cX11_homes 38 = .ok (.iconst (-1), 1) := by decide +kernel
theorem dX11_homes_39 : decode cX11_homes 39 = .ok (.ireturn, 1) := by decide +kernel
theorem dX11_homes_40 : decode cX11_homes 40 = .ok (.aload_n 0, 1) := by decide +kernel
theorem dX11_homes_41 : decode cX11_homes 41 = .ok (.getfield 199, 3) := by decide +kernel
theorem dX11_homes_44 : decode cX11_homes 44 = .ok (.iconst 0, 1) := by decide +kernel
theorem dX11_homes_45 : decode cX11_homes 45 = .ok (.iaload, 1) := by decide +kernel
theorem dX11_homes_46 : decode cX11_homes 46 = .ok (.istore_n 3, 1) := by decide +kernel
theorem dX11_homes_47 : decode cX11_homes 47 = .ok (.aload_n 0, 1) := by decide +kernel
theorem dX11_homes_48 : decode cX11_homes 48 = .ok (.getfield 199, 3) := by decide +kernel
theorem dX11_homes_51 : decode cX11_homes 51 = .ok (.iconst 0, 1) := by decide +kernel
theorem dX11_homes_52 : decode cX11_homes 52 = .ok (.iconst 0, 1) := by decide +kernel
theorem dX11_homes_53 : decode cX11_homes 53 = .ok (.iastore, 1) := by decide +kernel
theorem dX11_homes_54 : decode cX11_homes 54 = .ok (.aload_n 0, 1) := by decide +kernel
theorem dX11_homes_55 : decode cX11_homes 55 = .ok (.invokevirtual 419, 3) := by decide +kernel
theorem dX11_homes_58 : decode cX11_homes 58 = .ok (.iconst 0, 1) := by decide +kernel
theorem dX11_homes_59 : decode cX11_homes 59 = .ok (.istore 4, 2) := by decide +kernel
theorem dX11_homes_61 : decode cX11_homes 61 = .ok (.iload 4, 2) := by decide +kernel
theorem dX11_homes_63 : decode cX11_homes 63 = .ok (.aload_n 0, 1) := by decide +kernel
theorem dX11_homes_64 : decode cX11_homes 64 = .ok (.getfield 151, 3) := by decide +kernel
theorem dX11_homes_67 : decode cX11_homes 67 = .ok (.if_icmp .ge 36, 3) := by decide +kernel
theorem dX11_homes_70 : decode cX11_homes 70 = .ok (.aload_n 0, 1) := by decide +kernel
theorem dX11_homes_71 : decode cX11_homes 71 = .ok (.getfield 143, 3) := by decide +kernel
theorem dX11_homes_74 : decode cX11_homes 74 = .ok (.iload 4, 2) := by decide +kernel
theorem dX11_homes_76 : decode cX11_homes 76 = .ok (.iload_n 1, 1) := by decide +kernel
theorem dX11_homes_77 : decode cX11_homes 77 = .ok (.iload 4, 2) := by decide +kernel
theorem dX11_homes_79 : decode cX11_homes 79 = .ok (.invokestatic 137, 3) := by decide +kernel
theorem dX11_homes_82 : decode cX11_homes 82 = .ok (.ifCond .eq 7, 3) := by decide +kernel
theorem dX11_homes_85 : decode cX11_homes 85 = .ok (.iconst 0, 1) := by decide +kernel
theorem dX11_homes_86 : decode cX11_homes 86 = .ok (.goto 10, 3) := by decide +kernel
theorem dX11_homes_89 : decode cX11_homes 89 = .ok (.aload_n 0, 1) := by decide +kernel
theorem dX11_homes_90 : decode cX11_homes 90 = .ok (.getfield 143, 3) := by decide +kernel
theorem dX11_homes_93 : decode cX11_homes 93 = .ok (.iload 4, 2) := by decide +kernel
theorem dX11_homes_95 : decode cX11_homes 95 = .ok (.iaload, 1) := by decide +kernel
theorem dX11_homes_96 : decode cX11_homes 96 = .ok (.iastore, 1) := by decide +kernel
theorem dX11_homes_97 : decode cX11_homes 97 = .ok (.iinc 4 1, 3) := by decide +kernel
theorem dX11_homes_100 : decode cX11_homes 100 = .ok (.goto (-39), 3) := by decide +kernel
theorem dX11_homes_103 : decode cX11_homes 103 = .ok (.iconst (-1), 1) := by decide +kernel
theorem dX11_homes_104 : decode cX11_homes 104 = .ok (.istore 4, 2) := by decide +kernel
theorem dX11_homes_106 : decode cX11_homes 106 = .ok (.iconst 1, 1) := by decide +kernel
theorem dX11_homes_107 : decode cX11_homes 107 = .ok (.istore 5, 2) := by decide +kernel
theorem dX11_homes_109 : decode cX11_homes 109 = .ok (.iload 5, 2) := by decide +kernel
theorem dX11_homes_111 : decode cX11_homes 111 = .ok (.ifCond .eq 73, 3) := by decide +kernel
theorem dX11_homes_114 : decode cX11_homes 114 = .ok (.aload_n 0, 1) := by decide +kernel
theorem dX11_homes_115 : decode cX11_homes 115 = .ok (.iload_n 2, 1) := by decide +kernel
theorem dX11_homes_116 : decode cX11_homes 116 = .ok (.invokevirtual 422, 3) := by decide +kernel
theorem dX11_homes_119 : decode cX11_homes 119 = .ok (.istore 6, 2) := by decide +kernel
theorem dX11_homes_121 : decode cX11_homes 121 = .ok (.iload 6, 2) := by decide +kernel
theorem dX11_homes_123 : decode cX11_homes 123 = .ok (.ifCond .lt 51, 3) := by decide +kernel
theorem dX11_homes_126 : decode cX11_homes 126 = .ok (.iload 4, 2) := by decide +kernel
theorem dX11_homes_128 : decode cX11_homes 128 = .ok (.ifCond .lt 10, 3) := by decide +kernel
theorem dX11_homes_131 : decode cX11_homes 131 = .ok (.iload 6, 2) := by decide +kernel
theorem dX11_homes_133 : decode cX11_homes 133 = .ok (.iload 4, 2) := by decide +kernel
theorem dX11_homes_135 : decode cX11_homes 135 = .ok (.if_icmp .ge 39, 3) := by decide +kernel
theorem dX11_homes_138 : decode cX11_homes 138 = .ok (.iload 6, 2) := by decide +kernel
theorem dX11_homes_140 : decode cX11_homes 140 = .ok (.istore 4, 2) := by decide +kernel
theorem dX11_homes_142 : decode cX11_homes 142 = .ok (.iconst 0, 1) := by decide +kernel
theorem dX11_homes_143 : decode cX11_homes 143 = .ok (.istore 7, 2) := by decide +kernel
theorem dX11_homes_145 : decode cX11_homes 145 = .ok (.iload 7, 2) := by decide +kernel
theorem dX11_homes_147 : decode cX11_homes 147 = .ok (.aload_n 0, 1) := by decide +kernel
theorem dX11_homes_148 : decode cX11_homes 148 = .ok (.getfield 151, 3) := by decide +kernel
theorem dX11_homes_151 : decode cX11_homes 151 = .ok (.if_icmp .ge 23, 3) := by decide +kernel
theorem dX11_homes_154 : decode cX11_homes 154 = .ok (.aload_n 0, 1) := by decide +kernel
theorem dX11_homes_155 : decode cX11_homes 155 = .ok (.getfield 425, 3) := by decide +kernel
theorem dX11_homes_158 : decode cX11_homes 158 = .ok (.iload 7, 2) := by decide +kernel
theorem dX11_homes_160 : decode cX11_homes 160 = .ok (.aload_n 0, 1) := by decide +kernel
theorem dX11_homes_161 : decode cX11_homes 161 = .ok (.getfield 143, 3) := by decide +kernel
theorem dX11_homes_164 : decode cX11_homes 164 = .ok (.iload 7, 2) := by decide +kernel
theorem dX11_homes_166 : decode cX11_homes 166 = .ok (.iaload, 1) := by decide +kernel
theorem dX11_homes_167 : decode cX11_homes 167 = .ok (.iastore, 1) := by decide +kernel
theorem dX11_homes_168 : decode cX11_homes 168 = .ok (.iinc 7 1, 3) := by decide +kernel
theorem dX11_homes_171 : decode cX11_homes 171 = .ok (.goto (-26), 3) := by decide +kernel
theorem dX11_homes_174 : decode cX11_homes 174 = .ok (.aload_n 0, 1) := by decide +kernel
theorem dX11_homes_175 : decode cX11_homes 175 = .ok (.iload_n 1, 1) := by decide +kernel
theorem dX11_homes_176 : decode cX11_homes 176 = .ok (.invokevirtual 428, 3) := by decide +kernel
theorem dX11_homes_179 : decode cX11_homes 179 = .ok (.istore 5, 2) := by decide +kernel
theorem dX11_homes_181 : decode cX11_homes 181 = .ok (.goto (-72), 3) := by decide +kernel
theorem dX11_homes_184 : decode cX11_homes 184 = .ok (.aload_n 0, 1) := by decide +kernel
theorem dX11_homes_185 : decode cX11_homes 185 = .ok (.invokevirtual 431, 3) := by decide +kernel
theorem dX11_homes_188 : decode cX11_homes 188 = .ok (.aload_n 0, 1) := by decide +kernel
theorem dX11_homes_189 : decode cX11_homes 189 = .ok (.getfield 199, 3) := by decide +kernel
theorem dX11_homes_192 : decode cX11_homes 192 = .ok (.iconst 0, 1) := by decide +kernel
theorem dX11_homes_193 : decode cX11_homes 193 = .ok (.iload_n 3, 1) := by decide +kernel
theorem dX11_homes_194 : decode cX11_homes 194 = .ok (.iastore, 1) := by decide +kernel
theorem dX11_homes_195 : decode cX11_homes 195 = .ok (.iload 4, 2) := by decide +kernel
theorem dX11_homes_197 : decode cX11_homes 197 = .ok (.ifCond .ge 6, 3) := by decide +kernel
theorem dX11_homes_200 : decode cX11_homes 200 = .ok (.bipush (-2), 2) := by decide +kernel
theorem dX11_homes_202 : decode cX11_homes 202 = .ok (.ireturn, 1) := by decide +kernel
theorem dX11_homes_203 : decode cX11_homes 203 = .ok (.aload_n 0, 1) := by decide +kernel
theorem dX11_homes_204 : decode cX11_homes 204 = .ok (.iconst 0, 1) := by decide +kernel
theorem dX11_homes_205 : decode cX11_homes 205 = .ok (.putfield 11, 3) := by decide +kernel
theorem dX11_homes_208 : decode cX11_homes 208 = .ok (.iconst 0, 1) := by decide +kernel
theorem dX11_homes_209 : decode cX11_homes 209 = .ok (.istore 6, 2) := by decide +kernel
theorem dX11_homes_211 : decode cX11_homes 211 = .ok (.iload 6, 2) := by decide +kernel
theorem dX11_homes_213 : decode cX11_homes 213 = .ok (.aload_n 0, 1) := by decide +kernel
theorem dX11_homes_214 : decode cX11_homes 214 = .ok (.getfield 151, 3) := by decide +kernel
theorem dX11_homes_217 : decode cX11_homes 217 = .ok (.if_icmp .ge 30, 3) := by decide +kernel
theorem dX11_homes_220 : decode cX11_homes 220 = .ok (.iload_n 1, 1) := by decide +kernel
theorem dX11_homes_221 : decode cX11_homes 221 = .ok (.iload 6, 2) := by decide +kernel
theorem dX11_homes_223 : decode cX11_homes 223 = .ok (.invokestatic 137, 3) := by decide +kernel
theorem dX11_homes_226 : decode cX11_homes 226 = .ok (.ifCond .eq 15, 3) := by decide +kernel
theorem dX11_homes_229 : decode cX11_homes 229 = .ok (.aload_n 0, 1) := by decide +kernel
theorem dX11_homes_230 : decode cX11_homes 230 = .ok (.aload_n 0, 1) := by decide +kernel
theorem dX11_homes_231 : decode cX11_homes 231 = .ok (.getfield 425, 3) := by decide +kernel
theorem dX11_homes_234 : decode cX11_homes 234 = .ok (.iload 6, 2) := by decide +kernel
theorem dX11_homes_236 : decode cX11_homes 236 = .ok (.iaload, 1) := by decide +kernel
theorem dX11_homes_237 : decode cX11_homes 237 = .ok (.i2l, 1) := by decide +kernel
theorem dX11_homes_238 : decode cX11_homes 238 = .ok (.invokevirtual 18, 3) := by decide +kernel
theorem dX11_homes_241 : decode cX11_homes 241 = .ok (.iinc 6 1, 3) := by decide +kernel
theorem dX11_homes_244 : decode cX11_homes 244 = .ok (.goto (-33), 3) := by decide +kernel
theorem dX11_homes_247 : decode cX11_homes 247 = .ok (.iload 4, 2) := by decide +kernel
theorem dX11_homes_249 : decode cX11_homes 249 = .ok (.ireturn, 1) := by decide +kernel
theorem dX11_pair_0 : decode cX11_pair 0 = .ok (.aload_n 0, 1) := by decide +kernel
theorem dX11_pair_1 : decode cX11_pair 1 = .ok (.iconst 0, 1) := by decide +kernel
theorem dX11_pair_2 : decode cX11_pair 2 = .ok (.putfield 3, 3) := by decide +kernel
theorem dX11_pair_5 : decode cX11_pair 5 = .ok (.aload_n 0, 1) := by decide +kernel
theorem dX11_pair_6 : decode cX11_pair 6 = .ok (.iload_n 1, 1) := by decide +kernel
theorem dX11_pair_7 : decode cX11_pair 7 = .ok (.invokevirtual 77, 3) := by decide +kernel
theorem dX11_pair_10 : decode cX11_pair 10 = .ok (.ifCond .eq 37, 3) := by decide +kernel
theorem dX11_pair_13 : decode cX11_pair 13 = .ok (.aload_n 0, 1) := by decide +kernel
theorem dX11_pair_14 : decode cX11_pair 14 = .ok (.iload_n 2, 1) := by decide +kernel
theorem dX11_pair_15 : decode cX11_pair 15 = .ok (.invokevirtual 77, 3) := by decide +kernel
theorem dX11_pair_18 : decode cX11_pair 18 = .ok (.ifCond .eq 29, 3) := by decide +kernel
theorem dX11_pair_21 : decode cX11_pair 21 = .ok (.iload_n 1, 1) := by decide +kernel
theorem dX11_pair_22 : decode cX11_pair 22 = .ok (.iload_n 2, 1) := by decide +kernel
theorem dX11_pair_23 : decode cX11_pair 23 = .ok (.if_icmp .eq 24, 3) := by decide +kernel
theorem dX11_pair_26 : decode cX11_pair 26 = .ok (.iload_n 3, 1) := by decide +kernel
theorem dX11_pair_27 : decode cX11_pair 27 = .ok (.i2l, 1) := by decide +kernel
theorem dX11_pair_28 : decode cX11_pair 28 = .ok (.lconst 1, 1) := by decide +kernel
theorem dX11_pair_29 : decode cX11_pair 29 = .ok (.ldc2_w 67, 3) := by decide +kernel
theorem dX11_pair_32 : decode cX11_pair 32 = .ok (.invokestatic 25, 3) := by decide +kernel
theorem dX11_pair_35 : decode cX11_pair 35 = .ok (.ifCond .eq 12, 3) := by decide +kernel
theorem dX11_pair_38 : decode cX11_pair 38 = .ok (.aload_n 0, 1) := by decide +kernel
theorem dX11_pair_39 : decode cX11_pair 39 = .ok (.getfield 434, 3) := by decide +kernel
theorem dX11_pair_42 : decode cX11_pair 42 = .ok (.bipush 9, 2) := by decide +kernel
theorem dX11_pair_44 : decode cX11_pair 44 = .ok (.if_icmp .ne 5, 3) := by decide +kernel
theorem dX11_pair_47 : decode cX11_pair 47 = .ok (.iconst (-1), 1) := by decide +kernel
theorem dX11_pair_48 : decode cX11_pair 48 = .ok (.ireturn, 1) := by decide +kernel
theorem dX11_pair_49 : decode cX11_pair 49 = .ok (.iconst 0, 1) := by decide +kernel
theorem dX11_pair_50 : decode cX11_pair 50 = .ok (.istore 4, 2) := by decide +kernel
theorem dX11_pair_52 : decode cX11_pair 52 = .ok (.iload 4, 2) := by decide +kernel
theorem dX11_pair_54 : decode cX11_pair 54 = .ok (.aload_n 0, 1) := by decide +kernel
theorem dX11_pair_55 : decode cX11_pair 55 = .ok (.getfield 434, 3) := by decide +kernel
theorem dX11_pair_58 : decode cX11_pair 58 = .ok (.if_icmp .ge 55, 3) := by decide +kernel
theorem dX11_pair_61 : decode cX11_pair 61 = .ok (.aload_n 0, 1) := by decide +kernel
theorem dX11_pair_62 : decode cX11_pair 62 = .ok (.getfield 437, 3) := by decide +kernel
theorem dX11_pair_65 : decode cX11_pair 65 = .ok (.iload 4, 2) := by decide +kernel
theorem dX11_pair_67 : decode cX11_pair 67 = .ok (.iaload, 1) := by decide +kernel
theorem dX11_pair_68 : decode cX11_pair 68 = .ok (.iload_n 1, 1) := by decide +kernel
theorem dX11_pair_69 : decode cX11_pair 69 = .ok (.if_icmp .ne 14, 3) := by decide +kernel
theorem dX11_pair_72 : decode cX11_pair 72 = .ok (.aload_n 0, 1) := by decide +kernel
theorem dX11_pair_73 : decode cX11_pair 73 = .ok (.getfield 440, 3) := by decide +kernel
theorem dX11_pair_76 : decode cX11_pair 76 = .ok (.iload 4, 2) := by decide +kernel
theorem dX11_pair_78 : decode cX11_pair 78 = .ok (.iaload, 1) := by decide +kernel
theorem dX11_pair_79 : decode cX11_pair 79 = .ok (.iload_n 2, 1) := by decide +kernel
theorem dX11_pair_80 : decode cX11_pair 80 = .ok (.if_icmp .eq 25, 3) := by decide +kernel
theorem dX11_pair_83 : decode cX11_pair 83 = .ok (.aload_n 0, 1) := by decide +kernel
theorem dX11_pair_84 : decode cX11_pair 84 = .ok (.getfield 437, 3) := by decide +kernel
theorem dX11_pair_87 : decode cX11_pair 87 = .ok (.iload 4, 2) := by decide +kernel
theorem dX11_pair_89 : decode cX11_pair 89 = .ok (.iaload, 1) := by decide +kernel
theorem dX11_pair_90 : decode cX11_pair 90 = .ok (.iload_n 2, 1) := by decide +kernel
theorem dX11_pair_91 : decode cX11_pair 91 = .ok (.if_icmp .ne 16, 3) := by decide +kernel
theorem dX11_pair_94 : decode cX11_pair 94 = .ok (.aload_n 0, 1) := by decide +kernel
theorem dX11_pair_95 : decode cX11_pair 95 = .ok (.getfield 440, 3) := by decide +kernel
theorem dX11_pair_98 : decode cX11_pair 98 = .ok (.iload 4, 2) := by decide +kernel
theorem dX11_pair_100 : decode cX11_pair 100 = .ok (.iaload, 1) := by decide +kernel
theorem dX11_pair_101 : decode cX11_pair 101 = .ok (.iload_n 1, 1) := by decide +kernel
theorem dX11_pair_102 : decode cX11_pair 102 = .ok (.if_icmp .ne 5, 3) := by decide +kernel
theorem dX11_pair_105 : decode cX11_pair 105 = .ok (.iconst (-1), 1) := by decide +kernel
theorem dX11_pair_106 : decode cX11_pair 106 = .ok (.ireturn, 1) := by decide +kernel
theorem dX11_pair_107 : decode cX11_pair 107 = .ok (.iinc 4 1, 3) := by decide +kernel
theorem dX11_pair_110 : decode cX11_pair 110 = .ok (.goto (-58), 3) := by decide +kernel
theorem dX11_pair_113 : decode cX11_pair 113 = .ok (.aload_n 0, 1) := by decide +kernel
theorem dX11_pair_114 : decode cX11_pair 114 = .ok (.getfield 437, 3) := by decide +kernel
theorem dX11_pair_117 : decode cX11_pair 117 = .ok (.aload_n 0, 1) := by decide +kernel
theorem dX11_pair_118 : decode cX11_pair 118 = .ok (.getfield 434, 3) := by decide +kernel
theorem dX11_pair_121 : decode cX11_pair 121 = .ok (.iload_n 1, 1) := by decide +kernel
theorem dX11_pair_122 : decode cX11_pair 122 = .ok (.iastore, 1) := by decide +kernel
theorem dX11_pair_123 : decode cX11_pair 123 = .ok (.aload_n 0, 1) := by decide +kernel
theorem dX11_pair_124 : decode cX11_pair 124 = .ok (.getfield 440, 3) := by decide +kernel
theorem dX11_pair_127 : decode cX11_pair 127 = .ok (.aload_n 0, 1) := by decide +kernel
theorem dX11_pair_128 : decode cX11_pair 128 = .ok (.getfield 434, 3) := by decide +kernel
theorem dX11_pair_131 : decode cX11_pair 131 = .ok (.iload_n 2, 1) := by decide +kernel
theorem dX11_pair_132 : decode cX11_pair 132 = .ok (.iastore, 1) := by decide +kernel
theorem dX11_pair_133 : decode cX11_pair 133 = .ok (.aload_n 0, 1) := by decide +kernel
theorem dX11_pair_134 : decode cX11_pair 134 = .ok (.getfield 443, 3) := by decide +kernel
theorem dX11_pair_137 : decode cX11_pair 137 = .ok (.aload_n 0, 1) := by decide +kernel
theorem dX11_pair_138 : decode cX11_pair 138 = .ok (.getfield 434, 3) := by decide +kernel
theorem dX11_pair_141 : decode cX11_pair 141 = .ok (.iload_n 3, 1) := by decide +kernel
theorem dX11_pair_142 : decode cX11_pair 142 = .ok (.iastore, 1) := by decide +kernel
theorem dX11_pair_143 : decode cX11_pair 143 = .ok (.aload_n 0, 1) := by decide +kernel
theorem dX11_pair_144 : decode cX11_pair 144 = .ok (.dup, 1) := by decide +kernel
theorem dX11_pair_145 : decode cX11_pair 145 = .ok (.getfield 434, 3) := by decide +kernel
theorem dX11_pair_148 : decode cX11_pair 148 = .ok (.iconst 1, 1) := by decide +kernel
theorem dX11_pair_149 : decode cX11_pair 149 = .ok (.iadd, 1) := by decide +kernel
theorem dX11_pair_150 : decode cX11_pair 150 = .ok (.putfield 434, 3) := by decide +kernel
theorem dX11_pair_153 : decode cX11_pair 153 = .ok (.aload_n 0, 1) := by decide +kernel
theorem dX11_pair_154 : decode cX11_pair 154 = .ok (.getfield 434, 3) := by decide +kernel
theorem dX11_pair_157 : decode cX11_pair 157 = .ok (.ireturn, 1) := by decide +kernel
theorem dX11_endsWith_0 : decode cX11_endsWith 0 = .ok (.iconst 0, 1) := by decide +kernel
theorem dX11_endsWith_1 : decode cX11_endsWith 1 = .ok (.istore_n 3, 1) := by decide +kernel
theorem dX11_endsWith_2 : decode cX11_endsWith 2 = .ok (.iload_n 3, 1) := by decide +kernel
theorem dX11_endsWith_3 : decode cX11_endsWith 3 = .ok (.aload_n 0, 1) := by decide +kernel
theorem dX11_endsWith_4 : decode cX11_endsWith 4 = .ok (.getfield 446, 3) := by decide +kernel
theorem dX11_endsWith_7 : decode cX11_endsWith 7 = .ok (.arraylength, 1) := by decide +kernel
theorem dX11_endsWith_8 : decode cX11_endsWith 8 = .ok (.if_icmp .ge 21, 3) := by decide +kernel
theorem dX11_endsWith_11 : decode cX11_endsWith 11 = .ok (.aload_n 0, 1) := by decide +kernel
theorem dX11_endsWith_12 : decode cX11_endsWith 12 = .ok (.getfield 446, 3) := by decide +kernel
theorem dX11_endsWith_15 : decode cX11_endsWith 15 = .ok (.iload_n 3, 1) := by decide +kernel
theorem dX11_endsWith_16 : decode cX11_endsWith 16 = .ok (.aload_n 0, 1) := by decide +kernel
theorem dX11_endsWith_17 : decode cX11_endsWith 17 = .ok (.getfield 60, 3) := by decide +kernel
theorem dX11_endsWith_20 : decode cX11_endsWith 20 = .ok (.iload_n 3, 1) := by decide +kernel
theorem dX11_endsWith_21 : decode cX11_endsWith 21 = .ok (.iaload, 1) := by decide +kernel
theorem dX11_endsWith_22 : decode cX11_endsWith 22 = .ok (.iastore, 1) := by decide +kernel
theorem dX11_endsWith_23 : decode cX11_endsWith 23 = .ok (.iinc 3 1, 3) := by decide +kernel
theorem dX11_endsWith_26 : decode cX11_endsWith 26 = .ok (.goto (-24), 3) := by decide +kernel
theorem dX11_endsWith_29 : decode cX11_endsWith 29 = .ok (.iconst 0, 1) := by decide +kernel
theorem dX11_endsWith_30 : decode cX11_endsWith 30 = .ok (.istore_n 3, 1) := by decide +kernel
theorem dX11_endsWith_31 : decode cX11_endsWith 31 = .ok (.iload_n 3, 1) := by decide +kernel
theorem dX11_endsWith_32 : decode cX11_endsWith 32 = .ok (.aload_n 0, 1) := by decide +kernel
theorem dX11_endsWith_33 : decode cX11_endsWith 33 = .ok (.getfield 434, 3) := by decide +kernel
theorem dX11_endsWith_36 : decode cX11_endsWith 36 = .ok (.if_icmp .ge 61, 3) := by decide +kernel
theorem dX11_endsWith_39 : decode cX11_endsWith 39 = .ok (.iload_n 1, 1) := by decide +kernel
theorem dX11_endsWith_40 : decode cX11_endsWith 40 = .ok (.iload_n 3, 1) := by decide +kernel
theorem dX11_endsWith_41 : decode cX11_endsWith 41 = .ok (.invokestatic 137, 3) := by decide +kernel
theorem dX11_endsWith_44 : decode cX11_endsWith 44 = .ok (.ifCond .eq 47, 3) := by decide +kernel
theorem dX11_endsWith_47 : decode cX11_endsWith 47 = .ok (.aload_n 0, 1) := by decide +kernel
theorem dX11_endsWith_48 : decode cX11_endsWith 48 = .ok (.aload_n 0, 1) := by decide +kernel
theorem dX11_endsWith_49 : decode cX11_endsWith 49 = .ok (.getfield 437, 3) := by decide +kernel
theorem dX11_endsWith_52 : decode cX11_endsWith 52 = .ok (.iload_n 3, 1) := by decide +kernel
theorem dX11_endsWith_53 : decode cX11_endsWith 53 = .ok (.iaload, 1) := by decide +kernel
theorem dX11_endsWith_54 : decode cX11_endsWith 54 = .ok (.aload_n 0, 1) := by decide +kernel
theorem dX11_endsWith_55 : decode cX11_endsWith 55 = .ok (.getfield 440, 3) := by decide +kernel
theorem dX11_endsWith_58 : decode cX11_endsWith 58 = .ok (.iload_n 3, 1) := by decide +kernel
theorem dX11_endsWith_59 : decode cX11_endsWith 59 = .ok (.iaload, 1) := by decide +kernel
theorem dX11_endsWith_60 : decode cX11_endsWith 60 = .ok (.bipush 9, 2) := by decide +kernel
theorem dX11_endsWith_62 : decode cX11_endsWith 62 = .ok (.aload_n 0, 1) := by decide +kernel
theorem dX11_endsWith_63 : decode cX11_endsWith 63 = .ok (.getfield 60, 3) := by decide +kernel
theorem dX11_endsWith_66 : decode cX11_endsWith 66 = .ok (.bipush 6, 2) := by decide +kernel
theorem dX11_endsWith_68 : decode cX11_endsWith 68 = .ok (.aload_n 0, 1) := by decide +kernel
theorem dX11_endsWith_69 : decode cX11_endsWith 69 = .ok (.getfield 437, 3) := by decide +kernel
theorem dX11_endsWith_72 : decode cX11_endsWith 72 = .ok (.iload_n 3, 1) := by decide +kernel
theorem dX11_endsWith_73 : decode cX11_endsWith 73 = .ok (.iaload, 1) := by decide +kernel
theorem dX11_endsWith_74 : decode cX11_endsWith 74 = .ok (.imul, 1) := by decide +kernel
theorem dX11_endsWith_75 : decode cX11_endsWith 75 = .ok (.aload_n 0, 1) := by decide +kernel
theorem dX11_endsWith_76 : decode cX11_endsWith 76 = .ok (.getfield 440, 3) := by decide +kernel
theorem dX11_endsWith_79 : decode cX11_endsWith 79 = .ok (.iload_n 3, 1) := by decide +kernel
theorem dX11_endsWith_80 : decode cX11_endsWith 80 = .ok (.iaload, 1) := by decide +kernel
theorem dX11_endsWith_81 : decode cX11_endsWith 81 = .ok (.iadd, 1) := by decide +kernel
theorem dX11_endsWith_82 : decode cX11_endsWith 82 = .ok (.iaload, 1) := by decide +kernel
theorem dX11_endsWith_83 : decode cX11_endsWith 83 = .ok (.iconst 3, 1) := by decide +kernel
theorem dX11_endsWith_84 : decode cX11_endsWith 84 = .ok (.iadd, 1) := by decide +kernel
theorem dX11_endsWith_85 : decode cX11_endsWith 85 = .ok (.invokestatic 95, 3) := by decide +kernel
theorem dX11_endsWith_88 : decode cX11_endsWith 88 = .ok (.invokevirtual 89, 3) := by decide +kernel
theorem dX11_endsWith_91 : decode cX11_endsWith 91 = .ok (.iinc 3 1, 3) := by decide +kernel
theorem dX11_endsWith_94 : decode cX11_endsWith 94 = .ok (.goto (-63), 3) := by decide +kernel
theorem dX11_endsWith_97 : decode cX11_endsWith 97 = .ok (.aload_n 0, 1) := by decide +kernel
theorem dX11_endsWith_98 : decode cX11_endsWith 98 = .ok (.iload_n 2, 1) := by decide +kernel
theorem dX11_endsWith_99 : decode cX11_endsWith 99 = .ok (.invokevirtual 422, 3) := by decide +kernel
theorem dX11_endsWith_102 : decode cX11_endsWith 102 = .ok (.istore_n 3, 1) := by decide +kernel
theorem dX11_endsWith_103 : decode cX11_endsWith 103 = .ok (.iconst 0, 1) := by decide +kernel
theorem dX11_endsWith_104 : decode cX11_endsWith 104 = .ok (.istore 4, 2) := by decide +kernel
theorem dX11_endsWith_106 : decode cX11_endsWith 106 = .ok (.iload 4, 2) := by decide +kernel
theorem dX11_endsWith_108 : decode cX11_endsWith 108 = .ok (.aload_n 0, 1) := by decide +kernel
theorem dX11_endsWith_109 : decode cX11_endsWith 109 = .ok (.getfield 446, 3) := by decide +kernel
theorem dX11_endsWith_112 : decode cX11_endsWith 112 = .ok (.arraylength, 1) := by decide +kernel
theorem dX11_endsWith_113 : decode cX11_endsWith 113 = .ok (.if_icmp .ge 23, 3) := by decide +kernel
theorem dX11_endsWith_116 : decode cX11_endsWith 116 = .ok (.aload_n 0, 1) := by decide +kernel
theorem dX11_endsWith_117 : decode cX11_endsWith 117 = .ok (.getfield 60, 3) := by decide +kernel
theorem dX11_endsWith_120 : decode cX11_endsWith 120 = .ok (.iload 4, 2) := by decide +kernel
theorem dX11_endsWith_122 : decode cX11_endsWith 122 = .ok (.aload_n 0, 1) := by decide +kernel
theorem dX11_endsWith_123 : decode cX11_endsWith 123 = .ok (.getfield 446, 3) := by decide +kernel
theorem dX11_endsWith_126 : decode cX11_endsWith 126 = .ok (.iload 4, 2) := by decide +kernel
theorem dX11_endsWith_128 : decode cX11_endsWith 128 = .ok (.iaload, 1) := by decide +kernel
theorem dX11_endsWith_129 : decode cX11_endsWith 129 = .ok (.iastore, 1) := by decide +kernel
theorem dX11_endsWith_130 : decode cX11_endsWith 130 = .ok (.iinc 4 1, 3) := by decide +kernel
theorem dX11_endsWith_133 : decode cX11_endsWith 133 = .ok (.goto (-27), 3) := by decide +kernel
theorem dX11_endsWith_136 : decode cX11_endsWith 136 = .ok (.iload_n 3, 1) := by decide +kernel
theorem dX11_endsWith_137 : decode cX11_endsWith 137 = .ok (.ireturn, 1) := by decide +kernel
theorem dX11_whom_0 : decode cX11_whom 0 = .ok (.aload_n 0, 1) := by decide +kernel
theorem dX11_whom_1 : decode cX11_whom 1 = .ok (.iconst 0, 1) := by decide +kernel
theorem dX11_whom_2 : decode cX11_whom 2 = .ok (.putfield 3, 3) := by decide +kernel
theorem dX11_whom_5 : decode cX11_whom 5 = .ok (.iload_n 1, 1) := by decide +kernel
theorem dX11_whom_6 : decode cX11_whom 6 = .ok (.i2l, 1) := by decide +kernel
theorem dX11_whom_7 : decode cX11_whom 7 = .ok (.lconst 0, 1) := by decide +kernel
theorem dX11_whom_8 : decode cX11_whom 8 = .ok (.ldc2_w 449, 3) := by decide +kernel
theorem dX11_whom_11 : decode cX11_whom 11 = .ok (.invokestatic 25, 3) := by decide +kernel
theorem dX11_whom_14 : decode cX11_whom 14 = .ok (.ifCond .eq 17, 3) := by decide +kernel
theorem dX11_whom_17 : decode cX11_whom 17 = .ok (.iload_n 2, 1) := by decide +kernel
theorem dX11_whom_18 : decode cX11_whom 18 = .ok (.invokestatic 81, 3) := by decide +kernel
theorem dX11_whom_21 : decode cX11_whom 21 = .ok (.ifCond .eq 10, 3) := by decide +kernel
theorem dX11_whom_24 : decode cX11_whom 24 = .ok (.aload_n 0, 1) := by decide +kernel
theorem dX11_whom_25 : decode cX11_whom 25 = .ok (.getfield 151, 3) := by decide +kernel
theorem dX11_whom_28 : decode cX11_whom 28 = .ok (.ifCond .ne 5, 3) := by decide +kernel
theorem dX11_whom_31 : decode cX11_whom 31 = .ok (.iconst (-1), 1) := by decide +kernel
theorem dX11_whom_32 : decode cX11_whom 32 = .ok (.ireturn, 1) := by decide +kernel
theorem dX11_whom_33 : decode cX11_whom 33 = .ok (.iconst (-1), 1) := by decide +kernel
theorem dX11_whom_34 : decode cX11_whom 34 = .ok (.istore_n 3, 1) := by decide +kernel
theorem dX11_whom_35 : decode cX11_whom 35 = .ok (.iconst 0, 1) := by decide +kernel
theorem dX11_whom_36 : decode cX11_whom 36 = .ok (.istore 4, 2) := by decide +kernel
theorem dX11_whom_38 : decode cX11_whom 38 = .ok (.iconst 0, 1) := by decide +kernel
theorem dX11_whom_39 : decode cX11_whom 39 = .ok (.istore 5, 2) := by decide +kernel
theorem dX11_whom_41 : decode cX11_whom 41 = .ok (.iconst 0, 1) := by decide +kernel
theorem dX11_whom_42 : decode cX11_whom 42 = .ok (.istore 6, 2) := by decide +kernel
theorem dX11_whom_44 : decode cX11_whom 44 = .ok (.iload 6, 2) := by decide +kernel
theorem dX11_whom_46 : decode cX11_whom 46 = .ok (.iconst 1, 1) := by decide +kernel
theorem dX11_whom_47 : decode cX11_whom 47 = .ok (.aload_n 0, 1) := by decide +kernel
theorem dX11_whom_48 : decode cX11_whom 48 = .ok (.getfield 434, 3) := by decide +kernel
theorem dX11_whom_51 : decode cX11_whom 51 = .ok (.ishl, 1) := by decide +kernel
theorem dX11_whom_52 : decode cX11_whom 52 = .ok (.if_icmp .ge 114, 3) := by decide +kernel
theorem dX11_whom_55 : decode cX11_whom 55 = .ok (.iconst 0, 1) := by decide +kernel
theorem dX11_whom_56 : decode cX11_whom 56 = .ok (.istore 7, 2) := by decide +kernel
theorem dX11_whom_58 : decode cX11_whom 58 = .ok (.iconst 0, 1) := by decide +kernel
theorem dX11_whom_59 : decode cX11_whom 59 = .ok (.istore 8, 2) := by decide +kernel
theorem dX11_whom_61 : decode cX11_whom 61 = .ok (.iload 8, 2) := by decide +kernel
theorem dX11_whom_63 : decode cX11_whom 63 = .ok (.aload_n 0, 1) := by decide +kernel
theorem dX11_whom_64 : decode cX11_whom 64 = .ok (.getfield 434, 3) := by decide +kernel
theorem dX11_whom_67 : decode cX11_whom 67 = .ok (.if_icmp .ge 35, 3) := by decide +kernel
theorem dX11_whom_70 : decode cX11_whom 70 = .ok (.iload 7, 2) := by decide +kernel
theorem dX11_whom_72 : decode cX11_whom 72 = .ok (.iload 6, 2) := by decide +kernel
theorem dX11_whom_74 : decode cX11_whom 74 = .ok (.iload 8, 2) := by decide +kernel
theorem dX11_whom_76 : decode cX11_whom 76 = .ok (.invokestatic 137, 3) := by decide +kernel
theorem dX11_whom_79 : decode cX11_whom 79 = .ok (.ifCond .eq 13, 3) := by decide +kernel
theorem dX11_whom_82 : decode cX11_whom 82 = .ok (.aload_n 0, 1) := by decide +kernel
theorem dX11_whom_83 : decode cX11_whom 83 = .ok (.getfield 443, 3) := by decide +kernel
theorem dX11_whom_86 : decode cX11_whom 86 = .ok (.iload 8, 2) := by decide +kernel
theorem dX11_whom_88 : decode cX11_whom 88 = .ok (.iaload, 1) := by decide +kernel
theorem dX11_whom_89 : decode cX11_whom 89 = .ok (.goto 4, 3) := by decide +kernel
theorem dX11_whom_92 : decode cX11_whom 92 = .ok (.iconst 0, 1) := by decide +kernel
theorem dX11_whom_93 : decode cX11_whom 93 = .ok (.iadd, 1) := by decide +kernel
theorem dX11_whom_94 : decode cX11_whom 94 = .ok (.istore 7, 2) := by decide +kernel
theorem dX11_whom_96 : decode cX11_whom 96 = .ok (.iinc 8 1, 3) := by decide +kernel
theorem dX11_whom_99 : decode cX11_whom 99 = .ok (.goto (-38), 3) := by decide +kernel
theorem dX11_whom_102 : decode cX11_whom 102 = .ok (.iload 7, 2) := by decide +kernel
theorem dX11_whom_104 : decode cX11_whom 104 = .ok (.iload_n 1, 1) := by decide +kernel
theorem dX11_whom_105 : decode cX11_whom 105 = .ok (.if_icmp .le 7, 3) := by decide +kernel
theorem dX11_whom_108 : decode cX11_whom 108 = .ok (.iconst (-1), 1) := by decide +kernel
theorem dX11_whom_109 : decode cX11_whom 109 = .ok (.goto 10, 3) := by decide +kernel
theorem dX11_whom_112 : decode cX11_whom 112 = .ok (.aload_n 0, 1) := by decide +kernel
theorem dX11_whom_113 : decode cX11_whom 113 = .ok (.iload 6, 2) := by decide +kernel
theorem dX11_whom_115 : decode cX11_whom 115 = .ok (.iload_n 2, 1) := by decide +kernel
theorem dX11_whom_116 : decode cX11_whom 116 = .ok (.invokevirtual 451, 3) := by decide +kernel
theorem dX11_whom_119 : decode cX11_whom 119 = .ok (.istore 8, 2) := by decide +kernel
theorem dX11_whom_121 : decode cX11_whom 121 = .ok (.iload 8, 2) := by decide +kernel
theorem dX11_whom_123 : decode cX11_whom 123 = .ok (.ifCond .lt 37, 3) := by decide +kernel
theorem dX11_whom_126 : decode cX11_whom 126 = .ok (.iload_n 3, 1) := by decide +kernel
theorem dX11_whom_127 : decode cX11_whom 127 = .ok (.ifCond .lt 22, 3) := by decide +kernel
theorem dX11_whom_130 : decode cX11_whom 130 = .ok (.iload 8, 2) := by decide +kernel
theorem dX11_whom_132 : decode cX11_whom 132 = .ok (.iload_n 3, 1) := by decide +kernel
theorem dX11_whom_133 : decode cX11_whom 133 = .ok (.if_icmp .lt 16, 3) := by decide +kernel
theorem dX11_whom_136 : decode cX11_whom 136 = .ok (.iload 8, 2) := by decide +kernel
theorem dX11_whom_138 : decode cX11_whom 138 = .ok (.iload_n 3, 1) := by decide +kernel
theorem dX11_whom_139 : decode cX11_whom 139 = .ok (.if_icmp .ne 21, 3) := by decide +kernel
theorem dX11_whom_142 : decode cX11_whom 142 = .ok (.iload 7, 2) := by decide +kernel
theorem dX11_whom_144 : decode cX11_whom 144 = .ok (.iload 5, 2) := by decide +kernel
theorem dX11_whom_146 : decode cX11_whom 146 = .ok (.if_icmp .ge 14, 3) := by decide +kernel
theorem dX11_whom_149 : decode cX11_whom 149 = .ok (.iload 8, 2) := by decide +kernel
theorem dX11_whom_151 : decode cX11_whom 151 = .ok (.istore_n 3, 1) := by decide +kernel
theorem dX11_whom_152 : decode cX11_whom 152 = .ok (.iload 6, 2) := by decide +kernel
theorem dX11_whom_154 : decode cX11_whom 154 = .ok (.istore 4, 2) := by decide +kernel
theorem dX11_whom_156 : decode cX11_whom 156 = .ok (.iload 7, 2) := by decide +kernel
theorem dX11_whom_158 : decode cX11_whom 158 = .ok (.istore 5, 2) := by decide +kernel
theorem dX11_whom_160 : decode cX11_whom 160 = .ok (.iinc 6 1, 3) := by decide +kernel
theorem dX11_whom_163 : decode cX11_whom 163 = .ok (.goto (-119), 3) := by decide +kernel
theorem dX11_whom_166 : decode cX11_whom 166 = .ok (.iload_n 3, 1) := by decide +kernel
theorem dX11_whom_167 : decode cX11_whom 167 = .ok (.ifCond .ge 6, 3) := by decide +kernel
theorem dX11_whom_170 : decode cX11_whom 170 = .ok (.bipush (-2), 2) := by decide +kernel
theorem dX11_whom_172 : decode cX11_whom 172 = .ok (.ireturn, 1) := by decide +kernel
theorem dX11_whom_173 : decode cX11_whom 173 = .ok (.aload_n 0, 1) := by decide +kernel
theorem dX11_whom_174 : decode cX11_whom 174 = .ok (.iconst 0, 1) := by decide +kernel
theorem dX11_whom_175 : decode cX11_whom 175 = .ok (.putfield 11, 3) := by decide +kernel
theorem dX11_whom_178 : decode cX11_whom 178 = .ok (.aload_n 0, 1) := by decide +kernel
theorem dX11_whom_179 : decode cX11_whom 179 = .ok (.iload 4, 2) := by decide +kernel
theorem dX11_whom_181 : decode cX11_whom 181 = .ok (.i2l, 1) := by decide +kernel
theorem dX11_whom_182 : decode cX11_whom 182 = .ok (.invokevirtual 18, 3) := by decide +kernel
theorem dX11_whom_185 : decode cX11_whom 185 = .ok (.aload_n 0, 1) := by decide +kernel
theorem dX11_whom_186 : decode cX11_whom 186 = .ok (.iload 5, 2) := by decide +kernel
theorem dX11_whom_188 : decode cX11_whom 188 = .ok (.i2l, 1) := by decide +kernel
theorem dX11_whom_189 : decode cX11_whom 189 = .ok (.invokevirtual 18, 3) := by decide +kernel
theorem dX11_whom_192 : decode cX11_whom 192 = .ok (.iload_n 3, 1) := by decide +kernel
theorem dX11_whom_193 : decode cX11_whom 193 = .ok (.ireturn, 1) := by decide +kernel
noncomputable def f_X11_edge_122 (fu : Nat) (x4 : Int32) (x5 : Int32) (x6 : Int32) (m : hM) : Option (Int32 × hM) :=
  hLet (sI m 96 14 x5) fun m16 =>
hLet (sI m16 96 1 0) fun m17 =>
hBd (f_X11_enters fu (Int32.toInt64 x4) m17) fun _ m18 =>
some (x6, m18)
set_option maxRecDepth 100000 in
set_option maxHeartbeats 4000000 in
theorem r_X11_edge_122 {G : hG} {X : hX} (C : Cx G X 8 cX11_edge 9 RX11 (some .int)) (K : Cr G X) (fu : Nat) (x4 : Int32) (x5 : Int32) (x6 : Int32) (m : hM) : Rf vI G X 122 [(0, hA G 96), (4, .int x4), (5, .int x5), (6, .int x6)] [] m (f_X11_edge_122 fu x4 x5 x6 m) := by
  unfold f_X11_edge_122
  refine rf_aload_n C (n := 123) (q := 0) dX11_edge_122 rfl rfl rfl ?_
  refine rf_iload C (n := 125) (q := 2) dX11_edge_123 rfl rfl ?_
  refine rf_putI C (n := 128) pl_RX11_108 ly_96 rfl ⟨rfl, rfl⟩ dX11_edge_125 rfl ?_
  refine rf_letM (fun m16 => ?_)
  refine rf_aload_n C (n := 129) (q := 0) dX11_edge_128 rfl rfl rfl ?_
  refine rf_iconst C (n := 130) (v := 0) dX11_edge_129 rfl (by decide) ?_
  refine rf_putI C (n := 133) pl_RX11_11 ly_96 rfl ⟨rfl, rfl⟩ dX11_edge_130 rfl ?_
  refine rf_letM (fun m17 => ?_)
  refine rf_aload_n C (n := 134) (q := 0) dX11_edge_133 rfl rfl rfl ?_
  refine rf_iload C (n := 136) (q := 1) dX11_edge_134 rfl rfl ?_
  refine rf_i2l C (n := 137) dX11_edge_136 rfl ?_
  refine rf_callVv C (n := 140) (c_X11_enters G fu _ _) mw_RX11_18 ly_96 rfl ⟨by decide, by decide⟩ rfl (Nat.le_of_ble_eq_true rfl) rfl dX11_edge_137 rfl (fun _ m18 => ?_)
  refine rf_iload C (n := 142) (q := 3) dX11_edge_140 rfl rfl ?_
  exact rf_iret C K dX11_edge_142
noncomputable def f_X11_edge_114 (fu : Nat) (k67 : Int32 → Int32 → Int32 → Int32 → Int32 → Int32 → Int32 → Int32 → hM → Option (Int32 × hM)) (x1 : Int32) (x2 : Int32) (x3 : Int32) (x4 : Int32) (x5 : Int32) (x7 : Int32) (x8 : Int32) (s0 : Int32) (m : hM) : Option (Int32 × hM) :=
  hLet (x8 + (-1)) fun y25 =>
k67 x1 x2 x3 x4 x5 s0 x7 y25 m
set_option maxRecDepth 100000 in
set_option maxHeartbeats 4000000 in
theorem r_X11_edge_114 {G : hG} {X : hX} (C : Cx G X 8 cX11_edge 9 RX11 (some .int)) (K : Cr G X) (fu : Nat) (k67 : Int32 → Int32 → Int32 → Int32 → Int32 → Int32 → Int32 → Int32 → hM → Option (Int32 × hM)) (hk67 : ∀ (x1 : Int32) (x2 : Int32) (x3 : Int32) (x4 : Int32) (x5 : Int32) (x6 : Int32) (x7 : Int32) (x8 : Int32) (m : hM), Rf vI G X 67 [(0, hA G 96), (1, .int x1), (2, .int x2), (3, .int x3), (4, .int x4), (5, .int x5), (6, .int x6), (7, .int x7), (8, .int x8)] [] m (k67 x1 x2 x3 x4 x5 x6 x7 x8 m)) (x1 : Int32) (x2 : Int32) (x3 : Int32) (x4 : Int32) (x5 : Int32) (x7 : Int32) (x8 : Int32) (s0 : Int32) (m : hM) : Rf vI G X 114 [(0, hA G 96), (1, .int x1), (2, .int x2), (3, .int x3), (4, .int x4), (5, .int x5), (7, .int x7), (8, .int x8)] [.int s0] m (f_X11_edge_114 fu k67 x1 x2 x3 x4 x5 x7 x8 s0 m) := by
  unfold f_X11_edge_114
  refine rf_istore C (n := 116) [(6, .int s0), (0, hA G 96), (1, .int x1), (2, .int x2), (3, .int x3), (4, .int x4), (5, .int x5), (7, .int x7), (8, .int x8)] dX11_edge_114 rfl (by decide) rfl ?_
  refine rf_iinc2 C (n := 119) (q := 8) (fun y25 => [(8, .int y25), (6, .int s0), (0, hA G 96), (1, .int x1), (2, .int x2), (3, .int x3), (4, .int x4), (5, .int x5), (7, .int x7)]) dX11_edge_116 rfl rfl (by decide) (by decide) (fun _ => rfl) (fun y25 => ?_)
  refine rf_goto C (n := 67) dX11_edge_119 (by decide) ?_
  exact rf_lv _ [2, 3, 4, 5, 6, 7, 1, 8, 0] rfl (hk67 _ _ _ _ _ _ _ _ _)
noncomputable def f_X11_edge_100 (fu : Nat) (k67 : Int32 → Int32 → Int32 → Int32 → Int32 → Int32 → Int32 → Int32 → hM → Option (Int32 × hM)) (x1 : Int32) (x2 : Int32) (x3 : Int32) (x4 : Int32) (x5 : Int32) (x6 : Int32) (x8 : Int32) (s0 : Int32) (m : hM) : Option (Int32 × hM) :=
  if s0 = 0 then (
f_X11_edge_114 fu k67 x1 x2 x3 x4 x5 s0 x8 x6 m) else (
f_X11_edge_114 fu k67 x1 x2 x3 x4 x5 s0 x8 x8 m)
set_option maxRecDepth 100000 in
set_option maxHeartbeats 4000000 in
theorem r_X11_edge_100 {G : hG} {X : hX} (C : Cx G X 8 cX11_edge 9 RX11 (some .int)) (K : Cr G X) (fu : Nat) (k67 : Int32 → Int32 → Int32 → Int32 → Int32 → Int32 → Int32 → Int32 → hM → Option (Int32 × hM)) (hk67 : ∀ (x1 : Int32) (x2 : Int32) (x3 : Int32) (x4 : Int32) (x5 : Int32) (x6 : Int32) (x7 : Int32) (x8 : Int32) (m : hM), Rf vI G X 67 [(0, hA G 96), (1, .int x1), (2, .int x2), (3, .int x3), (4, .int x4), (5, .int x5), (6, .int x6), (7, .int x7), (8, .int x8)] [] m (k67 x1 x2 x3 x4 x5 x6 x7 x8 m)) (x1 : Int32) (x2 : Int32) (x3 : Int32) (x4 : Int32) (x5 : Int32) (x6 : Int32) (x8 : Int32) (s0 : Int32) (m : hM) : Rf vI G X 100 [(0, hA G 96), (1, .int x1), (2, .int x2), (3, .int x3), (4, .int x4), (5, .int x5), (6, .int x6), (8, .int x8)] [.int s0] m (f_X11_edge_100 fu k67 x1 x2 x3 x4 x5 x6 x8 s0 m) := by
  unfold f_X11_edge_100
  refine rf_istore C (n := 102) [(7, .int s0), (0, hA G 96), (1, .int x1), (2, .int x2), (3, .int x3), (4, .int x4), (5, .int x5), (6, .int x6), (8, .int x8)] dX11_edge_100 rfl (by decide) rfl ?_
  refine rf_iload C (n := 104) (q := 0) dX11_edge_102 rfl rfl ?_
  refine rf_if_eq C (tgt := 112) (n := 107) dX11_edge_104 (by decide) rfl (fun h24 => ?_) (fun h24 => ?_)
  · refine rf_iload C (n := 114) (q := 7) dX11_edge_112 rfl rfl ?_
    exact rf_lv _ [1, 2, 3, 4, 5, 6, 0, 8] rfl (r_X11_edge_114 C K fu _ hk67 _ _ _ _ _ _ _ _ _)
  · refine rf_iload C (n := 109) (q := 8) dX11_edge_107 rfl rfl ?_
    refine rf_goto C (n := 114) dX11_edge_109 (by decide) ?_
    exact rf_lv _ [1, 2, 3, 4, 5, 6, 0, 8] rfl (r_X11_edge_114 C K fu _ hk67 _ _ _ _ _ _ _ _ _)
noncomputable def s_X11_edge_67 (fu : Nat) (ih : Int32 → Int32 → Int32 → Int32 → Int32 → Int32 → Int32 → Int32 → hM → Option (Int32 × hM)) (x1 : Int32) (x2 : Int32) (x3 : Int32) (x4 : Int32) (x5 : Int32) (x6 : Int32) (x7 : Int32) (x8 : Int32) (m : hM) : Option (Int32 × hM) :=
  if x8 < 0 then (
f_X11_edge_122 fu x4 x5 x6 m) else (
if x7 = 0 then (
f_X11_edge_122 fu x4 x5 x6 m) else (
hLet (sI m 96 14 x8) fun m20 =>
hBd (f_X11_soonest fu x1 x2 x3 m20) fun y21 m22 =>
if y21 < x4 then (
f_X11_edge_100 fu ih x1 x2 x3 x4 x5 x6 x8 0 m22) else (
f_X11_edge_100 fu ih x1 x2 x3 x4 x5 x6 x8 1 m22)))
noncomputable def f_X11_edge_67 (fu : Nat) (n : Nat) : Int32 → Int32 → Int32 → Int32 → Int32 → Int32 → Int32 → Int32 → hM → Option (Int32 × hM) :=
  Nat.rec (motive := fun _ => Int32 → Int32 → Int32 → Int32 → Int32 → Int32 → Int32 → Int32 → hM → Option (Int32 × hM)) (fun _ _ _ _ _ _ _ _ _ => none) (fun _ ih => s_X11_edge_67 fu ih) n
theorem f_X11_edge_67_s (fu : Nat) (n : Nat) (x1 : Int32) (x2 : Int32) (x3 : Int32) (x4 : Int32) (x5 : Int32) (x6 : Int32) (x7 : Int32) (x8 : Int32) (m : hM) : f_X11_edge_67 fu (n + 1) x1 x2 x3 x4 x5 x6 x7 x8 m = s_X11_edge_67 fu (f_X11_edge_67 fu n) x1 x2 x3 x4 x5 x6 x7 x8 m := rfl
set_option maxRecDepth 100000 in
set_option maxHeartbeats 4000000 in
theorem r_X11_edge_67 {G : hG} {X : hX} (C : Cx G X 8 cX11_edge 9 RX11 (some .int)) (K : Cr G X) (fu : Nat) (n : Nat) : ∀ (x1 : Int32) (x2 : Int32) (x3 : Int32) (x4 : Int32) (x5 : Int32) (x6 : Int32) (x7 : Int32) (x8 : Int32) (m : hM), Rf vI G X 67 [(0, hA G 96), (1, .int x1), (2, .int x2), (3, .int x3), (4, .int x4), (5, .int x5), (6, .int x6), (7, .int x7), (8, .int x8)] [] m (f_X11_edge_67 fu n x1 x2 x3 x4 x5 x6 x7 x8 m) := by
  induction n with
  | zero => intros; exact rf_none
  | succ n ih =>
    intro x1 x2 x3 x4 x5 x6 x7 x8 m
    show Rf vI G X 67 [(0, hA G 96), (1, .int x1), (2, .int x2), (3, .int x3), (4, .int x4), (5, .int x5), (6, .int x6), (7, .int x7), (8, .int x8)] [] m (s_X11_edge_67 fu (f_X11_edge_67 fu n) x1 x2 x3 x4 x5 x6 x7 x8 m)
    unfold s_X11_edge_67
    refine rf_iload C (n := 69) (q := 8) dX11_edge_67 rfl rfl ?_
    refine rf_if_lt C (tgt := 122) (n := 72) dX11_edge_69 (by decide) rfl (fun h15 => ?_) (fun h15 => ?_)
    · exact rf_lv _ [0, 4, 5, 6] rfl (r_X11_edge_122 C K fu _ _ _ _)
    · refine rf_iload C (n := 74) (q := 7) dX11_edge_72 rfl rfl ?_
      refine rf_if_eq C (tgt := 122) (n := 77) dX11_edge_74 (by decide) rfl (fun h19 => ?_) (fun h19 => ?_)
      · exact rf_lv _ [0, 4, 5, 6] rfl (r_X11_edge_122 C K fu _ _ _ _)
      · refine rf_aload_n C (n := 78) (q := 0) dX11_edge_77 rfl rfl rfl ?_
        refine rf_iload C (n := 80) (q := 8) dX11_edge_78 rfl rfl ?_
        refine rf_putI C (n := 83) pl_RX11_108 ly_96 rfl ⟨rfl, rfl⟩ dX11_edge_80 rfl ?_
        refine rf_letM (fun m20 => ?_)
        refine rf_aload_n C (n := 84) (q := 0) dX11_edge_83 rfl rfl rfl ?_
        refine rf_iload_n C (n := 85) (q := 1) dX11_edge_84 rfl rfl rfl ?_
        refine rf_iload_n C (n := 86) (q := 2) dX11_edge_85 rfl rfl rfl ?_
        refine rf_iload_n C (n := 87) (q := 3) dX11_edge_86 rfl rfl rfl ?_
        refine rf_callVi C (n := 90) (c_X11_soonest G fu _ _ _ _) mw_RX11_367 ly_96 rfl ⟨by decide, by decide⟩ rfl (Nat.le_of_ble_eq_true rfl) rfl dX11_edge_87 rfl (fun y21 m22 => ?_)
        refine rf_iload C (n := 92) (q := 4) dX11_edge_90 rfl rfl ?_
        refine rf_icmp_lt C (tgt := 99) (n := 95) dX11_edge_92 (by decide) rfl (fun h23 => ?_) (fun h23 => ?_)
        · refine rf_iconst C (n := 100) (v := 0) dX11_edge_99 rfl (by decide) ?_
          exact rf_lv _ [0, 1, 2, 3, 4, 5, 6, 8] rfl (r_X11_edge_100 C K fu _ ih _ _ _ _ _ _ _ _ _)
        · refine rf_iconst C (n := 96) (v := 1) dX11_edge_95 rfl (by decide) ?_
          refine rf_goto C (n := 100) dX11_edge_96 (by decide) ?_
          exact rf_lv _ [0, 1, 2, 3, 4, 5, 6, 8] rfl (r_X11_edge_100 C K fu _ ih _ _ _ _ _ _ _ _ _)
noncomputable def f_X11_edge (fu : Nat) (x1 : Int32) (x2 : Int32) (x3 : Int32) (m : hM) : Option (Int32 × hM) :=
  hLet (sI m 96 0 0) fun m1 =>
hBd (f_X11_isPiece fu x1 m1) fun y2 m3 =>
if y2 = 0 then (
some ((-1), m3)) else (
hBd (f_X11_isHour fu x2 m3) fun y5 m6 =>
if y5 = 0 then (
some ((-1), m6)) else (
hBd (f_X11_in fu (Int32.toInt64 x3) 1 3 m6) fun y8 m9 =>
if ¬ y8 = 0 then (
hBd (f_X11_soonest fu x1 x2 0 m9) fun y11 m12 =>
if 0 ≤ y11 then (
hLet (gI m12 96 14) fun y14 =>
f_X11_edge_67 fu fu x1 x2 x3 y11 y14 (-2) 1 20 m12) else (
some ((-1), m12))) else (
some ((-1), m9))))
set_option maxRecDepth 100000 in
set_option maxHeartbeats 4000000 in
theorem c_X11_edge (G : hG) (fu : Nat) (x1 : Int32) (x2 : Int32) (x3 : Int32) (m : hM) : Mt vI G 8 yX11_edge cX11_edge 9 (some .int) [hA G 96, .int x1, .int x2, .int x3] m (f_X11_edge fu x1 x2 x3 m) := by
  refine mt_of (by decide +kernel) (Nat.le_of_ble_eq_true rfl) (fun X C K => ?_)
  have C : Cx G X 8 cX11_edge 9 RX11 (some .int) := C
  show Rf vI G X 0 [(0, hA G 96), (1, .int x1), (2, .int x2), (3, .int x3)] [] m _
  unfold f_X11_edge
  refine rf_aload_n C (n := 1) (q := 0) dX11_edge_0 rfl rfl rfl ?_
  refine rf_iconst C (n := 2) (v := 0) dX11_edge_1 rfl (by decide) ?_
  refine rf_putI C (n := 5) pl_RX11_3 ly_96 rfl ⟨rfl, rfl⟩ dX11_edge_2 rfl ?_
  refine rf_letM (fun m1 => ?_)
  refine rf_aload_n C (n := 6) (q := 0) dX11_edge_5 rfl rfl rfl ?_
  refine rf_iload_n C (n := 7) (q := 1) dX11_edge_6 rfl rfl rfl ?_
  refine rf_callVi C (n := 10) (c_X11_isPiece G fu _ _) mw_RX11_256 ly_96 rfl ⟨by decide, by decide⟩ rfl (Nat.le_of_ble_eq_true rfl) rfl dX11_edge_7 rfl (fun y2 m3 => ?_)
  refine rf_if_eq C (tgt := 32) (n := 13) dX11_edge_10 (by decide) rfl (fun h4 => ?_) (fun h4 => ?_)
  · refine rf_iconst C (n := 33) (v := (-1)) dX11_edge_32 rfl (by decide) ?_
    exact rf_iret C K dX11_edge_33
  · refine rf_iload_n C (n := 14) (q := 2) dX11_edge_13 rfl rfl rfl ?_
    refine rf_callSi C (n := 17) (c_X11_isHour G fu _ _) sw_RX11_81 ⟨by decide, by decide⟩ rfl (Nat.le_of_ble_eq_true rfl) rfl dX11_edge_14 rfl (fun y5 m6 => ?_)
    refine rf_if_eq C (tgt := 32) (n := 20) dX11_edge_17 (by decide) rfl (fun h7 => ?_) (fun h7 => ?_)
    · refine rf_iconst C (n := 33) (v := (-1)) dX11_edge_32 rfl (by decide) ?_
      exact rf_iret C K dX11_edge_33
    · refine rf_iload_n C (n := 21) (q := 3) dX11_edge_20 rfl rfl rfl ?_
      refine rf_i2l C (n := 22) dX11_edge_21 rfl ?_
      refine rf_lconst C (n := 23) (v := 1) dX11_edge_22 rfl (by decide) ?_
      refine rf_ldc2 C (n := 26) dX11_edge_23 rfl kl_RX11_93 ?_
      refine rf_callSi C (n := 29) (c_X11_in G fu _ _ _ _) sw_RX11_25 ⟨by decide, by decide⟩ rfl (Nat.le_of_ble_eq_true rfl) rfl dX11_edge_26 rfl (fun y8 m9 => ?_)
      refine rf_if_ne C (tgt := 34) (n := 32) dX11_edge_29 (by decide) rfl (fun h10 => ?_) (fun h10 => ?_)
      · refine rf_aload_n C (n := 35) (q := 0) dX11_edge_34 rfl rfl rfl ?_
        refine rf_iload_n C (n := 36) (q := 1) dX11_edge_35 rfl rfl rfl ?_
        refine rf_iload_n C (n := 37) (q := 2) dX11_edge_36 rfl rfl rfl ?_
        refine rf_iconst C (n := 38) (v := 0) dX11_edge_37 rfl (by decide) ?_
        refine rf_callVi C (n := 41) (c_X11_soonest G fu _ _ _ _) mw_RX11_367 ly_96 rfl ⟨by decide, by decide⟩ rfl (Nat.le_of_ble_eq_true rfl) rfl dX11_edge_38 rfl (fun y11 m12 => ?_)
        refine rf_istore C (n := 43) [(4, .int y11), (0, hA G 96), (1, .int x1), (2, .int x2), (3, .int x3)] dX11_edge_41 rfl (by decide) rfl ?_
        refine rf_iload C (n := 45) (q := 0) dX11_edge_43 rfl rfl ?_
        refine rf_if_ge C (tgt := 50) (n := 48) dX11_edge_45 (by decide) rfl (fun h13 => ?_) (fun h13 => ?_)
        · refine rf_aload_n C (n := 51) (q := 1) dX11_edge_50 rfl rfl rfl ?_
          refine rf_getI C (n := 54) fl_RX11_108 ly_96 rfl dX11_edge_51 rfl ?_
          refine rf_letI (fun y14 => ?_)
          refine rf_istore C (n := 56) [(5, .int y14), (4, .int y11), (0, hA G 96), (1, .int x1), (2, .int x2), (3, .int x3)] dX11_edge_54 rfl (by decide) rfl ?_
          refine rf_bipush C (n := 58) (v := (-2)) dX11_edge_56 rfl (by decide) ?_
          refine rf_istore C (n := 60) [(6, .int (-2)), (5, .int y14), (4, .int y11), (0, hA G 96), (1, .int x1), (2, .int x2), (3, .int x3)] dX11_edge_58 rfl (by decide) rfl ?_
          refine rf_iconst C (n := 61) (v := 1) dX11_edge_60 rfl (by decide) ?_
          refine rf_istore C (n := 63) [(7, .int 1), (6, .int (-2)), (5, .int y14), (4, .int y11), (0, hA G 96), (1, .int x1), (2, .int x2), (3, .int x3)] dX11_edge_61 rfl (by decide) rfl ?_
          refine rf_bipush C (n := 65) (v := 20) dX11_edge_63 rfl (by decide) ?_
          refine rf_istore C (n := 67) [(8, .int 20), (7, .int 1), (6, .int (-2)), (5, .int y14), (4, .int y11), (0, hA G 96), (1, .int x1), (2, .int x2), (3, .int x3)] dX11_edge_65 rfl (by decide) rfl ?_
          exact rf_lv _ [5, 6, 7, 8, 4, 3, 2, 1, 0] rfl (r_X11_edge_67 C K fu fu _ _ _ _ _ _ _ _ _)
        · refine rf_iconst C (n := 49) (v := (-1)) dX11_edge_48 rfl (by decide) ?_
          exact rf_iret C K dX11_edge_49
      · refine rf_iconst C (n := 33) (v := (-1)) dX11_edge_32 rfl (by decide) ?_
        exact rf_iret C K dX11_edge_33
noncomputable def f_X11_lies_150 (fu : Nat) (k22 : Int32 → Int32 → Int32 → Int32 → Int32 → Int32 → hM → Option (Int32 × hM)) (x1 : Int32) (x2 : Int32) (x4 : Int32) (x5 : Int32) (x6 : Int32) (x7 : Int32) (m : hM) : Option (Int32 × hM) :=
  hLet (x7 + 1) fun y9 =>
k22 x1 x2 x4 x5 x6 y9 m
set_option maxRecDepth 100000 in
set_option maxHeartbeats 4000000 in
theorem r_X11_lies_150 {G : hG} {X : hX} (C : Cx G X 4 cX11_lies 8 RX11 (some .int)) (K : Cr G X) (fu : Nat) (k22 : Int32 → Int32 → Int32 → Int32 → Int32 → Int32 → hM → Option (Int32 × hM)) (hk22 : ∀ (x1 : Int32) (x2 : Int32) (x4 : Int32) (x5 : Int32) (x6 : Int32) (x7 : Int32) (m : hM), Rf vI G X 22 [(0, hA G 96), (1, .int x1), (2, .int x2), (4, .int x4), (5, .int x5), (6, .int x6), (7, .int x7)] [] m (k22 x1 x2 x4 x5 x6 x7 m)) (x1 : Int32) (x2 : Int32) (x4 : Int32) (x5 : Int32) (x6 : Int32) (x7 : Int32) (m : hM) : Rf vI G X 150 [(0, hA G 96), (1, .int x1), (2, .int x2), (4, .int x4), (5, .int x5), (6, .int x6), (7, .int x7)] [] m (f_X11_lies_150 fu k22 x1 x2 x4 x5 x6 x7 m) := by
  unfold f_X11_lies_150
  refine rf_iinc2 C (n := 153) (q := 6) (fun y9 => [(7, .int y9), (0, hA G 96), (1, .int x1), (2, .int x2), (4, .int x4), (5, .int x5), (6, .int x6)]) dX11_lies_150 rfl rfl (by decide) (by decide) (fun _ => rfl) (fun y9 => ?_)
  refine rf_goto C (n := 22) dX11_lies_153 (by decide) ?_
  exact rf_lv _ [1, 2, 3, 4, 5, 6, 0] rfl (hk22 _ _ _ _ _ _ _)
noncomputable def f_X11_lies_75 (fu : Nat) (k22 : Int32 → Int32 → Int32 → Int32 → Int32 → Int32 → hM → Option (Int32 × hM)) (x1 : Int32) (x2 : Int32) (x4 : Int32) (x5 : Int32) (x7 : Int32) (s0 : Int32) (m : hM) : Option (Int32 × hM) :=
  f_X11_lies_150 fu k22 x1 x2 x4 x5 s0 x7 m
set_option maxRecDepth 100000 in
set_option maxHeartbeats 4000000 in
theorem r_X11_lies_75 {G : hG} {X : hX} (C : Cx G X 4 cX11_lies 8 RX11 (some .int)) (K : Cr G X) (fu : Nat) (k22 : Int32 → Int32 → Int32 → Int32 → Int32 → Int32 → hM → Option (Int32 × hM)) (hk22 : ∀ (x1 : Int32) (x2 : Int32) (x4 : Int32) (x5 : Int32) (x6 : Int32) (x7 : Int32) (m : hM), Rf vI G X 22 [(0, hA G 96), (1, .int x1), (2, .int x2), (4, .int x4), (5, .int x5), (6, .int x6), (7, .int x7)] [] m (k22 x1 x2 x4 x5 x6 x7 m)) (x1 : Int32) (x2 : Int32) (x4 : Int32) (x5 : Int32) (x7 : Int32) (s0 : Int32) (m : hM) : Rf vI G X 75 [(0, hA G 96), (1, .int x1), (2, .int x2), (4, .int x4), (5, .int x5), (7, .int x7)] [.int s0] m (f_X11_lies_75 fu k22 x1 x2 x4 x5 x7 s0 m) := by
  unfold f_X11_lies_75
  refine rf_istore C (n := 77) [(6, .int s0), (0, hA G 96), (1, .int x1), (2, .int x2), (4, .int x4), (5, .int x5), (7, .int x7)] dX11_lies_75 rfl (by decide) rfl ?_
  refine rf_goto C (n := 150) dX11_lies_77 (by decide) ?_
  exact rf_lv _ [1, 2, 3, 4, 5, 0, 6] rfl (r_X11_lies_150 C K fu _ hk22 _ _ _ _ _ _ _)
noncomputable def f_X11_lies_70 (fu : Nat) (k22 : Int32 → Int32 → Int32 → Int32 → Int32 → Int32 → hM → Option (Int32 × hM)) (x1 : Int32) (x2 : Int32) (x4 : Int32) (x5 : Int32) (x7 : Int32) (m : hM) : Option (Int32 × hM) :=
  f_X11_lies_75 fu k22 x1 x2 x4 x5 x7 1 m
set_option maxRecDepth 100000 in
set_option maxHeartbeats 4000000 in
theorem r_X11_lies_70 {G : hG} {X : hX} (C : Cx G X 4 cX11_lies 8 RX11 (some .int)) (K : Cr G X) (fu : Nat) (k22 : Int32 → Int32 → Int32 → Int32 → Int32 → Int32 → hM → Option (Int32 × hM)) (hk22 : ∀ (x1 : Int32) (x2 : Int32) (x4 : Int32) (x5 : Int32) (x6 : Int32) (x7 : Int32) (m : hM), Rf vI G X 22 [(0, hA G 96), (1, .int x1), (2, .int x2), (4, .int x4), (5, .int x5), (6, .int x6), (7, .int x7)] [] m (k22 x1 x2 x4 x5 x6 x7 m)) (x1 : Int32) (x2 : Int32) (x4 : Int32) (x5 : Int32) (x7 : Int32) (m : hM) : Rf vI G X 70 [(0, hA G 96), (1, .int x1), (2, .int x2), (4, .int x4), (5, .int x5), (7, .int x7)] [] m (f_X11_lies_70 fu k22 x1 x2 x4 x5 x7 m) := by
  unfold f_X11_lies_70
  refine rf_iconst C (n := 71) (v := 1) dX11_lies_70 rfl (by decide) ?_
  refine rf_goto C (n := 75) dX11_lies_71 (by decide) ?_
  exact rf_lv _ [0, 1, 2, 3, 4, 5] rfl (r_X11_lies_75 C K fu _ hk22 _ _ _ _ _ _ _)
noncomputable def s_X11_lies_22 (fu : Nat) (ih : Int32 → Int32 → Int32 → Int32 → Int32 → Int32 → hM → Option (Int32 × hM)) (x1 : Int32) (x2 : Int32) (x4 : Int32) (x5 : Int32) (x6 : Int32) (x7 : Int32) (m : hM) : Option (Int32 × hM) :=
  if 2399 ≤ x7 then (
some ((-1), m)) else (
if x6 = 0 then (
hBd (f_X11_isOpen fu x2 x7 m) fun y6 m7 =>
if y6 = 0 then (
f_X11_lies_150 fu ih x1 x2 x4 x5 x6 x7 m7) else (
if hIn x2 6 then (
if hIn x1 8 then (
hBd (f_X11_has fu (gI m7 103 (Int32.toNatClampNeg x2)) (gI m7 108 (Int32.toNatClampNeg x1)) m7) fun y12 m13 =>
if y12 = 0 then (
f_X11_lies_150 fu ih x1 x2 x4 x5 x6 x7 m13) else (
hLet (x4 + (-1)) fun y15 =>
hLet (x5 + 1) fun y16 =>
if ¬ y15 = 0 then (
if hIn x1 8 then (
if (gI m13 112 (Int32.toNatClampNeg x1)) < 0 then (
f_X11_lies_150 fu ih x1 x2 y15 y16 x6 x7 m13) else (
if hIn x1 8 then (
if ¬ y16 = (gI m13 113 (Int32.toNatClampNeg x1)) then (
f_X11_lies_150 fu ih x1 x2 y15 y16 x6 x7 m13) else (
f_X11_lies_150 fu ih x1 x2 y15 0 1 x7 m13)) else none)) else none) else (
some (x7 + 1, m13)))) else none) else none)) else (
hLet (sI m 96 47 ((gI m 96 47) + 1)) fun m22 =>
hBd (f_X11_isOpen fu x2 x7 m22) fun y23 m24 =>
if y23 = 0 then (
f_X11_lies_70 fu ih x1 x2 x4 x5 x7 m24) else (
if hIn x1 8 then (
hBd (f_X11_isOpen fu (gI m24 112 (Int32.toNatClampNeg x1)) x7 m24) fun y27 m28 =>
if ¬ y27 = 0 then (
f_X11_lies_75 fu ih x1 x2 x4 x5 x7 0 m28) else (
f_X11_lies_70 fu ih x1 x2 x4 x5 x7 m28)) else none)))
noncomputable def f_X11_lies_22 (fu : Nat) (n : Nat) : Int32 → Int32 → Int32 → Int32 → Int32 → Int32 → hM → Option (Int32 × hM) :=
  Nat.rec (motive := fun _ => Int32 → Int32 → Int32 → Int32 → Int32 → Int32 → hM → Option (Int32 × hM)) (fun _ _ _ _ _ _ _ => none) (fun _ ih => s_X11_lies_22 fu ih) n
theorem f_X11_lies_22_s (fu : Nat) (n : Nat) (x1 : Int32) (x2 : Int32) (x4 : Int32) (x5 : Int32) (x6 : Int32) (x7 : Int32) (m : hM) : f_X11_lies_22 fu (n + 1) x1 x2 x4 x5 x6 x7 m = s_X11_lies_22 fu (f_X11_lies_22 fu n) x1 x2 x4 x5 x6 x7 m := rfl
set_option maxRecDepth 100000 in
set_option maxHeartbeats 4000000 in
theorem r_X11_lies_22 {G : hG} {X : hX} (C : Cx G X 4 cX11_lies 8 RX11 (some .int)) (K : Cr G X) (fu : Nat) (n : Nat) : ∀ (x1 : Int32) (x2 : Int32) (x4 : Int32) (x5 : Int32) (x6 : Int32) (x7 : Int32) (m : hM), Rf vI G X 22 [(0, hA G 96), (1, .int x1), (2, .int x2), (4, .int x4), (5, .int x5), (6, .int x6), (7, .int x7)] [] m (f_X11_lies_22 fu n x1 x2 x4 x5 x6 x7 m) := by
  induction n with
  | zero => intros; exact rf_none
  | succ n ih =>
    intro x1 x2 x4 x5 x6 x7 m
    show Rf vI G X 22 [(0, hA G 96), (1, .int x1), (2, .int x2), (4, .int x4), (5, .int x5), (6, .int x6), (7, .int x7)] [] m (s_X11_lies_22 fu (f_X11_lies_22 fu n) x1 x2 x4 x5 x6 x7 m)
    unfold s_X11_lies_22
    refine rf_iload C (n := 24) (q := 6) dX11_lies_22 rfl rfl ?_
    refine rf_sipush C (n := 27) (v := 2399) dX11_lies_24 rfl (by decide) ?_
    refine rf_icmp_ge C (tgt := 156) (n := 30) dX11_lies_27 (by decide) rfl (fun h4 => ?_) (fun h4 => ?_)
    · refine rf_iconst C (n := 157) (v := (-1)) dX11_lies_156 rfl (by decide) ?_
      exact rf_iret C K dX11_lies_157
    · refine rf_iload C (n := 32) (q := 5) dX11_lies_30 rfl rfl ?_
      refine rf_if_eq C (tgt := 80) (n := 35) dX11_lies_32 (by decide) rfl (fun h5 => ?_) (fun h5 => ?_)
      · refine rf_aload_n C (n := 81) (q := 0) dX11_lies_80 rfl rfl rfl ?_
        refine rf_iload_n C (n := 82) (q := 2) dX11_lies_81 rfl rfl rfl ?_
        refine rf_iload C (n := 84) (q := 6) dX11_lies_82 rfl rfl ?_
        refine rf_callVi C (n := 87) (c_X11_isOpen G fu _ _ _) mw_RX11_120 ly_96 rfl ⟨by decide, by decide⟩ rfl (Nat.le_of_ble_eq_true rfl) rfl dX11_lies_84 rfl (fun y6 m7 => ?_)
        refine rf_if_eq C (tgt := 150) (n := 90) dX11_lies_87 (by decide) rfl (fun h8 => ?_) (fun h8 => ?_)
        · exact rf_lv _ [0, 1, 2, 3, 4, 5, 6] rfl (r_X11_lies_150 C K fu _ ih _ _ _ _ _ _ _)
        · refine rf_aload_n C (n := 91) (q := 0) dX11_lies_90 rfl rfl rfl ?_
          refine rf_getS C (n := 94) fl_RX11_47 ly_96 rfl dX11_lies_91 rfl ?_
          refine rf_iload_n C (n := 95) (q := 2) dX11_lies_94 rfl rfl rfl ?_
          refine rf_guard (fun h10 => ?_)
          refine rf_iald C (n := 96) ly_103 h10 rfl dX11_lies_95 rfl ?_
          refine rf_aload_n C (n := 97) (q := 0) dX11_lies_96 rfl rfl rfl ?_
          refine rf_getS C (n := 100) fl_RX11_154 ly_96 rfl dX11_lies_97 rfl ?_
          refine rf_iload_n C (n := 101) (q := 1) dX11_lies_100 rfl rfl rfl ?_
          refine rf_guard (fun h11 => ?_)
          refine rf_iald C (n := 102) ly_108 h11 rfl dX11_lies_101 rfl ?_
          refine rf_callSi C (n := 105) (c_X11_has G fu _ _ _) sw_RX11_137 ⟨by decide, by decide⟩ rfl (Nat.le_of_ble_eq_true rfl) rfl dX11_lies_102 rfl (fun y12 m13 => ?_)
          refine rf_if_eq C (tgt := 150) (n := 108) dX11_lies_105 (by decide) rfl (fun h14 => ?_) (fun h14 => ?_)
          · exact rf_lv _ [0, 1, 2, 3, 4, 5, 6] rfl (r_X11_lies_150 C K fu _ ih _ _ _ _ _ _ _)
          · refine rf_iinc2 C (n := 111) (q := 3) (fun y15 => [(4, .int y15), (0, hA G 96), (1, .int x1), (2, .int x2), (5, .int x5), (6, .int x6), (7, .int x7)]) dX11_lies_108 rfl rfl (by decide) (by decide) (fun _ => rfl) (fun y15 => ?_)
            refine rf_iinc2 C (n := 114) (q := 4) (fun y16 => [(5, .int y16), (4, .int y15), (0, hA G 96), (1, .int x1), (2, .int x2), (6, .int x6), (7, .int x7)]) dX11_lies_111 rfl rfl (by decide) (by decide) (fun _ => rfl) (fun y16 => ?_)
            refine rf_iload C (n := 116) (q := 1) dX11_lies_114 rfl rfl ?_
            refine rf_if_ne C (tgt := 124) (n := 119) dX11_lies_116 (by decide) rfl (fun h17 => ?_) (fun h17 => ?_)
            · refine rf_aload_n C (n := 125) (q := 2) dX11_lies_124 rfl rfl rfl ?_
              refine rf_getS C (n := 128) fl_RX11_163 ly_96 rfl dX11_lies_125 rfl ?_
              refine rf_iload_n C (n := 129) (q := 3) dX11_lies_128 rfl rfl rfl ?_
              refine rf_guard (fun h18 => ?_)
              refine rf_iald C (n := 130) ly_112 h18 rfl dX11_lies_129 rfl ?_
              refine rf_if_lt C (tgt := 150) (n := 133) dX11_lies_130 (by decide) rfl (fun h19 => ?_) (fun h19 => ?_)
              · exact rf_lv _ [2, 3, 4, 1, 0, 5, 6] rfl (r_X11_lies_150 C K fu _ ih _ _ _ _ _ _ _)
              · refine rf_iload C (n := 135) (q := 0) dX11_lies_133 rfl rfl ?_
                refine rf_aload_n C (n := 136) (q := 2) dX11_lies_135 rfl rfl rfl ?_
                refine rf_getS C (n := 139) fl_RX11_157 ly_96 rfl dX11_lies_136 rfl ?_
                refine rf_iload_n C (n := 140) (q := 3) dX11_lies_139 rfl rfl rfl ?_
                refine rf_guard (fun h20 => ?_)
                refine rf_iald C (n := 141) ly_113 h20 rfl dX11_lies_140 rfl ?_
                refine rf_icmp_ne C (tgt := 150) (n := 144) dX11_lies_141 (by decide) rfl (fun h21 => ?_) (fun h21 => ?_)
                · exact rf_lv _ [2, 3, 4, 1, 0, 5, 6] rfl (r_X11_lies_150 C K fu _ ih _ _ _ _ _ _ _)
                · refine rf_iconst C (n := 145) (v := 1) dX11_lies_144 rfl (by decide) ?_
                  refine rf_istore C (n := 147) [(6, .int 1), (5, .int y16), (4, .int y15), (0, hA G 96), (1, .int x1), (2, .int x2), (7, .int x7)] dX11_lies_145 rfl (by decide) rfl ?_
                  refine rf_iconst C (n := 148) (v := 0) dX11_lies_147 rfl (by decide) ?_
                  refine rf_istore C (n := 150) [(5, .int 0), (6, .int 1), (4, .int y15), (0, hA G 96), (1, .int x1), (2, .int x2), (7, .int x7)] dX11_lies_148 rfl (by decide) rfl ?_
                  exact rf_lv _ [3, 4, 5, 2, 0, 1, 6] rfl (r_X11_lies_150 C K fu _ ih _ _ _ _ _ _ _)
            · refine rf_iload C (n := 121) (q := 6) dX11_lies_119 rfl rfl ?_
              refine rf_iconst C (n := 122) (v := 1) dX11_lies_121 rfl (by decide) ?_
              refine rf_iadd C (n := 123) dX11_lies_122 rfl ?_
              exact rf_iret C K dX11_lies_123
      · refine rf_aload_n C (n := 36) (q := 0) dX11_lies_35 rfl rfl rfl ?_
        refine rf_dup C (n := 37) dX11_lies_36 rfl rfl ?_
        refine rf_getI C (n := 40) fl_RX11_405 ly_96 rfl dX11_lies_37 rfl ?_
        refine rf_iconst C (n := 41) (v := 1) dX11_lies_40 rfl (by decide) ?_
        refine rf_iadd C (n := 42) dX11_lies_41 rfl ?_
        refine rf_putI C (n := 45) pl_RX11_405 ly_96 rfl ⟨rfl, rfl⟩ dX11_lies_42 rfl ?_
        refine rf_letM (fun m22 => ?_)
        refine rf_aload_n C (n := 46) (q := 0) dX11_lies_45 rfl rfl rfl ?_
        refine rf_iload_n C (n := 47) (q := 2) dX11_lies_46 rfl rfl rfl ?_
        refine rf_iload C (n := 49) (q := 6) dX11_lies_47 rfl rfl ?_
        refine rf_callVi C (n := 52) (c_X11_isOpen G fu _ _ _) mw_RX11_120 ly_96 rfl ⟨by decide, by decide⟩ rfl (Nat.le_of_ble_eq_true rfl) rfl dX11_lies_49 rfl (fun y23 m24 => ?_)
        refine rf_if_eq C (tgt := 70) (n := 55) dX11_lies_52 (by decide) rfl (fun h25 => ?_) (fun h25 => ?_)
        · exact rf_lv _ [0, 1, 2, 3, 4, 6] rfl (r_X11_lies_70 C K fu _ ih _ _ _ _ _ _)
        · refine rf_aload_n C (n := 56) (q := 0) dX11_lies_55 rfl rfl rfl ?_
          refine rf_aload_n C (n := 57) (q := 0) dX11_lies_56 rfl rfl rfl ?_
          refine rf_getS C (n := 60) fl_RX11_163 ly_96 rfl dX11_lies_57 rfl ?_
          refine rf_iload_n C (n := 61) (q := 1) dX11_lies_60 rfl rfl rfl ?_
          refine rf_guard (fun h26 => ?_)
          refine rf_iald C (n := 62) ly_112 h26 rfl dX11_lies_61 rfl ?_
          refine rf_iload C (n := 64) (q := 6) dX11_lies_62 rfl rfl ?_
          refine rf_callVi C (n := 67) (c_X11_isOpen G fu _ _ _) mw_RX11_120 ly_96 rfl ⟨by decide, by decide⟩ rfl (Nat.le_of_ble_eq_true rfl) rfl dX11_lies_64 rfl (fun y27 m28 => ?_)
          refine rf_if_ne C (tgt := 74) (n := 70) dX11_lies_67 (by decide) rfl (fun h29 => ?_) (fun h29 => ?_)
          · refine rf_iconst C (n := 75) (v := 0) dX11_lies_74 rfl (by decide) ?_
            exact rf_lv _ [0, 1, 2, 3, 4, 6] rfl (r_X11_lies_75 C K fu _ ih _ _ _ _ _ _ _)
          · exact rf_lv _ [0, 1, 2, 3, 4, 6] rfl (r_X11_lies_70 C K fu _ ih _ _ _ _ _ _)
noncomputable def f_X11_lies (fu : Nat) (x1 : Int32) (x2 : Int32) (x3 : Int32) (m : hM) : Option (Int32 × hM) :=
  if hIn x1 8 then (
hLet (gI m 109 (Int32.toNatClampNeg x1)) fun y2 =>
hLet (sI m 96 47 0) fun m3 =>
f_X11_lies_22 fu fu x1 x2 y2 0 0 x3 m3) else none
set_option maxRecDepth 100000 in
set_option maxHeartbeats 4000000 in
theorem c_X11_lies (G : hG) (fu : Nat) (x1 : Int32) (x2 : Int32) (x3 : Int32) (m : hM) : Mt vI G 4 yX11_lies cX11_lies 8 (some .int) [hA G 96, .int x1, .int x2, .int x3] m (f_X11_lies fu x1 x2 x3 m) := by
  refine mt_of (by decide +kernel) (Nat.le_of_ble_eq_true rfl) (fun X C K => ?_)
  have C : Cx G X 4 cX11_lies 8 RX11 (some .int) := C
  show Rf vI G X 0 [(0, hA G 96), (1, .int x1), (2, .int x2), (3, .int x3)] [] m _
  unfold f_X11_lies
  refine rf_aload_n C (n := 1) (q := 0) dX11_lies_0 rfl rfl rfl ?_
  refine rf_getS C (n := 4) fl_RX11_146 ly_96 rfl dX11_lies_1 rfl ?_
  refine rf_iload_n C (n := 5) (q := 1) dX11_lies_4 rfl rfl rfl ?_
  refine rf_guard (fun h1 => ?_)
  refine rf_iald C (n := 6) ly_109 h1 rfl dX11_lies_5 rfl ?_
  refine rf_letI (fun y2 => ?_)
  refine rf_istore C (n := 8) [(4, .int y2), (0, hA G 96), (1, .int x1), (2, .int x2), (3, .int x3)] dX11_lies_6 rfl (by decide) rfl ?_
  refine rf_iconst C (n := 9) (v := 0) dX11_lies_8 rfl (by decide) ?_
  refine rf_istore C (n := 11) [(5, .int 0), (4, .int y2), (0, hA G 96), (1, .int x1), (2, .int x2), (3, .int x3)] dX11_lies_9 rfl (by decide) rfl ?_
  refine rf_iconst C (n := 12) (v := 0) dX11_lies_11 rfl (by decide) ?_
  refine rf_istore C (n := 14) [(6, .int 0), (5, .int 0), (4, .int y2), (0, hA G 96), (1, .int x1), (2, .int x2), (3, .int x3)] dX11_lies_12 rfl (by decide) rfl ?_
  refine rf_aload_n C (n := 15) (q := 3) dX11_lies_14 rfl rfl rfl ?_
  refine rf_iconst C (n := 16) (v := 0) dX11_lies_15 rfl (by decide) ?_
  refine rf_putI C (n := 19) pl_RX11_405 ly_96 rfl ⟨rfl, rfl⟩ dX11_lies_16 rfl ?_
  refine rf_letM (fun m3 => ?_)
  refine rf_iload_n C (n := 20) (q := 6) dX11_lies_19 rfl rfl rfl ?_
  refine rf_istore C (n := 22) [(7, .int x3), (6, .int 0), (5, .int 0), (4, .int y2), (0, hA G 96), (1, .int x1), (2, .int x2), (3, .int x3)] dX11_lies_20 rfl (by decide) rfl ?_
  exact rf_lv _ [4, 5, 6, 3, 2, 1, 0] rfl (r_X11_lies_22 C K fu fu _ _ _ _ _ _ _)
noncomputable def f_X11_lie_88 (fu : Nat) (x3 : Int32) (x4 : Int32) (x5 : Int32) (m : hM) : Option (Int32 × hM) :=
  if x3 < 0 then (
some (x3, m)) else (
hLet (sI m 96 1 0) fun m10 =>
hBd (f_X11_enters fu (Int32.toInt64 x4) m10) fun _ m11 =>
hBd (f_X11_enters fu (Int32.toInt64 x5) m11) fun _ m12 =>
some (x3, m12))
set_option maxRecDepth 100000 in
set_option maxHeartbeats 4000000 in
theorem r_X11_lie_88 {G : hG} {X : hX} (C : Cx G X 5 cX11_lie 8 RX11 (some .int)) (K : Cr G X) (fu : Nat) (x3 : Int32) (x4 : Int32) (x5 : Int32) (m : hM) : Rf vI G X 88 [(0, hA G 96), (3, .int x3), (4, .int x4), (5, .int x5)] [] m (f_X11_lie_88 fu x3 x4 x5 m) := by
  unfold f_X11_lie_88
  refine rf_iload_n C (n := 89) (q := 1) dX11_lie_88 rfl rfl rfl ?_
  refine rf_if_lt C (tgt := 111) (n := 92) dX11_lie_89 (by decide) rfl (fun h9 => ?_) (fun h9 => ?_)
  · refine rf_iload_n C (n := 112) (q := 1) dX11_lie_111 rfl rfl rfl ?_
    exact rf_iret C K dX11_lie_112
  · refine rf_aload_n C (n := 93) (q := 0) dX11_lie_92 rfl rfl rfl ?_
    refine rf_iconst C (n := 94) (v := 0) dX11_lie_93 rfl (by decide) ?_
    refine rf_putI C (n := 97) pl_RX11_11 ly_96 rfl ⟨rfl, rfl⟩ dX11_lie_94 rfl ?_
    refine rf_letM (fun m10 => ?_)
    refine rf_aload_n C (n := 98) (q := 0) dX11_lie_97 rfl rfl rfl ?_
    refine rf_iload C (n := 100) (q := 2) dX11_lie_98 rfl rfl ?_
    refine rf_i2l C (n := 101) dX11_lie_100 rfl ?_
    refine rf_callVv C (n := 104) (c_X11_enters G fu _ _) mw_RX11_18 ly_96 rfl ⟨by decide, by decide⟩ rfl (Nat.le_of_ble_eq_true rfl) rfl dX11_lie_101 rfl (fun _ m11 => ?_)
    refine rf_aload_n C (n := 105) (q := 0) dX11_lie_104 rfl rfl rfl ?_
    refine rf_iload C (n := 107) (q := 3) dX11_lie_105 rfl rfl ?_
    refine rf_i2l C (n := 108) dX11_lie_107 rfl ?_
    refine rf_callVv C (n := 111) (c_X11_enters G fu _ _) mw_RX11_18 ly_96 rfl ⟨by decide, by decide⟩ rfl (Nat.le_of_ble_eq_true rfl) rfl dX11_lie_108 rfl (fun _ m12 => ?_)
    refine rf_iload_n C (n := 112) (q := 1) dX11_lie_111 rfl rfl rfl ?_
    exact rf_iret C K dX11_lie_112
noncomputable def f_X11_lie_82 (fu : Nat) (k34 : Int32 → Int32 → Int32 → Int32 → Int32 → Int32 → hM → Option (Int32 × hM)) (x1 : Int32) (x2 : Int32) (x3 : Int32) (x4 : Int32) (x5 : Int32) (x6 : Int32) (m : hM) : Option (Int32 × hM) :=
  hLet (x6 + 1) fun y16 =>
k34 x1 x2 x3 x4 x5 y16 m
set_option maxRecDepth 100000 in
set_option maxHeartbeats 4000000 in
theorem r_X11_lie_82 {G : hG} {X : hX} (C : Cx G X 5 cX11_lie 8 RX11 (some .int)) (K : Cr G X) (fu : Nat) (k34 : Int32 → Int32 → Int32 → Int32 → Int32 → Int32 → hM → Option (Int32 × hM)) (hk34 : ∀ (x1 : Int32) (x2 : Int32) (x3 : Int32) (x4 : Int32) (x5 : Int32) (x6 : Int32) (m : hM), Rf vI G X 34 [(0, hA G 96), (1, .int x1), (2, .int x2), (3, .int x3), (4, .int x4), (5, .int x5), (6, .int x6)] [] m (k34 x1 x2 x3 x4 x5 x6 m)) (x1 : Int32) (x2 : Int32) (x3 : Int32) (x4 : Int32) (x5 : Int32) (x6 : Int32) (m : hM) : Rf vI G X 82 [(0, hA G 96), (1, .int x1), (2, .int x2), (3, .int x3), (4, .int x4), (5, .int x5), (6, .int x6)] [] m (f_X11_lie_82 fu k34 x1 x2 x3 x4 x5 x6 m) := by
  unfold f_X11_lie_82
  refine rf_iinc2 C (n := 85) (q := 6) (fun y16 => [(6, .int y16), (0, hA G 96), (1, .int x1), (2, .int x2), (3, .int x3), (4, .int x4), (5, .int x5)]) dX11_lie_82 rfl rfl (by decide) (by decide) (fun _ => rfl) (fun y16 => ?_)
  refine rf_goto C (n := 34) dX11_lie_85 (by decide) ?_
  exact rf_lv _ [1, 2, 3, 4, 5, 6, 0] rfl (hk34 _ _ _ _ _ _ _)
noncomputable def f_X11_lie_69 (fu : Nat) (k34 : Int32 → Int32 → Int32 → Int32 → Int32 → Int32 → hM → Option (Int32 × hM)) (x1 : Int32) (x2 : Int32) (x6 : Int32) (x7 : Int32) (m : hM) : Option (Int32 × hM) :=
  hLet (gI m 96 47) fun y18 =>
f_X11_lie_82 fu k34 x1 x2 x6 x7 y18 x6 m
set_option maxRecDepth 100000 in
set_option maxHeartbeats 4000000 in
theorem r_X11_lie_69 {G : hG} {X : hX} (C : Cx G X 5 cX11_lie 8 RX11 (some .int)) (K : Cr G X) (fu : Nat) (k34 : Int32 → Int32 → Int32 → Int32 → Int32 → Int32 → hM → Option (Int32 × hM)) (hk34 : ∀ (x1 : Int32) (x2 : Int32) (x3 : Int32) (x4 : Int32) (x5 : Int32) (x6 : Int32) (m : hM), Rf vI G X 34 [(0, hA G 96), (1, .int x1), (2, .int x2), (3, .int x3), (4, .int x4), (5, .int x5), (6, .int x6)] [] m (k34 x1 x2 x3 x4 x5 x6 m)) (x1 : Int32) (x2 : Int32) (x6 : Int32) (x7 : Int32) (m : hM) : Rf vI G X 69 [(0, hA G 96), (1, .int x1), (2, .int x2), (6, .int x6), (7, .int x7)] [] m (f_X11_lie_69 fu k34 x1 x2 x6 x7 m) := by
  unfold f_X11_lie_69
  refine rf_iload C (n := 71) (q := 3) dX11_lie_69 rfl rfl ?_
  refine rf_istore_n C (n := 72) [(3, .int x6), (0, hA G 96), (1, .int x1), (2, .int x2), (6, .int x6), (7, .int x7)] dX11_lie_71 rfl rfl (by decide) rfl ?_
  refine rf_iload C (n := 74) (q := 5) dX11_lie_72 rfl rfl ?_
  refine rf_istore C (n := 76) [(4, .int x7), (3, .int x6), (0, hA G 96), (1, .int x1), (2, .int x2), (6, .int x6), (7, .int x7)] dX11_lie_74 rfl (by decide) rfl ?_
  refine rf_aload_n C (n := 77) (q := 2) dX11_lie_76 rfl rfl rfl ?_
  refine rf_getI C (n := 80) fl_RX11_405 ly_96 rfl dX11_lie_77 rfl ?_
  refine rf_letI (fun y18 => ?_)
  refine rf_istore C (n := 82) [(5, .int y18), (4, .int x7), (3, .int x6), (0, hA G 96), (1, .int x1), (2, .int x2), (6, .int x6), (7, .int x7)] dX11_lie_80 rfl (by decide) rfl ?_
  exact rf_lv _ [3, 4, 5, 2, 1, 0, 6] rfl (r_X11_lie_82 C K fu _ hk34 _ _ _ _ _ _ _)
noncomputable def s_X11_lie_34 (fu : Nat) (ih : Int32 → Int32 → Int32 → Int32 → Int32 → Int32 → hM → Option (Int32 × hM)) (x1 : Int32) (x2 : Int32) (x3 : Int32) (x4 : Int32) (x5 : Int32) (x6 : Int32) (m : hM) : Option (Int32 × hM) :=
  if (gI m 96 3) ≤ x6 then (
f_X11_lie_88 fu x3 x4 x5 m) else (
hBd (f_X11_lies fu x1 x6 x2 m) fun y13 m14 =>
if y13 < 0 then (
f_X11_lie_82 fu ih x1 x2 x3 x4 x5 x6 m14) else (
if x3 < 0 then (
f_X11_lie_69 fu ih x1 x2 x6 y13 m14) else (
if x4 ≤ y13 then (
f_X11_lie_82 fu ih x1 x2 x3 x4 x5 x6 m14) else (
f_X11_lie_69 fu ih x1 x2 x6 y13 m14))))
noncomputable def f_X11_lie_34 (fu : Nat) (n : Nat) : Int32 → Int32 → Int32 → Int32 → Int32 → Int32 → hM → Option (Int32 × hM) :=
  Nat.rec (motive := fun _ => Int32 → Int32 → Int32 → Int32 → Int32 → Int32 → hM → Option (Int32 × hM)) (fun _ _ _ _ _ _ _ => none) (fun _ ih => s_X11_lie_34 fu ih) n
theorem f_X11_lie_34_s (fu : Nat) (n : Nat) (x1 : Int32) (x2 : Int32) (x3 : Int32) (x4 : Int32) (x5 : Int32) (x6 : Int32) (m : hM) : f_X11_lie_34 fu (n + 1) x1 x2 x3 x4 x5 x6 m = s_X11_lie_34 fu (f_X11_lie_34 fu n) x1 x2 x3 x4 x5 x6 m := rfl
set_option maxRecDepth 100000 in
set_option maxHeartbeats 4000000 in
theorem r_X11_lie_34 {G : hG} {X : hX} (C : Cx G X 5 cX11_lie 8 RX11 (some .int)) (K : Cr G X) (fu : Nat) (n : Nat) : ∀ (x1 : Int32) (x2 : Int32) (x3 : Int32) (x4 : Int32) (x5 : Int32) (x6 : Int32) (m : hM), Rf vI G X 34 [(0, hA G 96), (1, .int x1), (2, .int x2), (3, .int x3), (4, .int x4), (5, .int x5), (6, .int x6)] [] m (f_X11_lie_34 fu n x1 x2 x3 x4 x5 x6 m) := by
  induction n with
  | zero => intros; exact rf_none
  | succ n ih =>
    intro x1 x2 x3 x4 x5 x6 m
    show Rf vI G X 34 [(0, hA G 96), (1, .int x1), (2, .int x2), (3, .int x3), (4, .int x4), (5, .int x5), (6, .int x6)] [] m (s_X11_lie_34 fu (f_X11_lie_34 fu n) x1 x2 x3 x4 x5 x6 m)
    unfold s_X11_lie_34
    refine rf_iload C (n := 36) (q := 6) dX11_lie_34 rfl rfl ?_
    refine rf_aload_n C (n := 37) (q := 0) dX11_lie_36 rfl rfl rfl ?_
    refine rf_getI C (n := 40) fl_RX11_22 ly_96 rfl dX11_lie_37 rfl ?_
    refine rf_icmp_ge C (tgt := 88) (n := 43) dX11_lie_40 (by decide) rfl (fun h8 => ?_) (fun h8 => ?_)
    · exact rf_lv _ [0, 3, 4, 5] rfl (r_X11_lie_88 C K fu _ _ _ _)
    · refine rf_aload_n C (n := 44) (q := 0) dX11_lie_43 rfl rfl rfl ?_
      refine rf_iload_n C (n := 45) (q := 1) dX11_lie_44 rfl rfl rfl ?_
      refine rf_iload C (n := 47) (q := 6) dX11_lie_45 rfl rfl ?_
      refine rf_iload_n C (n := 48) (q := 2) dX11_lie_47 rfl rfl rfl ?_
      refine rf_callVi C (n := 51) (c_X11_lies G fu _ _ _ _) mw_RX11_408 ly_96 rfl ⟨by decide, by decide⟩ rfl (Nat.le_of_ble_eq_true rfl) rfl dX11_lie_48 rfl (fun y13 m14 => ?_)
      refine rf_istore C (n := 53) [(7, .int y13), (0, hA G 96), (1, .int x1), (2, .int x2), (3, .int x3), (4, .int x4), (5, .int x5), (6, .int x6)] dX11_lie_51 rfl (by decide) rfl ?_
      refine rf_iload C (n := 55) (q := 0) dX11_lie_53 rfl rfl ?_
      refine rf_if_lt C (tgt := 82) (n := 58) dX11_lie_55 (by decide) rfl (fun h15 => ?_) (fun h15 => ?_)
      · exact rf_lv _ [1, 2, 3, 4, 5, 6, 7] rfl (r_X11_lie_82 C K fu _ ih _ _ _ _ _ _ _)
      · refine rf_iload_n C (n := 59) (q := 4) dX11_lie_58 rfl rfl rfl ?_
        refine rf_if_lt C (tgt := 69) (n := 62) dX11_lie_59 (by decide) rfl (fun h17 => ?_) (fun h17 => ?_)
        · exact rf_lv _ [1, 2, 3, 7, 0] rfl (r_X11_lie_69 C K fu _ ih _ _ _ _ _)
        · refine rf_iload C (n := 64) (q := 0) dX11_lie_62 rfl rfl ?_
          refine rf_iload C (n := 66) (q := 5) dX11_lie_64 rfl rfl ?_
          refine rf_icmp_ge C (tgt := 82) (n := 69) dX11_lie_66 (by decide) rfl (fun h19 => ?_) (fun h19 => ?_)
          · exact rf_lv _ [1, 2, 3, 4, 5, 6, 7] rfl (r_X11_lie_82 C K fu _ ih _ _ _ _ _ _ _)
          · exact rf_lv _ [1, 2, 3, 7, 0] rfl (r_X11_lie_69 C K fu _ ih _ _ _ _ _)
noncomputable def f_X11_lie (fu : Nat) (x1 : Int32) (x2 : Int32) (m : hM) : Option (Int32 × hM) :=
  hLet (sI m 96 0 0) fun m1 =>
hBd (f_X11_isPiece fu x1 m1) fun y2 m3 =>
if y2 = 0 then (
some ((-1), m3)) else (
hBd (f_X11_isHour fu x2 m3) fun y5 m6 =>
if ¬ y5 = 0 then (
f_X11_lie_34 fu fu x1 x2 (-2) 0 0 0 m6) else (
some ((-1), m6)))
set_option maxRecDepth 100000 in
set_option maxHeartbeats 4000000 in
theorem c_X11_lie (G : hG) (fu : Nat) (x1 : Int32) (x2 : Int32) (m : hM) : Mt vI G 5 yX11_lie cX11_lie 8 (some .int) [hA G 96, .int x1, .int x2] m (f_X11_lie fu x1 x2 m) := by
  refine mt_of (by decide +kernel) (Nat.le_of_ble_eq_true rfl) (fun X C K => ?_)
  have C : Cx G X 5 cX11_lie 8 RX11 (some .int) := C
  show Rf vI G X 0 [(0, hA G 96), (1, .int x1), (2, .int x2)] [] m _
  unfold f_X11_lie
  refine rf_aload_n C (n := 1) (q := 0) dX11_lie_0 rfl rfl rfl ?_
  refine rf_iconst C (n := 2) (v := 0) dX11_lie_1 rfl (by decide) ?_
  refine rf_putI C (n := 5) pl_RX11_3 ly_96 rfl ⟨rfl, rfl⟩ dX11_lie_2 rfl ?_
  refine rf_letM (fun m1 => ?_)
  refine rf_aload_n C (n := 6) (q := 0) dX11_lie_5 rfl rfl rfl ?_
  refine rf_iload_n C (n := 7) (q := 1) dX11_lie_6 rfl rfl rfl ?_
  refine rf_callVi C (n := 10) (c_X11_isPiece G fu _ _) mw_RX11_256 ly_96 rfl ⟨by decide, by decide⟩ rfl (Nat.le_of_ble_eq_true rfl) rfl dX11_lie_7 rfl (fun y2 m3 => ?_)
  refine rf_if_eq C (tgt := 20) (n := 13) dX11_lie_10 (by decide) rfl (fun h4 => ?_) (fun h4 => ?_)
  · refine rf_iconst C (n := 21) (v := (-1)) dX11_lie_20 rfl (by decide) ?_
    exact rf_iret C K dX11_lie_21
  · refine rf_iload_n C (n := 14) (q := 2) dX11_lie_13 rfl rfl rfl ?_
    refine rf_callSi C (n := 17) (c_X11_isHour G fu _ _) sw_RX11_81 ⟨by decide, by decide⟩ rfl (Nat.le_of_ble_eq_true rfl) rfl dX11_lie_14 rfl (fun y5 m6 => ?_)
    refine rf_if_ne C (tgt := 22) (n := 20) dX11_lie_17 (by decide) rfl (fun h7 => ?_) (fun h7 => ?_)
    · refine rf_bipush C (n := 24) (v := (-2)) dX11_lie_22 rfl (by decide) ?_
      refine rf_istore_n C (n := 25) [(3, .int (-2)), (0, hA G 96), (1, .int x1), (2, .int x2)] dX11_lie_24 rfl rfl (by decide) rfl ?_
      refine rf_iconst C (n := 26) (v := 0) dX11_lie_25 rfl (by decide) ?_
      refine rf_istore C (n := 28) [(4, .int 0), (3, .int (-2)), (0, hA G 96), (1, .int x1), (2, .int x2)] dX11_lie_26 rfl (by decide) rfl ?_
      refine rf_iconst C (n := 29) (v := 0) dX11_lie_28 rfl (by decide) ?_
      refine rf_istore C (n := 31) [(5, .int 0), (4, .int 0), (3, .int (-2)), (0, hA G 96), (1, .int x1), (2, .int x2)] dX11_lie_29 rfl (by decide) rfl ?_
      refine rf_iconst C (n := 32) (v := 0) dX11_lie_31 rfl (by decide) ?_
      refine rf_istore C (n := 34) [(6, .int 0), (5, .int 0), (4, .int 0), (3, .int (-2)), (0, hA G 96), (1, .int x1), (2, .int x2)] dX11_lie_32 rfl (by decide) rfl ?_
      exact rf_lv _ [4, 5, 6, 3, 2, 1, 0] rfl (r_X11_lie_34 C K fu fu _ _ _ _ _ _ _)
    · refine rf_iconst C (n := 21) (v := (-1)) dX11_lie_20 rfl (by decide) ?_
      exact rf_iret C K dX11_lie_21
noncomputable def s_X11_keepsBorn_2 (fu : Nat) (ih : Int32 → hM → Option (Unit × hM)) (x1 : Int32) (m : hM) : Option (Unit × hM) :=
  if 8 ≤ x1 then (
some ((), m)) else (
if hIn x1 8 then (
if hIn x1 8 then (
hLet (sI m 126 (Int32.toNatClampNeg x1) (gI m 111 (Int32.toNatClampNeg x1))) fun m4 =>
hLet (x1 + 1) fun y5 =>
ih y5 m4) else none) else none)
noncomputable def f_X11_keepsBorn_2 (fu : Nat) (n : Nat) : Int32 → hM → Option (Unit × hM) :=
  Nat.rec (motive := fun _ => Int32 → hM → Option (Unit × hM)) (fun _ _ => none) (fun _ ih => s_X11_keepsBorn_2 fu ih) n
theorem f_X11_keepsBorn_2_s (fu : Nat) (n : Nat) (x1 : Int32) (m : hM) : f_X11_keepsBorn_2 fu (n + 1) x1 m = s_X11_keepsBorn_2 fu (f_X11_keepsBorn_2 fu n) x1 m := rfl
set_option maxRecDepth 100000 in
set_option maxHeartbeats 4000000 in
theorem r_X11_keepsBorn_2 {G : hG} {X : hX} (C : Cx G X 1 cX11_keepsBorn 2 RX11 none) (K : Cr G X) (fu : Nat) (n : Nat) : ∀ (x1 : Int32) (m : hM), Rf vU G X 2 [(0, hA G 96), (1, .int x1)] [] m (f_X11_keepsBorn_2 fu n x1 m) := by
  induction n with
  | zero => intros; exact rf_none
  | succ n ih =>
    intro x1 m
    show Rf vU G X 2 [(0, hA G 96), (1, .int x1)] [] m (s_X11_keepsBorn_2 fu (f_X11_keepsBorn_2 fu n) x1 m)
    unfold s_X11_keepsBorn_2
    refine rf_iload_n C (n := 3) (q := 1) dX11_keepsBorn_2 rfl rfl rfl ?_
    refine rf_bipush C (n := 5) (v := 8) dX11_keepsBorn_3 rfl (by decide) ?_
    refine rf_icmp_ge C (tgt := 26) (n := 8) dX11_keepsBorn_5 (by decide) rfl (fun h1 => ?_) (fun h1 => ?_)
    · exact rf_vret C K dX11_keepsBorn_26
    · refine rf_aload_n C (n := 9) (q := 0) dX11_keepsBorn_8 rfl rfl rfl ?_
      refine rf_getS C (n := 12) fl_RX11_411 ly_96 rfl dX11_keepsBorn_9 rfl ?_
      refine rf_iload_n C (n := 13) (q := 1) dX11_keepsBorn_12 rfl rfl rfl ?_
      refine rf_aload_n C (n := 14) (q := 0) dX11_keepsBorn_13 rfl rfl rfl ?_
      refine rf_getS C (n := 17) fl_RX11_143 ly_96 rfl dX11_keepsBorn_14 rfl ?_
      refine rf_iload_n C (n := 18) (q := 1) dX11_keepsBorn_17 rfl rfl rfl ?_
      refine rf_guard (fun h2 => ?_)
      refine rf_iald C (n := 19) ly_111 h2 rfl dX11_keepsBorn_18 rfl ?_
      refine rf_guard (fun h3 => ?_)
      refine rf_iast C (n := 20) ly_126 h3 rfl dX11_keepsBorn_19 rfl ?_
      refine rf_letM (fun m4 => ?_)
      refine rf_iinc2 C (n := 23) (q := 1) (fun y5 => [(1, .int y5), (0, hA G 96)]) dX11_keepsBorn_20 rfl rfl (by decide) (by decide) (fun _ => rfl) (fun y5 => ?_)
      refine rf_goto C (n := 2) dX11_keepsBorn_23 (by decide) ?_
      exact rf_lv _ [1, 0] rfl (ih _ _)
noncomputable def f_X11_keepsBorn (fu : Nat) (m : hM) : Option (Unit × hM) :=
  f_X11_keepsBorn_2 fu fu 0 m
set_option maxRecDepth 100000 in
set_option maxHeartbeats 4000000 in
theorem c_X11_keepsBorn (G : hG) (fu : Nat) (m : hM) : Mt vU G 1 yX11_keepsBorn cX11_keepsBorn 2 none [hA G 96] m (f_X11_keepsBorn fu m) := by
  refine mt_of (by decide +kernel) (Nat.le_of_ble_eq_true rfl) (fun X C K => ?_)
  have C : Cx G X 1 cX11_keepsBorn 2 RX11 none := C
  show Rf vU G X 0 [(0, hA G 96)] [] m _
  unfold f_X11_keepsBorn
  refine rf_iconst C (n := 1) (v := 0) dX11_keepsBorn_0 rfl (by decide) ?_
  refine rf_istore_n C (n := 2) [(1, .int 0), (0, hA G 96)] dX11_keepsBorn_1 rfl rfl (by decide) rfl ?_
  exact rf_lv _ [1, 0] rfl (r_X11_keepsBorn_2 C K fu fu _ _)
noncomputable def s_X11_givesBorn_2 (fu : Nat) (ih : Int32 → hM → Option (Unit × hM)) (x1 : Int32) (m : hM) : Option (Unit × hM) :=
  if 8 ≤ x1 then (
some ((), m)) else (
if hIn x1 8 then (
if hIn x1 8 then (
hLet (sI m 111 (Int32.toNatClampNeg x1) (gI m 126 (Int32.toNatClampNeg x1))) fun m4 =>
hLet (x1 + 1) fun y5 =>
ih y5 m4) else none) else none)
noncomputable def f_X11_givesBorn_2 (fu : Nat) (n : Nat) : Int32 → hM → Option (Unit × hM) :=
  Nat.rec (motive := fun _ => Int32 → hM → Option (Unit × hM)) (fun _ _ => none) (fun _ ih => s_X11_givesBorn_2 fu ih) n
theorem f_X11_givesBorn_2_s (fu : Nat) (n : Nat) (x1 : Int32) (m : hM) : f_X11_givesBorn_2 fu (n + 1) x1 m = s_X11_givesBorn_2 fu (f_X11_givesBorn_2 fu n) x1 m := rfl
set_option maxRecDepth 100000 in
set_option maxHeartbeats 4000000 in
theorem r_X11_givesBorn_2 {G : hG} {X : hX} (C : Cx G X 1 cX11_givesBorn 2 RX11 none) (K : Cr G X) (fu : Nat) (n : Nat) : ∀ (x1 : Int32) (m : hM), Rf vU G X 2 [(0, hA G 96), (1, .int x1)] [] m (f_X11_givesBorn_2 fu n x1 m) := by
  induction n with
  | zero => intros; exact rf_none
  | succ n ih =>
    intro x1 m
    show Rf vU G X 2 [(0, hA G 96), (1, .int x1)] [] m (s_X11_givesBorn_2 fu (f_X11_givesBorn_2 fu n) x1 m)
    unfold s_X11_givesBorn_2
    refine rf_iload_n C (n := 3) (q := 1) dX11_givesBorn_2 rfl rfl rfl ?_
    refine rf_bipush C (n := 5) (v := 8) dX11_givesBorn_3 rfl (by decide) ?_
    refine rf_icmp_ge C (tgt := 26) (n := 8) dX11_givesBorn_5 (by decide) rfl (fun h1 => ?_) (fun h1 => ?_)
    · exact rf_vret C K dX11_givesBorn_26
    · refine rf_aload_n C (n := 9) (q := 0) dX11_givesBorn_8 rfl rfl rfl ?_
      refine rf_getS C (n := 12) fl_RX11_143 ly_96 rfl dX11_givesBorn_9 rfl ?_
      refine rf_iload_n C (n := 13) (q := 1) dX11_givesBorn_12 rfl rfl rfl ?_
      refine rf_aload_n C (n := 14) (q := 0) dX11_givesBorn_13 rfl rfl rfl ?_
      refine rf_getS C (n := 17) fl_RX11_411 ly_96 rfl dX11_givesBorn_14 rfl ?_
      refine rf_iload_n C (n := 18) (q := 1) dX11_givesBorn_17 rfl rfl rfl ?_
      refine rf_guard (fun h2 => ?_)
      refine rf_iald C (n := 19) ly_126 h2 rfl dX11_givesBorn_18 rfl ?_
      refine rf_guard (fun h3 => ?_)
      refine rf_iast C (n := 20) ly_111 h3 rfl dX11_givesBorn_19 rfl ?_
      refine rf_letM (fun m4 => ?_)
      refine rf_iinc2 C (n := 23) (q := 1) (fun y5 => [(1, .int y5), (0, hA G 96)]) dX11_givesBorn_20 rfl rfl (by decide) (by decide) (fun _ => rfl) (fun y5 => ?_)
      refine rf_goto C (n := 2) dX11_givesBorn_23 (by decide) ?_
      exact rf_lv _ [1, 0] rfl (ih _ _)
noncomputable def f_X11_givesBorn (fu : Nat) (m : hM) : Option (Unit × hM) :=
  f_X11_givesBorn_2 fu fu 0 m
set_option maxRecDepth 100000 in
set_option maxHeartbeats 4000000 in
theorem c_X11_givesBorn (G : hG) (fu : Nat) (m : hM) : Mt vU G 1 yX11_givesBorn cX11_givesBorn 2 none [hA G 96] m (f_X11_givesBorn fu m) := by
  refine mt_of (by decide +kernel) (Nat.le_of_ble_eq_true rfl) (fun X C K => ?_)
  have C : Cx G X 1 cX11_givesBorn 2 RX11 none := C
  show Rf vU G X 0 [(0, hA G 96)] [] m _
  unfold f_X11_givesBorn
  refine rf_iconst C (n := 1) (v := 0) dX11_givesBorn_0 rfl (by decide) ?_
  refine rf_istore_n C (n := 2) [(1, .int 0), (0, hA G 96)] dX11_givesBorn_1 rfl rfl (by decide) rfl ?_
  exact rf_lv _ [1, 0] rfl (r_X11_givesBorn_2 C K fu fu _ _)
noncomputable def f_X11_movesHomes_54 (fu : Nat) (k7 : Int32 → Int32 → hM → Option (Int32 × hM)) (x1 : Int32) (x2 : Int32) (m : hM) : Option (Int32 × hM) :=
  hLet (x2 + (-1)) fun y13 =>
k7 x1 y13 m
set_option maxRecDepth 100000 in
set_option maxHeartbeats 4000000 in
theorem r_X11_movesHomes_54 {G : hG} {X : hX} (C : Cx G X 2 cX11_movesHomes 3 RX11 (some .boolean)) (K : Cr G X) (fu : Nat) (k7 : Int32 → Int32 → hM → Option (Int32 × hM)) (hk7 : ∀ (x1 : Int32) (x2 : Int32) (m : hM), Rf vI G X 7 [(0, hA G 96), (1, .int x1), (2, .int x2)] [] m (k7 x1 x2 m)) (x1 : Int32) (x2 : Int32) (m : hM) : Rf vI G X 54 [(0, hA G 96), (1, .int x1), (2, .int x2)] [] m (f_X11_movesHomes_54 fu k7 x1 x2 m) := by
  unfold f_X11_movesHomes_54
  refine rf_iinc2 C (n := 57) (q := 2) (fun y13 => [(2, .int y13), (0, hA G 96), (1, .int x1)]) dX11_movesHomes_54 rfl rfl (by decide) (by decide) (fun _ => rfl) (fun y13 => ?_)
  refine rf_goto C (n := 7) dX11_movesHomes_57 (by decide) ?_
  exact rf_lv _ [1, 2, 0] rfl (hk7 _ _ _)
noncomputable def s_X11_movesHomes_7 (fu : Nat) (ih : Int32 → Int32 → hM → Option (Int32 × hM)) (x1 : Int32) (x2 : Int32) (m : hM) : Option (Int32 × hM) :=
  if x2 < 0 then (
some (0, m)) else (
hBd (f_X11_has fu x1 x2 m) fun y3 m4 =>
if ¬ y3 = 0 then (
if hIn x2 8 then (
if hIn x2 8 then (
hLet (sI m4 111 (Int32.toNatClampNeg x2) ((gI m4 111 (Int32.toNatClampNeg x2)) + 1)) fun m8 =>
if hIn x2 8 then (
if (gI m8 96 3) ≤ (gI m8 111 (Int32.toNatClampNeg x2)) then (
if hIn x2 8 then (
hLet (sI m8 111 (Int32.toNatClampNeg x2) 0) fun m12 =>
f_X11_movesHomes_54 fu ih x1 x2 m12) else none) else (
some (1, m8))) else none) else none) else none) else (
f_X11_movesHomes_54 fu ih x1 x2 m4))
noncomputable def f_X11_movesHomes_7 (fu : Nat) (n : Nat) : Int32 → Int32 → hM → Option (Int32 × hM) :=
  Nat.rec (motive := fun _ => Int32 → Int32 → hM → Option (Int32 × hM)) (fun _ _ _ => none) (fun _ ih => s_X11_movesHomes_7 fu ih) n
theorem f_X11_movesHomes_7_s (fu : Nat) (n : Nat) (x1 : Int32) (x2 : Int32) (m : hM) : f_X11_movesHomes_7 fu (n + 1) x1 x2 m = s_X11_movesHomes_7 fu (f_X11_movesHomes_7 fu n) x1 x2 m := rfl
set_option maxRecDepth 100000 in
set_option maxHeartbeats 4000000 in
theorem r_X11_movesHomes_7 {G : hG} {X : hX} (C : Cx G X 2 cX11_movesHomes 3 RX11 (some .boolean)) (K : Cr G X) (fu : Nat) (n : Nat) : ∀ (x1 : Int32) (x2 : Int32) (m : hM), Rf vI G X 7 [(0, hA G 96), (1, .int x1), (2, .int x2)] [] m (f_X11_movesHomes_7 fu n x1 x2 m) := by
  induction n with
  | zero => intros; exact rf_none
  | succ n ih =>
    intro x1 x2 m
    show Rf vI G X 7 [(0, hA G 96), (1, .int x1), (2, .int x2)] [] m (s_X11_movesHomes_7 fu (f_X11_movesHomes_7 fu n) x1 x2 m)
    unfold s_X11_movesHomes_7
    refine rf_iload_n C (n := 8) (q := 2) dX11_movesHomes_7 rfl rfl rfl ?_
    refine rf_if_lt C (tgt := 60) (n := 11) dX11_movesHomes_8 (by decide) rfl (fun h2 => ?_) (fun h2 => ?_)
    · refine rf_iconst C (n := 61) (v := 0) dX11_movesHomes_60 rfl (by decide) ?_
      exact rf_zret C K (by decide) dX11_movesHomes_61
    · refine rf_iload_n C (n := 12) (q := 1) dX11_movesHomes_11 rfl rfl rfl ?_
      refine rf_iload_n C (n := 13) (q := 2) dX11_movesHomes_12 rfl rfl rfl ?_
      refine rf_callSi C (n := 16) (c_X11_has G fu _ _ _) sw_RX11_137 ⟨by decide, by decide⟩ rfl (Nat.le_of_ble_eq_true rfl) rfl dX11_movesHomes_13 rfl (fun y3 m4 => ?_)
      refine rf_if_ne C (tgt := 22) (n := 19) dX11_movesHomes_16 (by decide) rfl (fun h5 => ?_) (fun h5 => ?_)
      · refine rf_aload_n C (n := 23) (q := 0) dX11_movesHomes_22 rfl rfl rfl ?_
        refine rf_getS C (n := 26) fl_RX11_143 ly_96 rfl dX11_movesHomes_23 rfl ?_
        refine rf_iload_n C (n := 27) (q := 2) dX11_movesHomes_26 rfl rfl rfl ?_
        refine rf_dup2 C (n := 28) dX11_movesHomes_27 rfl rfl rfl ?_
        refine rf_guard (fun h6 => ?_)
        refine rf_iald C (n := 29) ly_111 h6 rfl dX11_movesHomes_28 rfl ?_
        refine rf_iconst C (n := 30) (v := 1) dX11_movesHomes_29 rfl (by decide) ?_
        refine rf_iadd C (n := 31) dX11_movesHomes_30 rfl ?_
        refine rf_guard (fun h7 => ?_)
        refine rf_iast C (n := 32) ly_111 h7 rfl dX11_movesHomes_31 rfl ?_
        refine rf_letM (fun m8 => ?_)
        refine rf_aload_n C (n := 33) (q := 0) dX11_movesHomes_32 rfl rfl rfl ?_
        refine rf_getS C (n := 36) fl_RX11_143 ly_96 rfl dX11_movesHomes_33 rfl ?_
        refine rf_iload_n C (n := 37) (q := 2) dX11_movesHomes_36 rfl rfl rfl ?_
        refine rf_guard (fun h9 => ?_)
        refine rf_iald C (n := 38) ly_111 h9 rfl dX11_movesHomes_37 rfl ?_
        refine rf_aload_n C (n := 39) (q := 0) dX11_movesHomes_38 rfl rfl rfl ?_
        refine rf_getI C (n := 42) fl_RX11_22 ly_96 rfl dX11_movesHomes_39 rfl ?_
        refine rf_icmp_ge C (tgt := 47) (n := 45) dX11_movesHomes_42 (by decide) rfl (fun h10 => ?_) (fun h10 => ?_)
        · refine rf_aload_n C (n := 48) (q := 0) dX11_movesHomes_47 rfl rfl rfl ?_
          refine rf_getS C (n := 51) fl_RX11_143 ly_96 rfl dX11_movesHomes_48 rfl ?_
          refine rf_iload_n C (n := 52) (q := 2) dX11_movesHomes_51 rfl rfl rfl ?_
          refine rf_iconst C (n := 53) (v := 0) dX11_movesHomes_52 rfl (by decide) ?_
          refine rf_guard (fun h11 => ?_)
          refine rf_iast C (n := 54) ly_111 h11 rfl dX11_movesHomes_53 rfl ?_
          refine rf_letM (fun m12 => ?_)
          exact rf_lv _ [0, 1, 2] rfl (r_X11_movesHomes_54 C K fu _ ih _ _ _)
        · refine rf_iconst C (n := 46) (v := 1) dX11_movesHomes_45 rfl (by decide) ?_
          exact rf_zret C K (by decide) dX11_movesHomes_46
      · refine rf_goto C (n := 54) dX11_movesHomes_19 (by decide) ?_
        exact rf_lv _ [0, 1, 2] rfl (r_X11_movesHomes_54 C K fu _ ih _ _ _)
noncomputable def f_X11_movesHomes (fu : Nat) (x1 : Int32) (m : hM) : Option (Int32 × hM) :=
  hLet ((gI m 96 16) - 1) fun y1 =>
f_X11_movesHomes_7 fu fu x1 y1 m
set_option maxRecDepth 100000 in
set_option maxHeartbeats 4000000 in
theorem c_X11_movesHomes (G : hG) (fu : Nat) (x1 : Int32) (m : hM) : Mt vI G 2 yX11_movesHomes cX11_movesHomes 3 (some .boolean) [hA G 96, .int x1] m (f_X11_movesHomes fu x1 m) := by
  refine mt_of (by decide +kernel) (Nat.le_of_ble_eq_true rfl) (fun X C K => ?_)
  have C : Cx G X 2 cX11_movesHomes 3 RX11 (some .boolean) := C
  show Rf vI G X 0 [(0, hA G 96), (1, .int x1)] [] m _
  unfold f_X11_movesHomes
  refine rf_aload_n C (n := 1) (q := 0) dX11_movesHomes_0 rfl rfl rfl ?_
  refine rf_getI C (n := 4) fl_RX11_151 ly_96 rfl dX11_movesHomes_1 rfl ?_
  refine rf_iconst C (n := 5) (v := 1) dX11_movesHomes_4 rfl (by decide) ?_
  refine rf_isub C (n := 6) dX11_movesHomes_5 rfl ?_
  refine rf_letI (fun y1 => ?_)
  refine rf_istore_n C (n := 7) [(2, .int y1), (0, hA G 96), (1, .int x1)] dX11_movesHomes_6 rfl rfl (by decide) rfl ?_
  exact rf_lv _ [1, 2, 0] rfl (r_X11_movesHomes_7 C K fu fu _ _ _)
noncomputable def f_X11_homes_241 (fu : Nat) (k211 : Int32 → Int32 → Int32 → hM → Option (Int32 × hM)) (x1 : Int32) (x4 : Int32) (x6 : Int32) (m : hM) : Option (Int32 × hM) :=
  hLet (x6 + 1) fun y24 =>
k211 x1 x4 y24 m
set_option maxRecDepth 100000 in
set_option maxHeartbeats 4000000 in
theorem r_X11_homes_241 {G : hG} {X : hX} (C : Cx G X 12 cX11_homes 8 RX11 (some .int)) (K : Cr G X) (fu : Nat) (k211 : Int32 → Int32 → Int32 → hM → Option (Int32 × hM)) (hk211 : ∀ (x1 : Int32) (x4 : Int32) (x6 : Int32) (m : hM), Rf vI G X 211 [(0, hA G 96), (1, .int x1), (4, .int x4), (6, .int x6)] [] m (k211 x1 x4 x6 m)) (x1 : Int32) (x4 : Int32) (x6 : Int32) (m : hM) : Rf vI G X 241 [(0, hA G 96), (1, .int x1), (4, .int x4), (6, .int x6)] [] m (f_X11_homes_241 fu k211 x1 x4 x6 m) := by
  unfold f_X11_homes_241
  refine rf_iinc2 C (n := 244) (q := 3) (fun y24 => [(6, .int y24), (0, hA G 96), (1, .int x1), (4, .int x4)]) dX11_homes_241 rfl rfl (by decide) (by decide) (fun _ => rfl) (fun y24 => ?_)
  refine rf_goto C (n := 211) dX11_homes_244 (by decide) ?_
  exact rf_lv _ [1, 2, 3, 0] rfl (hk211 _ _ _ _)
noncomputable def s_X11_homes_211 (fu : Nat) (ih : Int32 → Int32 → Int32 → hM → Option (Int32 × hM)) (x1 : Int32) (x4 : Int32) (x6 : Int32) (m : hM) : Option (Int32 × hM) :=
  if (gI m 96 16) ≤ x6 then (
some (x4, m)) else (
hBd (f_X11_has fu x1 x6 m) fun y21 m22 =>
if y21 = 0 then (
f_X11_homes_241 fu ih x1 x4 x6 m22) else (
if hIn x6 8 then (
hBd (f_X11_enters fu (Int32.toInt64 (gI m22 127 (Int32.toNatClampNeg x6))) m22) fun _ m26 =>
f_X11_homes_241 fu ih x1 x4 x6 m26) else none))
noncomputable def f_X11_homes_211 (fu : Nat) (n : Nat) : Int32 → Int32 → Int32 → hM → Option (Int32 × hM) :=
  Nat.rec (motive := fun _ => Int32 → Int32 → Int32 → hM → Option (Int32 × hM)) (fun _ _ _ _ => none) (fun _ ih => s_X11_homes_211 fu ih) n
theorem f_X11_homes_211_s (fu : Nat) (n : Nat) (x1 : Int32) (x4 : Int32) (x6 : Int32) (m : hM) : f_X11_homes_211 fu (n + 1) x1 x4 x6 m = s_X11_homes_211 fu (f_X11_homes_211 fu n) x1 x4 x6 m := rfl
set_option maxRecDepth 100000 in
set_option maxHeartbeats 4000000 in
theorem r_X11_homes_211 {G : hG} {X : hX} (C : Cx G X 12 cX11_homes 8 RX11 (some .int)) (K : Cr G X) (fu : Nat) (n : Nat) : ∀ (x1 : Int32) (x4 : Int32) (x6 : Int32) (m : hM), Rf vI G X 211 [(0, hA G 96), (1, .int x1), (4, .int x4), (6, .int x6)] [] m (f_X11_homes_211 fu n x1 x4 x6 m) := by
  induction n with
  | zero => intros; exact rf_none
  | succ n ih =>
    intro x1 x4 x6 m
    show Rf vI G X 211 [(0, hA G 96), (1, .int x1), (4, .int x4), (6, .int x6)] [] m (s_X11_homes_211 fu (f_X11_homes_211 fu n) x1 x4 x6 m)
    unfold s_X11_homes_211
    refine rf_iload C (n := 213) (q := 3) dX11_homes_211 rfl rfl ?_
    refine rf_aload_n C (n := 214) (q := 0) dX11_homes_213 rfl rfl rfl ?_
    refine rf_getI C (n := 217) fl_RX11_151 ly_96 rfl dX11_homes_214 rfl ?_
    refine rf_icmp_ge C (tgt := 247) (n := 220) dX11_homes_217 (by decide) rfl (fun h20 => ?_) (fun h20 => ?_)
    · refine rf_iload C (n := 249) (q := 2) dX11_homes_247 rfl rfl ?_
      exact rf_iret C K dX11_homes_249
    · refine rf_iload_n C (n := 221) (q := 1) dX11_homes_220 rfl rfl rfl ?_
      refine rf_iload C (n := 223) (q := 3) dX11_homes_221 rfl rfl ?_
      refine rf_callSi C (n := 226) (c_X11_has G fu _ _ _) sw_RX11_137 ⟨by decide, by decide⟩ rfl (Nat.le_of_ble_eq_true rfl) rfl dX11_homes_223 rfl (fun y21 m22 => ?_)
      refine rf_if_eq C (tgt := 241) (n := 229) dX11_homes_226 (by decide) rfl (fun h23 => ?_) (fun h23 => ?_)
      · exact rf_lv _ [0, 1, 2, 3] rfl (r_X11_homes_241 C K fu _ ih _ _ _ _)
      · refine rf_aload_n C (n := 230) (q := 0) dX11_homes_229 rfl rfl rfl ?_
        refine rf_aload_n C (n := 231) (q := 0) dX11_homes_230 rfl rfl rfl ?_
        refine rf_getS C (n := 234) fl_RX11_425 ly_96 rfl dX11_homes_231 rfl ?_
        refine rf_iload C (n := 236) (q := 3) dX11_homes_234 rfl rfl ?_
        refine rf_guard (fun h25 => ?_)
        refine rf_iald C (n := 237) ly_127 h25 rfl dX11_homes_236 rfl ?_
        refine rf_i2l C (n := 238) dX11_homes_237 rfl ?_
        refine rf_callVv C (n := 241) (c_X11_enters G fu _ _) mw_RX11_18 ly_96 rfl ⟨by decide, by decide⟩ rfl (Nat.le_of_ble_eq_true rfl) rfl dX11_homes_238 rfl (fun _ m26 => ?_)
        exact rf_lv _ [0, 1, 2, 3] rfl (r_X11_homes_241 C K fu _ ih _ _ _ _)
noncomputable def f_X11_homes_184 (fu : Nat) (x1 : Int32) (x3 : Int32) (x4 : Int32) (m : hM) : Option (Int32 × hM) :=
  hBd (f_X11_givesBorn fu m) fun _ m16 =>
hLet (sI m16 117 0 x3) fun m17 =>
if 0 ≤ x4 then (
hLet (sI m17 96 1 0) fun m19 =>
f_X11_homes_211 fu fu x1 x4 0 m19) else (
some ((-2), m17))
set_option maxRecDepth 100000 in
set_option maxHeartbeats 4000000 in
theorem r_X11_homes_184 {G : hG} {X : hX} (C : Cx G X 12 cX11_homes 8 RX11 (some .int)) (K : Cr G X) (fu : Nat) (x1 : Int32) (x3 : Int32) (x4 : Int32) (m : hM) : Rf vI G X 184 [(0, hA G 96), (1, .int x1), (3, .int x3), (4, .int x4)] [] m (f_X11_homes_184 fu x1 x3 x4 m) := by
  unfold f_X11_homes_184
  refine rf_aload_n C (n := 185) (q := 0) dX11_homes_184 rfl rfl rfl ?_
  refine rf_callVv C (n := 188) (c_X11_givesBorn G fu _) mw_RX11_431 ly_96 rfl ⟨by decide, by decide⟩ rfl (Nat.le_of_ble_eq_true rfl) rfl dX11_homes_185 rfl (fun _ m16 => ?_)
  refine rf_aload_n C (n := 189) (q := 0) dX11_homes_188 rfl rfl rfl ?_
  refine rf_getS C (n := 192) fl_RX11_199 ly_96 rfl dX11_homes_189 rfl ?_
  refine rf_iconst C (n := 193) (v := 0) dX11_homes_192 rfl (by decide) ?_
  refine rf_iload_n C (n := 194) (q := 2) dX11_homes_193 rfl rfl rfl ?_
  refine rf_iast C (n := 195) (j0 := 0) ly_117 (by decide) (by decide) dX11_homes_194 rfl ?_
  refine rf_letM (fun m17 => ?_)
  refine rf_iload C (n := 197) (q := 3) dX11_homes_195 rfl rfl ?_
  refine rf_if_ge C (tgt := 203) (n := 200) dX11_homes_197 (by decide) rfl (fun h18 => ?_) (fun h18 => ?_)
  · refine rf_aload_n C (n := 204) (q := 0) dX11_homes_203 rfl rfl rfl ?_
    refine rf_iconst C (n := 205) (v := 0) dX11_homes_204 rfl (by decide) ?_
    refine rf_putI C (n := 208) pl_RX11_11 ly_96 rfl ⟨rfl, rfl⟩ dX11_homes_205 rfl ?_
    refine rf_letM (fun m19 => ?_)
    refine rf_iconst C (n := 209) (v := 0) dX11_homes_208 rfl (by decide) ?_
    refine rf_istore C (n := 211) [(6, .int 0), (0, hA G 96), (1, .int x1), (3, .int x3), (4, .int x4)] dX11_homes_209 rfl (by decide) rfl ?_
    exact rf_lv _ [1, 2, 4, 0] rfl (r_X11_homes_211 C K fu fu _ _ _ _)
  · refine rf_bipush C (n := 202) (v := (-2)) dX11_homes_200 rfl (by decide) ?_
    exact rf_iret C K dX11_homes_202
noncomputable def f_X11_homes_174 (fu : Nat) (k109 : Int32 → Int32 → Int32 → Int32 → Int32 → hM → Option (Int32 × hM)) (x1 : Int32) (x2 : Int32) (x3 : Int32) (x4 : Int32) (m : hM) : Option (Int32 × hM) :=
  hBd (f_X11_movesHomes fu x1 m) fun y30 m31 =>
k109 x1 x2 x3 x4 y30 m31
set_option maxRecDepth 100000 in
set_option maxHeartbeats 4000000 in
theorem r_X11_homes_174 {G : hG} {X : hX} (C : Cx G X 12 cX11_homes 8 RX11 (some .int)) (K : Cr G X) (fu : Nat) (k109 : Int32 → Int32 → Int32 → Int32 → Int32 → hM → Option (Int32 × hM)) (hk109 : ∀ (x1 : Int32) (x2 : Int32) (x3 : Int32) (x4 : Int32) (x5 : Int32) (m : hM), Rf vI G X 109 [(0, hA G 96), (1, .int x1), (2, .int x2), (3, .int x3), (4, .int x4), (5, .int x5)] [] m (k109 x1 x2 x3 x4 x5 m)) (x1 : Int32) (x2 : Int32) (x3 : Int32) (x4 : Int32) (m : hM) : Rf vI G X 174 [(0, hA G 96), (1, .int x1), (2, .int x2), (3, .int x3), (4, .int x4)] [] m (f_X11_homes_174 fu k109 x1 x2 x3 x4 m) := by
  unfold f_X11_homes_174
  refine rf_aload_n C (n := 175) (q := 0) dX11_homes_174 rfl rfl rfl ?_
  refine rf_iload_n C (n := 176) (q := 1) dX11_homes_175 rfl rfl rfl ?_
  refine rf_callVi C (n := 179) (c_X11_movesHomes G fu _ _) mw_RX11_428 ly_96 rfl ⟨by decide, by decide⟩ rfl (Nat.le_of_ble_eq_true rfl) rfl dX11_homes_176 rfl (fun y30 m31 => ?_)
  refine rf_istore C (n := 181) [(5, .int y30), (0, hA G 96), (1, .int x1), (2, .int x2), (3, .int x3), (4, .int x4)] dX11_homes_179 rfl (by decide) rfl ?_
  refine rf_goto C (n := 109) dX11_homes_181 (by decide) ?_
  exact rf_lv _ [1, 2, 3, 4, 5, 0] rfl (hk109 _ _ _ _ _ _)
noncomputable def s_X11_homes_145 (fu : Nat) (k109 : Int32 → Int32 → Int32 → Int32 → Int32 → hM → Option (Int32 × hM)) (ih : Int32 → Int32 → Int32 → Int32 → Int32 → hM → Option (Int32 × hM)) (x1 : Int32) (x2 : Int32) (x3 : Int32) (x4 : Int32) (x7 : Int32) (m : hM) : Option (Int32 × hM) :=
  if (gI m 96 16) ≤ x7 then (
f_X11_homes_174 fu k109 x1 x2 x3 x4 m) else (
if hIn x7 8 then (
if hIn x7 8 then (
hLet (sI m 127 (Int32.toNatClampNeg x7) (gI m 111 (Int32.toNatClampNeg x7))) fun m36 =>
hLet (x7 + 1) fun y37 =>
ih x1 x2 x3 x4 y37 m36) else none) else none)
noncomputable def f_X11_homes_145 (fu : Nat) (k109 : Int32 → Int32 → Int32 → Int32 → Int32 → hM → Option (Int32 × hM)) (n : Nat) : Int32 → Int32 → Int32 → Int32 → Int32 → hM → Option (Int32 × hM) :=
  Nat.rec (motive := fun _ => Int32 → Int32 → Int32 → Int32 → Int32 → hM → Option (Int32 × hM)) (fun _ _ _ _ _ _ => none) (fun _ ih => s_X11_homes_145 fu k109 ih) n
theorem f_X11_homes_145_s (fu : Nat) (k109 : Int32 → Int32 → Int32 → Int32 → Int32 → hM → Option (Int32 × hM)) (n : Nat) (x1 : Int32) (x2 : Int32) (x3 : Int32) (x4 : Int32) (x7 : Int32) (m : hM) : f_X11_homes_145 fu k109 (n + 1) x1 x2 x3 x4 x7 m = s_X11_homes_145 fu k109 (f_X11_homes_145 fu k109 n) x1 x2 x3 x4 x7 m := rfl
set_option maxRecDepth 100000 in
set_option maxHeartbeats 4000000 in
theorem r_X11_homes_145 {G : hG} {X : hX} (C : Cx G X 12 cX11_homes 8 RX11 (some .int)) (K : Cr G X) (fu : Nat) (k109 : Int32 → Int32 → Int32 → Int32 → Int32 → hM → Option (Int32 × hM)) (hk109 : ∀ (x1 : Int32) (x2 : Int32) (x3 : Int32) (x4 : Int32) (x5 : Int32) (m : hM), Rf vI G X 109 [(0, hA G 96), (1, .int x1), (2, .int x2), (3, .int x3), (4, .int x4), (5, .int x5)] [] m (k109 x1 x2 x3 x4 x5 m)) (n : Nat) : ∀ (x1 : Int32) (x2 : Int32) (x3 : Int32) (x4 : Int32) (x7 : Int32) (m : hM), Rf vI G X 145 [(0, hA G 96), (1, .int x1), (2, .int x2), (3, .int x3), (4, .int x4), (7, .int x7)] [] m (f_X11_homes_145 fu k109 n x1 x2 x3 x4 x7 m) := by
  induction n with
  | zero => intros; exact rf_none
  | succ n ih =>
    intro x1 x2 x3 x4 x7 m
    show Rf vI G X 145 [(0, hA G 96), (1, .int x1), (2, .int x2), (3, .int x3), (4, .int x4), (7, .int x7)] [] m (s_X11_homes_145 fu k109 (f_X11_homes_145 fu k109 n) x1 x2 x3 x4 x7 m)
    unfold s_X11_homes_145
    refine rf_iload C (n := 147) (q := 5) dX11_homes_145 rfl rfl ?_
    refine rf_aload_n C (n := 148) (q := 0) dX11_homes_147 rfl rfl rfl ?_
    refine rf_getI C (n := 151) fl_RX11_151 ly_96 rfl dX11_homes_148 rfl ?_
    refine rf_icmp_ge C (tgt := 174) (n := 154) dX11_homes_151 (by decide) rfl (fun h33 => ?_) (fun h33 => ?_)
    · exact rf_lv _ [0, 1, 2, 3, 4] rfl (r_X11_homes_174 C K fu _ hk109 _ _ _ _ _)
    · refine rf_aload_n C (n := 155) (q := 0) dX11_homes_154 rfl rfl rfl ?_
      refine rf_getS C (n := 158) fl_RX11_425 ly_96 rfl dX11_homes_155 rfl ?_
      refine rf_iload C (n := 160) (q := 5) dX11_homes_158 rfl rfl ?_
      refine rf_aload_n C (n := 161) (q := 0) dX11_homes_160 rfl rfl rfl ?_
      refine rf_getS C (n := 164) fl_RX11_143 ly_96 rfl dX11_homes_161 rfl ?_
      refine rf_iload C (n := 166) (q := 5) dX11_homes_164 rfl rfl ?_
      refine rf_guard (fun h34 => ?_)
      refine rf_iald C (n := 167) ly_111 h34 rfl dX11_homes_166 rfl ?_
      refine rf_guard (fun h35 => ?_)
      refine rf_iast C (n := 168) ly_127 h35 rfl dX11_homes_167 rfl ?_
      refine rf_letM (fun m36 => ?_)
      refine rf_iinc2 C (n := 171) (q := 5) (fun y37 => [(7, .int y37), (0, hA G 96), (1, .int x1), (2, .int x2), (3, .int x3), (4, .int x4)]) dX11_homes_168 rfl rfl (by decide) (by decide) (fun _ => rfl) (fun y37 => ?_)
      refine rf_goto C (n := 145) dX11_homes_171 (by decide) ?_
      exact rf_lv _ [1, 2, 3, 4, 5, 0] rfl (ih _ _ _ _ _ _)
noncomputable def f_X11_homes_138 (fu : Nat) (k109 : Int32 → Int32 → Int32 → Int32 → Int32 → hM → Option (Int32 × hM)) (x1 : Int32) (x2 : Int32) (x3 : Int32) (x6 : Int32) (m : hM) : Option (Int32 × hM) :=
  f_X11_homes_145 fu k109 fu x1 x2 x3 x6 0 m
set_option maxRecDepth 100000 in
set_option maxHeartbeats 4000000 in
theorem r_X11_homes_138 {G : hG} {X : hX} (C : Cx G X 12 cX11_homes 8 RX11 (some .int)) (K : Cr G X) (fu : Nat) (k109 : Int32 → Int32 → Int32 → Int32 → Int32 → hM → Option (Int32 × hM)) (hk109 : ∀ (x1 : Int32) (x2 : Int32) (x3 : Int32) (x4 : Int32) (x5 : Int32) (m : hM), Rf vI G X 109 [(0, hA G 96), (1, .int x1), (2, .int x2), (3, .int x3), (4, .int x4), (5, .int x5)] [] m (k109 x1 x2 x3 x4 x5 m)) (x1 : Int32) (x2 : Int32) (x3 : Int32) (x6 : Int32) (m : hM) : Rf vI G X 138 [(0, hA G 96), (1, .int x1), (2, .int x2), (3, .int x3), (6, .int x6)] [] m (f_X11_homes_138 fu k109 x1 x2 x3 x6 m) := by
  unfold f_X11_homes_138
  refine rf_iload C (n := 140) (q := 4) dX11_homes_138 rfl rfl ?_
  refine rf_istore C (n := 142) [(4, .int x6), (0, hA G 96), (1, .int x1), (2, .int x2), (3, .int x3), (6, .int x6)] dX11_homes_140 rfl (by decide) rfl ?_
  refine rf_iconst C (n := 143) (v := 0) dX11_homes_142 rfl (by decide) ?_
  refine rf_istore C (n := 145) [(7, .int 0), (4, .int x6), (0, hA G 96), (1, .int x1), (2, .int x2), (3, .int x3), (6, .int x6)] dX11_homes_143 rfl (by decide) rfl ?_
  exact rf_lv _ [2, 3, 4, 5, 1, 0] rfl (r_X11_homes_145 C K fu _ hk109 fu _ _ _ _ _ _)
noncomputable def s_X11_homes_109 (fu : Nat) (ih : Int32 → Int32 → Int32 → Int32 → Int32 → hM → Option (Int32 × hM)) (x1 : Int32) (x2 : Int32) (x3 : Int32) (x4 : Int32) (x5 : Int32) (m : hM) : Option (Int32 × hM) :=
  if x5 = 0 then (
f_X11_homes_184 fu x1 x3 x4 m) else (
hBd (f_X11_endsFrom fu x2 m) fun y27 m28 =>
if y27 < 0 then (
f_X11_homes_174 fu ih x1 x2 x3 x4 m28) else (
if x4 < 0 then (
f_X11_homes_138 fu ih x1 x2 x3 y27 m28) else (
if x4 ≤ y27 then (
f_X11_homes_174 fu ih x1 x2 x3 x4 m28) else (
f_X11_homes_138 fu ih x1 x2 x3 y27 m28))))
noncomputable def f_X11_homes_109 (fu : Nat) (n : Nat) : Int32 → Int32 → Int32 → Int32 → Int32 → hM → Option (Int32 × hM) :=
  Nat.rec (motive := fun _ => Int32 → Int32 → Int32 → Int32 → Int32 → hM → Option (Int32 × hM)) (fun _ _ _ _ _ _ => none) (fun _ ih => s_X11_homes_109 fu ih) n
theorem f_X11_homes_109_s (fu : Nat) (n : Nat) (x1 : Int32) (x2 : Int32) (x3 : Int32) (x4 : Int32) (x5 : Int32) (m : hM) : f_X11_homes_109 fu (n + 1) x1 x2 x3 x4 x5 m = s_X11_homes_109 fu (f_X11_homes_109 fu n) x1 x2 x3 x4 x5 m := rfl
set_option maxRecDepth 100000 in
set_option maxHeartbeats 4000000 in
theorem r_X11_homes_109 {G : hG} {X : hX} (C : Cx G X 12 cX11_homes 8 RX11 (some .int)) (K : Cr G X) (fu : Nat) (n : Nat) : ∀ (x1 : Int32) (x2 : Int32) (x3 : Int32) (x4 : Int32) (x5 : Int32) (m : hM), Rf vI G X 109 [(0, hA G 96), (1, .int x1), (2, .int x2), (3, .int x3), (4, .int x4), (5, .int x5)] [] m (f_X11_homes_109 fu n x1 x2 x3 x4 x5 m) := by
  induction n with
  | zero => intros; exact rf_none
  | succ n ih =>
    intro x1 x2 x3 x4 x5 m
    show Rf vI G X 109 [(0, hA G 96), (1, .int x1), (2, .int x2), (3, .int x3), (4, .int x4), (5, .int x5)] [] m (s_X11_homes_109 fu (f_X11_homes_109 fu n) x1 x2 x3 x4 x5 m)
    unfold s_X11_homes_109
    refine rf_iload C (n := 111) (q := 5) dX11_homes_109 rfl rfl ?_
    refine rf_if_eq C (tgt := 184) (n := 114) dX11_homes_111 (by decide) rfl (fun h15 => ?_) (fun h15 => ?_)
    · exact rf_lv _ [0, 1, 3, 4] rfl (r_X11_homes_184 C K fu _ _ _ _)
    · refine rf_aload_n C (n := 115) (q := 0) dX11_homes_114 rfl rfl rfl ?_
      refine rf_iload_n C (n := 116) (q := 2) dX11_homes_115 rfl rfl rfl ?_
      refine rf_callVi C (n := 119) (c_X11_endsFrom G fu _ _) mw_RX11_422 ly_96 rfl ⟨by decide, by decide⟩ rfl (Nat.le_of_ble_eq_true rfl) rfl dX11_homes_116 rfl (fun y27 m28 => ?_)
      refine rf_istore C (n := 121) [(6, .int y27), (0, hA G 96), (1, .int x1), (2, .int x2), (3, .int x3), (4, .int x4), (5, .int x5)] dX11_homes_119 rfl (by decide) rfl ?_
      refine rf_iload C (n := 123) (q := 0) dX11_homes_121 rfl rfl ?_
      refine rf_if_lt C (tgt := 174) (n := 126) dX11_homes_123 (by decide) rfl (fun h29 => ?_) (fun h29 => ?_)
      · exact rf_lv _ [1, 2, 3, 4, 5] rfl (r_X11_homes_174 C K fu _ ih _ _ _ _ _)
      · refine rf_iload C (n := 128) (q := 5) dX11_homes_126 rfl rfl ?_
        refine rf_if_lt C (tgt := 138) (n := 131) dX11_homes_128 (by decide) rfl (fun h32 => ?_) (fun h32 => ?_)
        · exact rf_lv _ [1, 2, 3, 4, 0] rfl (r_X11_homes_138 C K fu _ ih _ _ _ _ _)
        · refine rf_iload C (n := 133) (q := 0) dX11_homes_131 rfl rfl ?_
          refine rf_iload C (n := 135) (q := 5) dX11_homes_133 rfl rfl ?_
          refine rf_icmp_ge C (tgt := 174) (n := 138) dX11_homes_135 (by decide) rfl (fun h38 => ?_) (fun h38 => ?_)
          · exact rf_lv _ [1, 2, 3, 4, 5] rfl (r_X11_homes_174 C K fu _ ih _ _ _ _ _)
          · exact rf_lv _ [1, 2, 3, 4, 0] rfl (r_X11_homes_138 C K fu _ ih _ _ _ _ _)
noncomputable def f_X11_homes_103 (fu : Nat) (x1 : Int32) (x2 : Int32) (x3 : Int32) (m : hM) : Option (Int32 × hM) :=
  f_X11_homes_109 fu fu x1 x2 x3 (-1) 1 m
set_option maxRecDepth 100000 in
set_option maxHeartbeats 4000000 in
theorem r_X11_homes_103 {G : hG} {X : hX} (C : Cx G X 12 cX11_homes 8 RX11 (some .int)) (K : Cr G X) (fu : Nat) (x1 : Int32) (x2 : Int32) (x3 : Int32) (m : hM) : Rf vI G X 103 [(0, hA G 96), (1, .int x1), (2, .int x2), (3, .int x3)] [] m (f_X11_homes_103 fu x1 x2 x3 m) := by
  unfold f_X11_homes_103
  refine rf_iconst C (n := 104) (v := (-1)) dX11_homes_103 rfl (by decide) ?_
  refine rf_istore C (n := 106) [(4, .int (-1)), (0, hA G 96), (1, .int x1), (2, .int x2), (3, .int x3)] dX11_homes_104 rfl (by decide) rfl ?_
  refine rf_iconst C (n := 107) (v := 1) dX11_homes_106 rfl (by decide) ?_
  refine rf_istore C (n := 109) [(5, .int 1), (4, .int (-1)), (0, hA G 96), (1, .int x1), (2, .int x2), (3, .int x3)] dX11_homes_107 rfl (by decide) rfl ?_
  exact rf_lv _ [2, 3, 4, 5, 1, 0] rfl (r_X11_homes_109 C K fu fu _ _ _ _ _ _)
noncomputable def f_X11_homes_96 (fu : Nat) (k61 : Int32 → Int32 → Int32 → Int32 → hM → Option (Int32 × hM)) (x1 : Int32) (x2 : Int32) (x3 : Int32) (x4 : Int32) (s1 : Int32) (s2 : Int32) (m : hM) : Option (Int32 × hM) :=
  if hIn s1 8 then (
hLet (sI m 111 (Int32.toNatClampNeg s1) s2) fun m44 =>
hLet (x4 + 1) fun y45 =>
k61 x1 x2 x3 y45 m44) else none
set_option maxRecDepth 100000 in
set_option maxHeartbeats 4000000 in
theorem r_X11_homes_96 {G : hG} {X : hX} (C : Cx G X 12 cX11_homes 8 RX11 (some .int)) (K : Cr G X) (fu : Nat) (k61 : Int32 → Int32 → Int32 → Int32 → hM → Option (Int32 × hM)) (hk61 : ∀ (x1 : Int32) (x2 : Int32) (x3 : Int32) (x4 : Int32) (m : hM), Rf vI G X 61 [(0, hA G 96), (1, .int x1), (2, .int x2), (3, .int x3), (4, .int x4)] [] m (k61 x1 x2 x3 x4 m)) (x1 : Int32) (x2 : Int32) (x3 : Int32) (x4 : Int32) (s1 : Int32) (s2 : Int32) (m : hM) : Rf vI G X 96 [(0, hA G 96), (1, .int x1), (2, .int x2), (3, .int x3), (4, .int x4)] [.int s2, .int s1, hA G 111] m (f_X11_homes_96 fu k61 x1 x2 x3 x4 s1 s2 m) := by
  unfold f_X11_homes_96
  refine rf_guard (fun h43 => ?_)
  refine rf_iast C (n := 97) ly_111 h43 rfl dX11_homes_96 rfl ?_
  refine rf_letM (fun m44 => ?_)
  refine rf_iinc2 C (n := 100) (q := 4) (fun y45 => [(4, .int y45), (0, hA G 96), (1, .int x1), (2, .int x2), (3, .int x3)]) dX11_homes_97 rfl rfl (by decide) (by decide) (fun _ => rfl) (fun y45 => ?_)
  refine rf_goto C (n := 61) dX11_homes_100 (by decide) ?_
  exact rf_lv _ [1, 2, 3, 4, 0] rfl (hk61 _ _ _ _ _)
noncomputable def s_X11_homes_61 (fu : Nat) (ih : Int32 → Int32 → Int32 → Int32 → hM → Option (Int32 × hM)) (x1 : Int32) (x2 : Int32) (x3 : Int32) (x4 : Int32) (m : hM) : Option (Int32 × hM) :=
  if (gI m 96 16) ≤ x4 then (
f_X11_homes_103 fu x1 x2 x3 m) else (
hBd (f_X11_has fu x1 x4 m) fun y39 m40 =>
if y39 = 0 then (
if hIn x4 8 then (
f_X11_homes_96 fu ih x1 x2 x3 x4 x4 (gI m40 111 (Int32.toNatClampNeg x4)) m40) else none) else (
f_X11_homes_96 fu ih x1 x2 x3 x4 x4 0 m40))
noncomputable def f_X11_homes_61 (fu : Nat) (n : Nat) : Int32 → Int32 → Int32 → Int32 → hM → Option (Int32 × hM) :=
  Nat.rec (motive := fun _ => Int32 → Int32 → Int32 → Int32 → hM → Option (Int32 × hM)) (fun _ _ _ _ _ => none) (fun _ ih => s_X11_homes_61 fu ih) n
theorem f_X11_homes_61_s (fu : Nat) (n : Nat) (x1 : Int32) (x2 : Int32) (x3 : Int32) (x4 : Int32) (m : hM) : f_X11_homes_61 fu (n + 1) x1 x2 x3 x4 m = s_X11_homes_61 fu (f_X11_homes_61 fu n) x1 x2 x3 x4 m := rfl
set_option maxRecDepth 100000 in
set_option maxHeartbeats 4000000 in
theorem r_X11_homes_61 {G : hG} {X : hX} (C : Cx G X 12 cX11_homes 8 RX11 (some .int)) (K : Cr G X) (fu : Nat) (n : Nat) : ∀ (x1 : Int32) (x2 : Int32) (x3 : Int32) (x4 : Int32) (m : hM), Rf vI G X 61 [(0, hA G 96), (1, .int x1), (2, .int x2), (3, .int x3), (4, .int x4)] [] m (f_X11_homes_61 fu n x1 x2 x3 x4 m) := by
  induction n with
  | zero => intros; exact rf_none
  | succ n ih =>
    intro x1 x2 x3 x4 m
    show Rf vI G X 61 [(0, hA G 96), (1, .int x1), (2, .int x2), (3, .int x3), (4, .int x4)] [] m (s_X11_homes_61 fu (f_X11_homes_61 fu n) x1 x2 x3 x4 m)
    unfold s_X11_homes_61
    refine rf_iload C (n := 63) (q := 4) dX11_homes_61 rfl rfl ?_
    refine rf_aload_n C (n := 64) (q := 0) dX11_homes_63 rfl rfl rfl ?_
    refine rf_getI C (n := 67) fl_RX11_151 ly_96 rfl dX11_homes_64 rfl ?_
    refine rf_icmp_ge C (tgt := 103) (n := 70) dX11_homes_67 (by decide) rfl (fun h14 => ?_) (fun h14 => ?_)
    · exact rf_lv _ [0, 1, 2, 3] rfl (r_X11_homes_103 C K fu _ _ _ _)
    · refine rf_aload_n C (n := 71) (q := 0) dX11_homes_70 rfl rfl rfl ?_
      refine rf_getS C (n := 74) fl_RX11_143 ly_96 rfl dX11_homes_71 rfl ?_
      refine rf_iload C (n := 76) (q := 4) dX11_homes_74 rfl rfl ?_
      refine rf_iload_n C (n := 77) (q := 1) dX11_homes_76 rfl rfl rfl ?_
      refine rf_iload C (n := 79) (q := 4) dX11_homes_77 rfl rfl ?_
      refine rf_callSi C (n := 82) (c_X11_has G fu _ _ _) sw_RX11_137 ⟨by decide, by decide⟩ rfl (Nat.le_of_ble_eq_true rfl) rfl dX11_homes_79 rfl (fun y39 m40 => ?_)
      refine rf_if_eq C (tgt := 89) (n := 85) dX11_homes_82 (by decide) rfl (fun h41 => ?_) (fun h41 => ?_)
      · refine rf_aload_n C (n := 90) (q := 0) dX11_homes_89 rfl rfl rfl ?_
        refine rf_getS C (n := 93) fl_RX11_143 ly_96 rfl dX11_homes_90 rfl ?_
        refine rf_iload C (n := 95) (q := 4) dX11_homes_93 rfl rfl ?_
        refine rf_guard (fun h42 => ?_)
        refine rf_iald C (n := 96) ly_111 h42 rfl dX11_homes_95 rfl ?_
        exact rf_lv _ [0, 1, 2, 3, 4] rfl (r_X11_homes_96 C K fu _ ih _ _ _ _ _ _ _)
      · refine rf_iconst C (n := 86) (v := 0) dX11_homes_85 rfl (by decide) ?_
        refine rf_goto C (n := 96) dX11_homes_86 (by decide) ?_
        exact rf_lv _ [0, 1, 2, 3, 4] rfl (r_X11_homes_96 C K fu _ ih _ _ _ _ _ _ _)
noncomputable def f_X11_homes (fu : Nat) (x1 : Int32) (x2 : Int32) (m : hM) : Option (Int32 × hM) :=
  hLet (sI m 96 0 0) fun m1 =>
hBd (f_X11_in fu (Int32.toInt64 x1) 1 (Int32.toInt64 ((1 <<< ((gI m1 96 16) &&& 31)) - 1)) m1) fun y2 m3 =>
if y2 = 0 then (
some ((-1), m3)) else (
hBd (f_J6_bitCount_0f7a4 fu x1 m3) fun y5 m6 =>
if 4 < y5 then (
some ((-1), m6)) else (
hBd (f_X11_isHour fu x2 m6) fun y8 m9 =>
if ¬ y8 = 0 then (
hLet (gI m9 117 0) fun y11 =>
hLet (sI m9 117 0 0) fun m12 =>
hBd (f_X11_keepsBorn fu m12) fun _ m13 =>
f_X11_homes_61 fu fu x1 x2 y11 0 m13) else (
some ((-1), m9))))
set_option maxRecDepth 100000 in
set_option maxHeartbeats 4000000 in
theorem c_X11_homes (G : hG) (fu : Nat) (x1 : Int32) (x2 : Int32) (m : hM) : Mt vI G 12 yX11_homes cX11_homes 8 (some .int) [hA G 96, .int x1, .int x2] m (f_X11_homes fu x1 x2 m) := by
  refine mt_of (by decide +kernel) (Nat.le_of_ble_eq_true rfl) (fun X C K => ?_)
  have C : Cx G X 12 cX11_homes 8 RX11 (some .int) := C
  show Rf vI G X 0 [(0, hA G 96), (1, .int x1), (2, .int x2)] [] m _
  unfold f_X11_homes
  refine rf_aload_n C (n := 1) (q := 0) dX11_homes_0 rfl rfl rfl ?_
  refine rf_iconst C (n := 2) (v := 0) dX11_homes_1 rfl (by decide) ?_
  refine rf_putI C (n := 5) pl_RX11_3 ly_96 rfl ⟨rfl, rfl⟩ dX11_homes_2 rfl ?_
  refine rf_letM (fun m1 => ?_)
  refine rf_iload_n C (n := 6) (q := 1) dX11_homes_5 rfl rfl rfl ?_
  refine rf_i2l C (n := 7) dX11_homes_6 rfl ?_
  refine rf_lconst C (n := 8) (v := 1) dX11_homes_7 rfl (by decide) ?_
  refine rf_iconst C (n := 9) (v := 1) dX11_homes_8 rfl (by decide) ?_
  refine rf_aload_n C (n := 10) (q := 0) dX11_homes_9 rfl rfl rfl ?_
  refine rf_getI C (n := 13) fl_RX11_151 ly_96 rfl dX11_homes_10 rfl ?_
  refine rf_ishl C (n := 14) dX11_homes_13 rfl ?_
  refine rf_iconst C (n := 15) (v := 1) dX11_homes_14 rfl (by decide) ?_
  refine rf_isub C (n := 16) dX11_homes_15 rfl ?_
  refine rf_i2l C (n := 17) dX11_homes_16 rfl ?_
  refine rf_callSi C (n := 20) (c_X11_in G fu _ _ _ _) sw_RX11_25 ⟨by decide, by decide⟩ rfl (Nat.le_of_ble_eq_true rfl) rfl dX11_homes_17 rfl (fun y2 m3 => ?_)
  refine rf_if_eq C (tgt := 38) (n := 23) dX11_homes_20 (by decide) rfl (fun h4 => ?_) (fun h4 => ?_)
  · refine rf_iconst C (n := 39) (v := (-1)) dX11_homes_38 rfl (by decide) ?_
    exact rf_iret C K dX11_homes_39
  · refine rf_iload_n C (n := 24) (q := 1) dX11_homes_23 rfl rfl rfl ?_
    refine rf_callSi C (n := 27) (c_J6_bitCount_0f7a4 G fu _ _) sw_RX11_414 ⟨by decide, by decide⟩ rfl (Nat.le_of_ble_eq_true rfl) rfl dX11_homes_24 rfl (fun y5 m6 => ?_)
    refine rf_iconst C (n := 28) (v := 4) dX11_homes_27 rfl (by decide) ?_
    refine rf_icmp_gt C (tgt := 38) (n := 31) dX11_homes_28 (by decide) rfl (fun h7 => ?_) (fun h7 => ?_)
    · refine rf_iconst C (n := 39) (v := (-1)) dX11_homes_38 rfl (by decide) ?_
      exact rf_iret C K dX11_homes_39
    · refine rf_iload_n C (n := 32) (q := 2) dX11_homes_31 rfl rfl rfl ?_
      refine rf_callSi C (n := 35) (c_X11_isHour G fu _ _) sw_RX11_81 ⟨by decide, by decide⟩ rfl (Nat.le_of_ble_eq_true rfl) rfl dX11_homes_32 rfl (fun y8 m9 => ?_)
      refine rf_if_ne C (tgt := 40) (n := 38) dX11_homes_35 (by decide) rfl (fun h10 => ?_) (fun h10 => ?_)
      · refine rf_aload_n C (n := 41) (q := 0) dX11_homes_40 rfl rfl rfl ?_
        refine rf_getS C (n := 44) fl_RX11_199 ly_96 rfl dX11_homes_41 rfl ?_
        refine rf_iconst C (n := 45) (v := 0) dX11_homes_44 rfl (by decide) ?_
        refine rf_iald C (n := 46) (j := 0) ly_117 (by decide) (by decide) dX11_homes_45 rfl ?_
        refine rf_letI (fun y11 => ?_)
        refine rf_istore_n C (n := 47) [(3, .int y11), (0, hA G 96), (1, .int x1), (2, .int x2)] dX11_homes_46 rfl rfl (by decide) rfl ?_
        refine rf_aload_n C (n := 48) (q := 1) dX11_homes_47 rfl rfl rfl ?_
        refine rf_getS C (n := 51) fl_RX11_199 ly_96 rfl dX11_homes_48 rfl ?_
        refine rf_iconst C (n := 52) (v := 0) dX11_homes_51 rfl (by decide) ?_
        refine rf_iconst C (n := 53) (v := 0) dX11_homes_52 rfl (by decide) ?_
        refine rf_iast C (n := 54) (j0 := 0) ly_117 (by decide) (by decide) dX11_homes_53 rfl ?_
        refine rf_letM (fun m12 => ?_)
        refine rf_aload_n C (n := 55) (q := 1) dX11_homes_54 rfl rfl rfl ?_
        refine rf_callVv C (n := 58) (c_X11_keepsBorn G fu _) mw_RX11_419 ly_96 rfl ⟨by decide, by decide⟩ rfl (Nat.le_of_ble_eq_true rfl) rfl dX11_homes_55 rfl (fun _ m13 => ?_)
        refine rf_iconst C (n := 59) (v := 0) dX11_homes_58 rfl (by decide) ?_
        refine rf_istore C (n := 61) [(4, .int 0), (3, .int y11), (0, hA G 96), (1, .int x1), (2, .int x2)] dX11_homes_59 rfl (by decide) rfl ?_
        exact rf_lv _ [2, 3, 4, 1, 0] rfl (r_X11_homes_61 C K fu fu _ _ _ _ _)
      · refine rf_iconst C (n := 39) (v := (-1)) dX11_homes_38 rfl (by decide) ?_
        exact rf_iret C K dX11_homes_39
noncomputable def f_X11_pair_113 (fu : Nat) (x1 : Int32) (x2 : Int32) (x3 : Int32) (m : hM) : Option (Int32 × hM) :=
  if hIn (gI m 96 50) 9 then (
hLet (sI m 128 (Int32.toNatClampNeg (gI m 96 50)) x1) fun m15 =>
if hIn (gI m15 96 50) 9 then (
hLet (sI m15 129 (Int32.toNatClampNeg (gI m15 96 50)) x2) fun m17 =>
if hIn (gI m17 96 50) 9 then (
hLet (sI m17 130 (Int32.toNatClampNeg (gI m17 96 50)) x3) fun m19 =>
hLet (sI m19 96 50 ((gI m19 96 50) + 1)) fun m20 =>
some (gI m20 96 50, m20)) else none) else none) else none
set_option maxRecDepth 100000 in
set_option maxHeartbeats 4000000 in
theorem r_X11_pair_113 {G : hG} {X : hX} (C : Cx G X 3 cX11_pair 5 RX11 (some .int)) (K : Cr G X) (fu : Nat) (x1 : Int32) (x2 : Int32) (x3 : Int32) (m : hM) : Rf vI G X 113 [(0, hA G 96), (1, .int x1), (2, .int x2), (3, .int x3)] [] m (f_X11_pair_113 fu x1 x2 x3 m) := by
  unfold f_X11_pair_113
  refine rf_aload_n C (n := 114) (q := 0) dX11_pair_113 rfl rfl rfl ?_
  refine rf_getS C (n := 117) fl_RX11_437 ly_96 rfl dX11_pair_114 rfl ?_
  refine rf_aload_n C (n := 118) (q := 0) dX11_pair_117 rfl rfl rfl ?_
  refine rf_getI C (n := 121) fl_RX11_434 ly_96 rfl dX11_pair_118 rfl ?_
  refine rf_iload_n C (n := 122) (q := 1) dX11_pair_121 rfl rfl rfl ?_
  refine rf_guard (fun h14 => ?_)
  refine rf_iast C (n := 123) ly_128 h14 rfl dX11_pair_122 rfl ?_
  refine rf_letM (fun m15 => ?_)
  refine rf_aload_n C (n := 124) (q := 0) dX11_pair_123 rfl rfl rfl ?_
  refine rf_getS C (n := 127) fl_RX11_440 ly_96 rfl dX11_pair_124 rfl ?_
  refine rf_aload_n C (n := 128) (q := 0) dX11_pair_127 rfl rfl rfl ?_
  refine rf_getI C (n := 131) fl_RX11_434 ly_96 rfl dX11_pair_128 rfl ?_
  refine rf_iload_n C (n := 132) (q := 2) dX11_pair_131 rfl rfl rfl ?_
  refine rf_guard (fun h16 => ?_)
  refine rf_iast C (n := 133) ly_129 h16 rfl dX11_pair_132 rfl ?_
  refine rf_letM (fun m17 => ?_)
  refine rf_aload_n C (n := 134) (q := 0) dX11_pair_133 rfl rfl rfl ?_
  refine rf_getS C (n := 137) fl_RX11_443 ly_96 rfl dX11_pair_134 rfl ?_
  refine rf_aload_n C (n := 138) (q := 0) dX11_pair_137 rfl rfl rfl ?_
  refine rf_getI C (n := 141) fl_RX11_434 ly_96 rfl dX11_pair_138 rfl ?_
  refine rf_iload_n C (n := 142) (q := 3) dX11_pair_141 rfl rfl rfl ?_
  refine rf_guard (fun h18 => ?_)
  refine rf_iast C (n := 143) ly_130 h18 rfl dX11_pair_142 rfl ?_
  refine rf_letM (fun m19 => ?_)
  refine rf_aload_n C (n := 144) (q := 0) dX11_pair_143 rfl rfl rfl ?_
  refine rf_dup C (n := 145) dX11_pair_144 rfl rfl ?_
  refine rf_getI C (n := 148) fl_RX11_434 ly_96 rfl dX11_pair_145 rfl ?_
  refine rf_iconst C (n := 149) (v := 1) dX11_pair_148 rfl (by decide) ?_
  refine rf_iadd C (n := 150) dX11_pair_149 rfl ?_
  refine rf_putI C (n := 153) pl_RX11_434 ly_96 rfl ⟨rfl, rfl⟩ dX11_pair_150 rfl ?_
  refine rf_letM (fun m20 => ?_)
  refine rf_aload_n C (n := 154) (q := 0) dX11_pair_153 rfl rfl rfl ?_
  refine rf_getI C (n := 157) fl_RX11_434 ly_96 rfl dX11_pair_154 rfl ?_
  exact rf_iret C K dX11_pair_157
noncomputable def f_X11_pair_107 (fu : Nat) (k52 : Int32 → Int32 → Int32 → Int32 → hM → Option (Int32 × hM)) (x1 : Int32) (x2 : Int32) (x3 : Int32) (x4 : Int32) (m : hM) : Option (Int32 × hM) :=
  hLet (x4 + 1) fun y25 =>
k52 x1 x2 x3 y25 m
set_option maxRecDepth 100000 in
set_option maxHeartbeats 4000000 in
theorem r_X11_pair_107 {G : hG} {X : hX} (C : Cx G X 3 cX11_pair 5 RX11 (some .int)) (K : Cr G X) (fu : Nat) (k52 : Int32 → Int32 → Int32 → Int32 → hM → Option (Int32 × hM)) (hk52 : ∀ (x1 : Int32) (x2 : Int32) (x3 : Int32) (x4 : Int32) (m : hM), Rf vI G X 52 [(0, hA G 96), (1, .int x1), (2, .int x2), (3, .int x3), (4, .int x4)] [] m (k52 x1 x2 x3 x4 m)) (x1 : Int32) (x2 : Int32) (x3 : Int32) (x4 : Int32) (m : hM) : Rf vI G X 107 [(0, hA G 96), (1, .int x1), (2, .int x2), (3, .int x3), (4, .int x4)] [] m (f_X11_pair_107 fu k52 x1 x2 x3 x4 m) := by
  unfold f_X11_pair_107
  refine rf_iinc2 C (n := 110) (q := 4) (fun y25 => [(4, .int y25), (0, hA G 96), (1, .int x1), (2, .int x2), (3, .int x3)]) dX11_pair_107 rfl rfl (by decide) (by decide) (fun _ => rfl) (fun y25 => ?_)
  refine rf_goto C (n := 52) dX11_pair_110 (by decide) ?_
  exact rf_lv _ [1, 2, 3, 4, 0] rfl (hk52 _ _ _ _ _)
noncomputable def f_X11_pair_83 (fu : Nat) (k52 : Int32 → Int32 → Int32 → Int32 → hM → Option (Int32 × hM)) (x1 : Int32) (x2 : Int32) (x3 : Int32) (x4 : Int32) (m : hM) : Option (Int32 × hM) :=
  if hIn x4 9 then (
if ¬ (gI m 128 (Int32.toNatClampNeg x4)) = x2 then (
f_X11_pair_107 fu k52 x1 x2 x3 x4 m) else (
if hIn x4 9 then (
if ¬ (gI m 129 (Int32.toNatClampNeg x4)) = x1 then (
f_X11_pair_107 fu k52 x1 x2 x3 x4 m) else (
some ((-1), m))) else none)) else none
set_option maxRecDepth 100000 in
set_option maxHeartbeats 4000000 in
theorem r_X11_pair_83 {G : hG} {X : hX} (C : Cx G X 3 cX11_pair 5 RX11 (some .int)) (K : Cr G X) (fu : Nat) (k52 : Int32 → Int32 → Int32 → Int32 → hM → Option (Int32 × hM)) (hk52 : ∀ (x1 : Int32) (x2 : Int32) (x3 : Int32) (x4 : Int32) (m : hM), Rf vI G X 52 [(0, hA G 96), (1, .int x1), (2, .int x2), (3, .int x3), (4, .int x4)] [] m (k52 x1 x2 x3 x4 m)) (x1 : Int32) (x2 : Int32) (x3 : Int32) (x4 : Int32) (m : hM) : Rf vI G X 83 [(0, hA G 96), (1, .int x1), (2, .int x2), (3, .int x3), (4, .int x4)] [] m (f_X11_pair_83 fu k52 x1 x2 x3 x4 m) := by
  unfold f_X11_pair_83
  refine rf_aload_n C (n := 84) (q := 0) dX11_pair_83 rfl rfl rfl ?_
  refine rf_getS C (n := 87) fl_RX11_437 ly_96 rfl dX11_pair_84 rfl ?_
  refine rf_iload C (n := 89) (q := 4) dX11_pair_87 rfl rfl ?_
  refine rf_guard (fun h23 => ?_)
  refine rf_iald C (n := 90) ly_128 h23 rfl dX11_pair_89 rfl ?_
  refine rf_iload_n C (n := 91) (q := 2) dX11_pair_90 rfl rfl rfl ?_
  refine rf_icmp_ne C (tgt := 107) (n := 94) dX11_pair_91 (by decide) rfl (fun h24 => ?_) (fun h24 => ?_)
  · exact rf_lv _ [0, 1, 2, 3, 4] rfl (r_X11_pair_107 C K fu _ hk52 _ _ _ _ _)
  · refine rf_aload_n C (n := 95) (q := 0) dX11_pair_94 rfl rfl rfl ?_
    refine rf_getS C (n := 98) fl_RX11_440 ly_96 rfl dX11_pair_95 rfl ?_
    refine rf_iload C (n := 100) (q := 4) dX11_pair_98 rfl rfl ?_
    refine rf_guard (fun h26 => ?_)
    refine rf_iald C (n := 101) ly_129 h26 rfl dX11_pair_100 rfl ?_
    refine rf_iload_n C (n := 102) (q := 1) dX11_pair_101 rfl rfl rfl ?_
    refine rf_icmp_ne C (tgt := 107) (n := 105) dX11_pair_102 (by decide) rfl (fun h27 => ?_) (fun h27 => ?_)
    · exact rf_lv _ [0, 1, 2, 3, 4] rfl (r_X11_pair_107 C K fu _ hk52 _ _ _ _ _)
    · refine rf_iconst C (n := 106) (v := (-1)) dX11_pair_105 rfl (by decide) ?_
      exact rf_iret C K dX11_pair_106
noncomputable def s_X11_pair_52 (fu : Nat) (ih : Int32 → Int32 → Int32 → Int32 → hM → Option (Int32 × hM)) (x1 : Int32) (x2 : Int32) (x3 : Int32) (x4 : Int32) (m : hM) : Option (Int32 × hM) :=
  if (gI m 96 50) ≤ x4 then (
f_X11_pair_113 fu x1 x2 x3 m) else (
if hIn x4 9 then (
if ¬ (gI m 128 (Int32.toNatClampNeg x4)) = x1 then (
f_X11_pair_83 fu ih x1 x2 x3 x4 m) else (
if hIn x4 9 then (
if (gI m 129 (Int32.toNatClampNeg x4)) = x2 then (
some ((-1), m)) else (
f_X11_pair_83 fu ih x1 x2 x3 x4 m)) else none)) else none)
noncomputable def f_X11_pair_52 (fu : Nat) (n : Nat) : Int32 → Int32 → Int32 → Int32 → hM → Option (Int32 × hM) :=
  Nat.rec (motive := fun _ => Int32 → Int32 → Int32 → Int32 → hM → Option (Int32 × hM)) (fun _ _ _ _ _ => none) (fun _ ih => s_X11_pair_52 fu ih) n
theorem f_X11_pair_52_s (fu : Nat) (n : Nat) (x1 : Int32) (x2 : Int32) (x3 : Int32) (x4 : Int32) (m : hM) : f_X11_pair_52 fu (n + 1) x1 x2 x3 x4 m = s_X11_pair_52 fu (f_X11_pair_52 fu n) x1 x2 x3 x4 m := rfl
set_option maxRecDepth 100000 in
set_option maxHeartbeats 4000000 in
theorem r_X11_pair_52 {G : hG} {X : hX} (C : Cx G X 3 cX11_pair 5 RX11 (some .int)) (K : Cr G X) (fu : Nat) (n : Nat) : ∀ (x1 : Int32) (x2 : Int32) (x3 : Int32) (x4 : Int32) (m : hM), Rf vI G X 52 [(0, hA G 96), (1, .int x1), (2, .int x2), (3, .int x3), (4, .int x4)] [] m (f_X11_pair_52 fu n x1 x2 x3 x4 m) := by
  induction n with
  | zero => intros; exact rf_none
  | succ n ih =>
    intro x1 x2 x3 x4 m
    show Rf vI G X 52 [(0, hA G 96), (1, .int x1), (2, .int x2), (3, .int x3), (4, .int x4)] [] m (s_X11_pair_52 fu (f_X11_pair_52 fu n) x1 x2 x3 x4 m)
    unfold s_X11_pair_52
    refine rf_iload C (n := 54) (q := 4) dX11_pair_52 rfl rfl ?_
    refine rf_aload_n C (n := 55) (q := 0) dX11_pair_54 rfl rfl rfl ?_
    refine rf_getI C (n := 58) fl_RX11_434 ly_96 rfl dX11_pair_55 rfl ?_
    refine rf_icmp_ge C (tgt := 113) (n := 61) dX11_pair_58 (by decide) rfl (fun h13 => ?_) (fun h13 => ?_)
    · exact rf_lv _ [0, 1, 2, 3] rfl (r_X11_pair_113 C K fu _ _ _ _)
    · refine rf_aload_n C (n := 62) (q := 0) dX11_pair_61 rfl rfl rfl ?_
      refine rf_getS C (n := 65) fl_RX11_437 ly_96 rfl dX11_pair_62 rfl ?_
      refine rf_iload C (n := 67) (q := 4) dX11_pair_65 rfl rfl ?_
      refine rf_guard (fun h21 => ?_)
      refine rf_iald C (n := 68) ly_128 h21 rfl dX11_pair_67 rfl ?_
      refine rf_iload_n C (n := 69) (q := 1) dX11_pair_68 rfl rfl rfl ?_
      refine rf_icmp_ne C (tgt := 83) (n := 72) dX11_pair_69 (by decide) rfl (fun h22 => ?_) (fun h22 => ?_)
      · exact rf_lv _ [0, 1, 2, 3, 4] rfl (r_X11_pair_83 C K fu _ ih _ _ _ _ _)
      · refine rf_aload_n C (n := 73) (q := 0) dX11_pair_72 rfl rfl rfl ?_
        refine rf_getS C (n := 76) fl_RX11_440 ly_96 rfl dX11_pair_73 rfl ?_
        refine rf_iload C (n := 78) (q := 4) dX11_pair_76 rfl rfl ?_
        refine rf_guard (fun h28 => ?_)
        refine rf_iald C (n := 79) ly_129 h28 rfl dX11_pair_78 rfl ?_
        refine rf_iload_n C (n := 80) (q := 2) dX11_pair_79 rfl rfl rfl ?_
        refine rf_icmp_eq C (tgt := 105) (n := 83) dX11_pair_80 (by decide) rfl (fun h29 => ?_) (fun h29 => ?_)
        · refine rf_iconst C (n := 106) (v := (-1)) dX11_pair_105 rfl (by decide) ?_
          exact rf_iret C K dX11_pair_106
        · exact rf_lv _ [0, 1, 2, 3, 4] rfl (r_X11_pair_83 C K fu _ ih _ _ _ _ _)
noncomputable def f_X11_pair (fu : Nat) (x1 : Int32) (x2 : Int32) (x3 : Int32) (m : hM) : Option (Int32 × hM) :=
  hLet (sI m 96 0 0) fun m1 =>
hBd (f_X11_isOffice fu x1 m1) fun y2 m3 =>
if y2 = 0 then (
some ((-1), m3)) else (
hBd (f_X11_isOffice fu x2 m3) fun y5 m6 =>
if y5 = 0 then (
some ((-1), m6)) else (
if x1 = x2 then (
some ((-1), m6)) else (
hBd (f_X11_in fu (Int32.toInt64 x3) 1 99 m6) fun y9 m10 =>
if y9 = 0 then (
some ((-1), m10)) else (
if ¬ (gI m10 96 50) = 9 then (
f_X11_pair_52 fu fu x1 x2 x3 0 m10) else (
some ((-1), m10))))))
set_option maxRecDepth 100000 in
set_option maxHeartbeats 4000000 in
theorem c_X11_pair (G : hG) (fu : Nat) (x1 : Int32) (x2 : Int32) (x3 : Int32) (m : hM) : Mt vI G 3 yX11_pair cX11_pair 5 (some .int) [hA G 96, .int x1, .int x2, .int x3] m (f_X11_pair fu x1 x2 x3 m) := by
  refine mt_of (by decide +kernel) (Nat.le_of_ble_eq_true rfl) (fun X C K => ?_)
  have C : Cx G X 3 cX11_pair 5 RX11 (some .int) := C
  show Rf vI G X 0 [(0, hA G 96), (1, .int x1), (2, .int x2), (3, .int x3)] [] m _
  unfold f_X11_pair
  refine rf_aload_n C (n := 1) (q := 0) dX11_pair_0 rfl rfl rfl ?_
  refine rf_iconst C (n := 2) (v := 0) dX11_pair_1 rfl (by decide) ?_
  refine rf_putI C (n := 5) pl_RX11_3 ly_96 rfl ⟨rfl, rfl⟩ dX11_pair_2 rfl ?_
  refine rf_letM (fun m1 => ?_)
  refine rf_aload_n C (n := 6) (q := 0) dX11_pair_5 rfl rfl rfl ?_
  refine rf_iload_n C (n := 7) (q := 1) dX11_pair_6 rfl rfl rfl ?_
  refine rf_callVi C (n := 10) (c_X11_isOffice G fu _ _) mw_RX11_77 ly_96 rfl ⟨by decide, by decide⟩ rfl (Nat.le_of_ble_eq_true rfl) rfl dX11_pair_7 rfl (fun y2 m3 => ?_)
  refine rf_if_eq C (tgt := 47) (n := 13) dX11_pair_10 (by decide) rfl (fun h4 => ?_) (fun h4 => ?_)
  · refine rf_iconst C (n := 48) (v := (-1)) dX11_pair_47 rfl (by decide) ?_
    exact rf_iret C K dX11_pair_48
  · refine rf_aload_n C (n := 14) (q := 0) dX11_pair_13 rfl rfl rfl ?_
    refine rf_iload_n C (n := 15) (q := 2) dX11_pair_14 rfl rfl rfl ?_
    refine rf_callVi C (n := 18) (c_X11_isOffice G fu _ _) mw_RX11_77 ly_96 rfl ⟨by decide, by decide⟩ rfl (Nat.le_of_ble_eq_true rfl) rfl dX11_pair_15 rfl (fun y5 m6 => ?_)
    refine rf_if_eq C (tgt := 47) (n := 21) dX11_pair_18 (by decide) rfl (fun h7 => ?_) (fun h7 => ?_)
    · refine rf_iconst C (n := 48) (v := (-1)) dX11_pair_47 rfl (by decide) ?_
      exact rf_iret C K dX11_pair_48
    · refine rf_iload_n C (n := 22) (q := 1) dX11_pair_21 rfl rfl rfl ?_
      refine rf_iload_n C (n := 23) (q := 2) dX11_pair_22 rfl rfl rfl ?_
      refine rf_icmp_eq C (tgt := 47) (n := 26) dX11_pair_23 (by decide) rfl (fun h8 => ?_) (fun h8 => ?_)
      · refine rf_iconst C (n := 48) (v := (-1)) dX11_pair_47 rfl (by decide) ?_
        exact rf_iret C K dX11_pair_48
      · refine rf_iload_n C (n := 27) (q := 3) dX11_pair_26 rfl rfl rfl ?_
        refine rf_i2l C (n := 28) dX11_pair_27 rfl ?_
        refine rf_lconst C (n := 29) (v := 1) dX11_pair_28 rfl (by decide) ?_
        refine rf_ldc2 C (n := 32) dX11_pair_29 rfl kl_RX11_67 ?_
        refine rf_callSi C (n := 35) (c_X11_in G fu _ _ _ _) sw_RX11_25 ⟨by decide, by decide⟩ rfl (Nat.le_of_ble_eq_true rfl) rfl dX11_pair_32 rfl (fun y9 m10 => ?_)
        refine rf_if_eq C (tgt := 47) (n := 38) dX11_pair_35 (by decide) rfl (fun h11 => ?_) (fun h11 => ?_)
        · refine rf_iconst C (n := 48) (v := (-1)) dX11_pair_47 rfl (by decide) ?_
          exact rf_iret C K dX11_pair_48
        · refine rf_aload_n C (n := 39) (q := 0) dX11_pair_38 rfl rfl rfl ?_
          refine rf_getI C (n := 42) fl_RX11_434 ly_96 rfl dX11_pair_39 rfl ?_
          refine rf_bipush C (n := 44) (v := 9) dX11_pair_42 rfl (by decide) ?_
          refine rf_icmp_ne C (tgt := 49) (n := 47) dX11_pair_44 (by decide) rfl (fun h12 => ?_) (fun h12 => ?_)
          · refine rf_iconst C (n := 50) (v := 0) dX11_pair_49 rfl (by decide) ?_
            refine rf_istore C (n := 52) [(4, .int 0), (0, hA G 96), (1, .int x1), (2, .int x2), (3, .int x3)] dX11_pair_50 rfl (by decide) rfl ?_
            exact rf_lv _ [1, 2, 3, 4, 0] rfl (r_X11_pair_52 C K fu fu _ _ _ _ _)
          · refine rf_iconst C (n := 48) (v := (-1)) dX11_pair_47 rfl (by decide) ?_
            exact rf_iret C K dX11_pair_48
noncomputable def s_X11_endsWith_106 (fu : Nat) (ih : Int32 → Int32 → hM → Option (Int32 × hM)) (x3 : Int32) (x4 : Int32) (m : hM) : Option (Int32 × hM) :=
  if 36 ≤ x4 then (
some (x3, m)) else (
if hIn x4 36 then (
if hIn x4 36 then (
hLet (sI m 107 (Int32.toNatClampNeg x4) (gI m 131 (Int32.toNatClampNeg x4))) fun m8 =>
hLet (x4 + 1) fun y9 =>
ih x3 y9 m8) else none) else none)
noncomputable def f_X11_endsWith_106 (fu : Nat) (n : Nat) : Int32 → Int32 → hM → Option (Int32 × hM) :=
  Nat.rec (motive := fun _ => Int32 → Int32 → hM → Option (Int32 × hM)) (fun _ _ _ => none) (fun _ ih => s_X11_endsWith_106 fu ih) n
theorem f_X11_endsWith_106_s (fu : Nat) (n : Nat) (x3 : Int32) (x4 : Int32) (m : hM) : f_X11_endsWith_106 fu (n + 1) x3 x4 m = s_X11_endsWith_106 fu (f_X11_endsWith_106 fu n) x3 x4 m := rfl
set_option maxRecDepth 100000 in
set_option maxHeartbeats 4000000 in
theorem r_X11_endsWith_106 {G : hG} {X : hX} (C : Cx G X 12 cX11_endsWith 5 RX11 (some .int)) (K : Cr G X) (fu : Nat) (n : Nat) : ∀ (x3 : Int32) (x4 : Int32) (m : hM), Rf vI G X 106 [(0, hA G 96), (3, .int x3), (4, .int x4)] [] m (f_X11_endsWith_106 fu n x3 x4 m) := by
  induction n with
  | zero => intros; exact rf_none
  | succ n ih =>
    intro x3 x4 m
    show Rf vI G X 106 [(0, hA G 96), (3, .int x3), (4, .int x4)] [] m (s_X11_endsWith_106 fu (f_X11_endsWith_106 fu n) x3 x4 m)
    unfold s_X11_endsWith_106
    refine rf_iload C (n := 108) (q := 2) dX11_endsWith_106 rfl rfl ?_
    refine rf_aload_n C (n := 109) (q := 0) dX11_endsWith_108 rfl rfl rfl ?_
    refine rf_getS C (n := 112) fl_RX11_446 ly_96 rfl dX11_endsWith_109 rfl ?_
    refine rf_alen C (n := 113) (v := 36) ly_131 (by decide) (by decide) dX11_endsWith_112 rfl ?_
    refine rf_icmp_ge C (tgt := 136) (n := 116) dX11_endsWith_113 (by decide) rfl (fun h5 => ?_) (fun h5 => ?_)
    · refine rf_iload_n C (n := 137) (q := 1) dX11_endsWith_136 rfl rfl rfl ?_
      exact rf_iret C K dX11_endsWith_137
    · refine rf_aload_n C (n := 117) (q := 0) dX11_endsWith_116 rfl rfl rfl ?_
      refine rf_getS C (n := 120) fl_RX11_60 ly_96 rfl dX11_endsWith_117 rfl ?_
      refine rf_iload C (n := 122) (q := 2) dX11_endsWith_120 rfl rfl ?_
      refine rf_aload_n C (n := 123) (q := 0) dX11_endsWith_122 rfl rfl rfl ?_
      refine rf_getS C (n := 126) fl_RX11_446 ly_96 rfl dX11_endsWith_123 rfl ?_
      refine rf_iload C (n := 128) (q := 2) dX11_endsWith_126 rfl rfl ?_
      refine rf_guard (fun h6 => ?_)
      refine rf_iald C (n := 129) ly_131 h6 rfl dX11_endsWith_128 rfl ?_
      refine rf_guard (fun h7 => ?_)
      refine rf_iast C (n := 130) ly_107 h7 rfl dX11_endsWith_129 rfl ?_
      refine rf_letM (fun m8 => ?_)
      refine rf_iinc2 C (n := 133) (q := 2) (fun y9 => [(4, .int y9), (0, hA G 96), (3, .int x3)]) dX11_endsWith_130 rfl rfl (by decide) (by decide) (fun _ => rfl) (fun y9 => ?_)
      refine rf_goto C (n := 106) dX11_endsWith_133 (by decide) ?_
      exact rf_lv _ [1, 2, 0] rfl (ih _ _ _)
noncomputable def f_X11_endsWith_97 (fu : Nat) (x2 : Int32) (m : hM) : Option (Int32 × hM) :=
  hBd (f_X11_endsFrom fu x2 m) fun y3 m4 =>
f_X11_endsWith_106 fu fu y3 0 m4
set_option maxRecDepth 100000 in
set_option maxHeartbeats 4000000 in
theorem r_X11_endsWith_97 {G : hG} {X : hX} (C : Cx G X 12 cX11_endsWith 5 RX11 (some .int)) (K : Cr G X) (fu : Nat) (x2 : Int32) (m : hM) : Rf vI G X 97 [(0, hA G 96), (2, .int x2)] [] m (f_X11_endsWith_97 fu x2 m) := by
  unfold f_X11_endsWith_97
  refine rf_aload_n C (n := 98) (q := 0) dX11_endsWith_97 rfl rfl rfl ?_
  refine rf_iload_n C (n := 99) (q := 1) dX11_endsWith_98 rfl rfl rfl ?_
  refine rf_callVi C (n := 102) (c_X11_endsFrom G fu _ _) mw_RX11_422 ly_96 rfl ⟨by decide, by decide⟩ rfl (Nat.le_of_ble_eq_true rfl) rfl dX11_endsWith_99 rfl (fun y3 m4 => ?_)
  refine rf_istore_n C (n := 103) [(3, .int y3), (0, hA G 96), (2, .int x2)] dX11_endsWith_102 rfl rfl (by decide) rfl ?_
  refine rf_iconst C (n := 104) (v := 0) dX11_endsWith_103 rfl (by decide) ?_
  refine rf_istore C (n := 106) [(4, .int 0), (3, .int y3), (0, hA G 96), (2, .int x2)] dX11_endsWith_104 rfl (by decide) rfl ?_
  exact rf_lv _ [2, 1, 0] rfl (r_X11_endsWith_106 C K fu fu _ _ _)
noncomputable def f_X11_endsWith_91 (fu : Nat) (k31 : Int32 → Int32 → Int32 → hM → Option (Int32 × hM)) (x1 : Int32) (x2 : Int32) (x3 : Int32) (m : hM) : Option (Int32 × hM) :=
  hLet (x3 + 1) fun y13 =>
k31 x1 x2 y13 m
set_option maxRecDepth 100000 in
set_option maxHeartbeats 4000000 in
theorem r_X11_endsWith_91 {G : hG} {X : hX} (C : Cx G X 12 cX11_endsWith 5 RX11 (some .int)) (K : Cr G X) (fu : Nat) (k31 : Int32 → Int32 → Int32 → hM → Option (Int32 × hM)) (hk31 : ∀ (x1 : Int32) (x2 : Int32) (x3 : Int32) (m : hM), Rf vI G X 31 [(0, hA G 96), (1, .int x1), (2, .int x2), (3, .int x3)] [] m (k31 x1 x2 x3 m)) (x1 : Int32) (x2 : Int32) (x3 : Int32) (m : hM) : Rf vI G X 91 [(0, hA G 96), (1, .int x1), (2, .int x2), (3, .int x3)] [] m (f_X11_endsWith_91 fu k31 x1 x2 x3 m) := by
  unfold f_X11_endsWith_91
  refine rf_iinc2 C (n := 94) (q := 3) (fun y13 => [(3, .int y13), (0, hA G 96), (1, .int x1), (2, .int x2)]) dX11_endsWith_91 rfl rfl (by decide) (by decide) (fun _ => rfl) (fun y13 => ?_)
  refine rf_goto C (n := 31) dX11_endsWith_94 (by decide) ?_
  exact rf_lv _ [1, 2, 3, 0] rfl (hk31 _ _ _ _)
noncomputable def s_X11_endsWith_31 (fu : Nat) (ih : Int32 → Int32 → Int32 → hM → Option (Int32 × hM)) (x1 : Int32) (x2 : Int32) (x3 : Int32) (m : hM) : Option (Int32 × hM) :=
  if (gI m 96 50) ≤ x3 then (
f_X11_endsWith_97 fu x2 m) else (
hBd (f_X11_has fu x1 x3 m) fun y10 m11 =>
if y10 = 0 then (
f_X11_endsWith_91 fu ih x1 x2 x3 m11) else (
if hIn x3 9 then (
if hIn x3 9 then (
if hIn x3 9 then (
if hIn x3 9 then (
if hIn ((6 * (gI m11 128 (Int32.toNatClampNeg x3))) + (gI m11 129 (Int32.toNatClampNeg x3))) 36 then (
hBd (f_J9_min_7cf53 fu 9 ((gI m11 107 (Int32.toNatClampNeg ((6 * (gI m11 128 (Int32.toNatClampNeg x3))) + (gI m11 129 (Int32.toNatClampNeg x3))))) + 3) m11) fun y19 m20 =>
hBd (f_X11_knows fu (gI m11 128 (Int32.toNatClampNeg x3)) (gI m11 129 (Int32.toNatClampNeg x3)) y19 m20) fun _ m21 =>
f_X11_endsWith_91 fu ih x1 x2 x3 m21) else none) else none) else none) else none) else none))
noncomputable def f_X11_endsWith_31 (fu : Nat) (n : Nat) : Int32 → Int32 → Int32 → hM → Option (Int32 × hM) :=
  Nat.rec (motive := fun _ => Int32 → Int32 → Int32 → hM → Option (Int32 × hM)) (fun _ _ _ _ => none) (fun _ ih => s_X11_endsWith_31 fu ih) n
theorem f_X11_endsWith_31_s (fu : Nat) (n : Nat) (x1 : Int32) (x2 : Int32) (x3 : Int32) (m : hM) : f_X11_endsWith_31 fu (n + 1) x1 x2 x3 m = s_X11_endsWith_31 fu (f_X11_endsWith_31 fu n) x1 x2 x3 m := rfl
set_option maxRecDepth 100000 in
set_option maxHeartbeats 4000000 in
theorem r_X11_endsWith_31 {G : hG} {X : hX} (C : Cx G X 12 cX11_endsWith 5 RX11 (some .int)) (K : Cr G X) (fu : Nat) (n : Nat) : ∀ (x1 : Int32) (x2 : Int32) (x3 : Int32) (m : hM), Rf vI G X 31 [(0, hA G 96), (1, .int x1), (2, .int x2), (3, .int x3)] [] m (f_X11_endsWith_31 fu n x1 x2 x3 m) := by
  induction n with
  | zero => intros; exact rf_none
  | succ n ih =>
    intro x1 x2 x3 m
    show Rf vI G X 31 [(0, hA G 96), (1, .int x1), (2, .int x2), (3, .int x3)] [] m (s_X11_endsWith_31 fu (f_X11_endsWith_31 fu n) x1 x2 x3 m)
    unfold s_X11_endsWith_31
    refine rf_iload_n C (n := 32) (q := 3) dX11_endsWith_31 rfl rfl rfl ?_
    refine rf_aload_n C (n := 33) (q := 0) dX11_endsWith_32 rfl rfl rfl ?_
    refine rf_getI C (n := 36) fl_RX11_434 ly_96 rfl dX11_endsWith_33 rfl ?_
    refine rf_icmp_ge C (tgt := 97) (n := 39) dX11_endsWith_36 (by decide) rfl (fun h2 => ?_) (fun h2 => ?_)
    · exact rf_lv _ [0, 2] rfl (r_X11_endsWith_97 C K fu _ _)
    · refine rf_iload_n C (n := 40) (q := 1) dX11_endsWith_39 rfl rfl rfl ?_
      refine rf_iload_n C (n := 41) (q := 3) dX11_endsWith_40 rfl rfl rfl ?_
      refine rf_callSi C (n := 44) (c_X11_has G fu _ _ _) sw_RX11_137 ⟨by decide, by decide⟩ rfl (Nat.le_of_ble_eq_true rfl) rfl dX11_endsWith_41 rfl (fun y10 m11 => ?_)
      refine rf_if_eq C (tgt := 91) (n := 47) dX11_endsWith_44 (by decide) rfl (fun h12 => ?_) (fun h12 => ?_)
      · exact rf_lv _ [0, 1, 2, 3] rfl (r_X11_endsWith_91 C K fu _ ih _ _ _ _)
      · refine rf_aload_n C (n := 48) (q := 0) dX11_endsWith_47 rfl rfl rfl ?_
        refine rf_aload_n C (n := 49) (q := 0) dX11_endsWith_48 rfl rfl rfl ?_
        refine rf_getS C (n := 52) fl_RX11_437 ly_96 rfl dX11_endsWith_49 rfl ?_
        refine rf_iload_n C (n := 53) (q := 3) dX11_endsWith_52 rfl rfl rfl ?_
        refine rf_guard (fun h14 => ?_)
        refine rf_iald C (n := 54) ly_128 h14 rfl dX11_endsWith_53 rfl ?_
        refine rf_aload_n C (n := 55) (q := 0) dX11_endsWith_54 rfl rfl rfl ?_
        refine rf_getS C (n := 58) fl_RX11_440 ly_96 rfl dX11_endsWith_55 rfl ?_
        refine rf_iload_n C (n := 59) (q := 3) dX11_endsWith_58 rfl rfl rfl ?_
        refine rf_guard (fun h15 => ?_)
        refine rf_iald C (n := 60) ly_129 h15 rfl dX11_endsWith_59 rfl ?_
        refine rf_bipush C (n := 62) (v := 9) dX11_endsWith_60 rfl (by decide) ?_
        refine rf_aload_n C (n := 63) (q := 0) dX11_endsWith_62 rfl rfl rfl ?_
        refine rf_getS C (n := 66) fl_RX11_60 ly_96 rfl dX11_endsWith_63 rfl ?_
        refine rf_bipush C (n := 68) (v := 6) dX11_endsWith_66 rfl (by decide) ?_
        refine rf_aload_n C (n := 69) (q := 0) dX11_endsWith_68 rfl rfl rfl ?_
        refine rf_getS C (n := 72) fl_RX11_437 ly_96 rfl dX11_endsWith_69 rfl ?_
        refine rf_iload_n C (n := 73) (q := 3) dX11_endsWith_72 rfl rfl rfl ?_
        refine rf_guard (fun h16 => ?_)
        refine rf_iald C (n := 74) ly_128 h16 rfl dX11_endsWith_73 rfl ?_
        refine rf_imul C (n := 75) dX11_endsWith_74 rfl ?_
        refine rf_aload_n C (n := 76) (q := 0) dX11_endsWith_75 rfl rfl rfl ?_
        refine rf_getS C (n := 79) fl_RX11_440 ly_96 rfl dX11_endsWith_76 rfl ?_
        refine rf_iload_n C (n := 80) (q := 3) dX11_endsWith_79 rfl rfl rfl ?_
        refine rf_guard (fun h17 => ?_)
        refine rf_iald C (n := 81) ly_129 h17 rfl dX11_endsWith_80 rfl ?_
        refine rf_iadd C (n := 82) dX11_endsWith_81 rfl ?_
        refine rf_guard (fun h18 => ?_)
        refine rf_iald C (n := 83) ly_107 h18 rfl dX11_endsWith_82 rfl ?_
        refine rf_iconst C (n := 84) (v := 3) dX11_endsWith_83 rfl (by decide) ?_
        refine rf_iadd C (n := 85) dX11_endsWith_84 rfl ?_
        refine rf_callSi C (n := 88) (c_J9_min_7cf53 G fu _ _ _) sw_RX11_95 ⟨by decide, by decide⟩ rfl (Nat.le_of_ble_eq_true rfl) rfl dX11_endsWith_85 rfl (fun y19 m20 => ?_)
        refine rf_callVv C (n := 91) (c_X11_knows G fu _ _ _ _) mw_RX11_89 ly_96 rfl ⟨by decide, by decide⟩ rfl (Nat.le_of_ble_eq_true rfl) rfl dX11_endsWith_88 rfl (fun _ m21 => ?_)
        exact rf_lv _ [0, 1, 2, 3] rfl (r_X11_endsWith_91 C K fu _ ih _ _ _ _)
noncomputable def f_X11_endsWith_29 (fu : Nat) (x1 : Int32) (x2 : Int32) (m : hM) : Option (Int32 × hM) :=
  f_X11_endsWith_31 fu fu x1 x2 0 m
set_option maxRecDepth 100000 in
set_option maxHeartbeats 4000000 in
theorem r_X11_endsWith_29 {G : hG} {X : hX} (C : Cx G X 12 cX11_endsWith 5 RX11 (some .int)) (K : Cr G X) (fu : Nat) (x1 : Int32) (x2 : Int32) (m : hM) : Rf vI G X 29 [(0, hA G 96), (1, .int x1), (2, .int x2)] [] m (f_X11_endsWith_29 fu x1 x2 m) := by
  unfold f_X11_endsWith_29
  refine rf_iconst C (n := 30) (v := 0) dX11_endsWith_29 rfl (by decide) ?_
  refine rf_istore_n C (n := 31) [(3, .int 0), (0, hA G 96), (1, .int x1), (2, .int x2)] dX11_endsWith_30 rfl rfl (by decide) rfl ?_
  exact rf_lv _ [1, 2, 3, 0] rfl (r_X11_endsWith_31 C K fu fu _ _ _ _)
noncomputable def s_X11_endsWith_2 (fu : Nat) (ih : Int32 → Int32 → Int32 → hM → Option (Int32 × hM)) (x1 : Int32) (x2 : Int32) (x3 : Int32) (m : hM) : Option (Int32 × hM) :=
  if 36 ≤ x3 then (
f_X11_endsWith_29 fu x1 x2 m) else (
if hIn x3 36 then (
if hIn x3 36 then (
hLet (sI m 131 (Int32.toNatClampNeg x3) (gI m 107 (Int32.toNatClampNeg x3))) fun m24 =>
hLet (x3 + 1) fun y25 =>
ih x1 x2 y25 m24) else none) else none)
noncomputable def f_X11_endsWith_2 (fu : Nat) (n : Nat) : Int32 → Int32 → Int32 → hM → Option (Int32 × hM) :=
  Nat.rec (motive := fun _ => Int32 → Int32 → Int32 → hM → Option (Int32 × hM)) (fun _ _ _ _ => none) (fun _ ih => s_X11_endsWith_2 fu ih) n
theorem f_X11_endsWith_2_s (fu : Nat) (n : Nat) (x1 : Int32) (x2 : Int32) (x3 : Int32) (m : hM) : f_X11_endsWith_2 fu (n + 1) x1 x2 x3 m = s_X11_endsWith_2 fu (f_X11_endsWith_2 fu n) x1 x2 x3 m := rfl
set_option maxRecDepth 100000 in
set_option maxHeartbeats 4000000 in
theorem r_X11_endsWith_2 {G : hG} {X : hX} (C : Cx G X 12 cX11_endsWith 5 RX11 (some .int)) (K : Cr G X) (fu : Nat) (n : Nat) : ∀ (x1 : Int32) (x2 : Int32) (x3 : Int32) (m : hM), Rf vI G X 2 [(0, hA G 96), (1, .int x1), (2, .int x2), (3, .int x3)] [] m (f_X11_endsWith_2 fu n x1 x2 x3 m) := by
  induction n with
  | zero => intros; exact rf_none
  | succ n ih =>
    intro x1 x2 x3 m
    show Rf vI G X 2 [(0, hA G 96), (1, .int x1), (2, .int x2), (3, .int x3)] [] m (s_X11_endsWith_2 fu (f_X11_endsWith_2 fu n) x1 x2 x3 m)
    unfold s_X11_endsWith_2
    refine rf_iload_n C (n := 3) (q := 3) dX11_endsWith_2 rfl rfl rfl ?_
    refine rf_aload_n C (n := 4) (q := 0) dX11_endsWith_3 rfl rfl rfl ?_
    refine rf_getS C (n := 7) fl_RX11_446 ly_96 rfl dX11_endsWith_4 rfl ?_
    refine rf_alen C (n := 8) (v := 36) ly_131 (by decide) (by decide) dX11_endsWith_7 rfl ?_
    refine rf_icmp_ge C (tgt := 29) (n := 11) dX11_endsWith_8 (by decide) rfl (fun h1 => ?_) (fun h1 => ?_)
    · exact rf_lv _ [0, 1, 2] rfl (r_X11_endsWith_29 C K fu _ _ _)
    · refine rf_aload_n C (n := 12) (q := 0) dX11_endsWith_11 rfl rfl rfl ?_
      refine rf_getS C (n := 15) fl_RX11_446 ly_96 rfl dX11_endsWith_12 rfl ?_
      refine rf_iload_n C (n := 16) (q := 3) dX11_endsWith_15 rfl rfl rfl ?_
      refine rf_aload_n C (n := 17) (q := 0) dX11_endsWith_16 rfl rfl rfl ?_
      refine rf_getS C (n := 20) fl_RX11_60 ly_96 rfl dX11_endsWith_17 rfl ?_
      refine rf_iload_n C (n := 21) (q := 3) dX11_endsWith_20 rfl rfl rfl ?_
      refine rf_guard (fun h22 => ?_)
      refine rf_iald C (n := 22) ly_107 h22 rfl dX11_endsWith_21 rfl ?_
      refine rf_guard (fun h23 => ?_)
      refine rf_iast C (n := 23) ly_131 h23 rfl dX11_endsWith_22 rfl ?_
      refine rf_letM (fun m24 => ?_)
      refine rf_iinc2 C (n := 26) (q := 3) (fun y25 => [(3, .int y25), (0, hA G 96), (1, .int x1), (2, .int x2)]) dX11_endsWith_23 rfl rfl (by decide) (by decide) (fun _ => rfl) (fun y25 => ?_)
      refine rf_goto C (n := 2) dX11_endsWith_26 (by decide) ?_
      exact rf_lv _ [1, 2, 3, 0] rfl (ih _ _ _ _)
noncomputable def f_X11_endsWith (fu : Nat) (x1 : Int32) (x2 : Int32) (m : hM) : Option (Int32 × hM) :=
  f_X11_endsWith_2 fu fu x1 x2 0 m
set_option maxRecDepth 100000 in
set_option maxHeartbeats 4000000 in
theorem c_X11_endsWith (G : hG) (fu : Nat) (x1 : Int32) (x2 : Int32) (m : hM) : Mt vI G 12 yX11_endsWith cX11_endsWith 5 (some .int) [hA G 96, .int x1, .int x2] m (f_X11_endsWith fu x1 x2 m) := by
  refine mt_of (by decide +kernel) (Nat.le_of_ble_eq_true rfl) (fun X C K => ?_)
  have C : Cx G X 12 cX11_endsWith 5 RX11 (some .int) := C
  show Rf vI G X 0 [(0, hA G 96), (1, .int x1), (2, .int x2)] [] m _
  unfold f_X11_endsWith
  refine rf_iconst C (n := 1) (v := 0) dX11_endsWith_0 rfl (by decide) ?_
  refine rf_istore_n C (n := 2) [(3, .int 0), (0, hA G 96), (1, .int x1), (2, .int x2)] dX11_endsWith_1 rfl rfl (by decide) rfl ?_
  exact rf_lv _ [1, 2, 3, 0] rfl (r_X11_endsWith_2 C K fu fu _ _ _ _)
noncomputable def f_X11_whom_166 (fu : Nat) (x3 : Int32) (x4 : Int32) (x5 : Int32) (m : hM) : Option (Int32 × hM) :=
  if 0 ≤ x3 then (
hLet (sI m 96 1 0) fun m11 =>
hBd (f_X11_enters fu (Int32.toInt64 x4) m11) fun _ m12 =>
hBd (f_X11_enters fu (Int32.toInt64 x5) m12) fun _ m13 =>
some (x3, m13)) else (
some ((-2), m))
set_option maxRecDepth 100000 in
set_option maxHeartbeats 4000000 in
theorem r_X11_whom_166 {G : hG} {X : hX} (C : Cx G X 13 cX11_whom 9 RX11 (some .int)) (K : Cr G X) (fu : Nat) (x3 : Int32) (x4 : Int32) (x5 : Int32) (m : hM) : Rf vI G X 166 [(0, hA G 96), (3, .int x3), (4, .int x4), (5, .int x5)] [] m (f_X11_whom_166 fu x3 x4 x5 m) := by
  unfold f_X11_whom_166
  refine rf_iload_n C (n := 167) (q := 1) dX11_whom_166 rfl rfl rfl ?_
  refine rf_if_ge C (tgt := 173) (n := 170) dX11_whom_167 (by decide) rfl (fun h10 => ?_) (fun h10 => ?_)
  · refine rf_aload_n C (n := 174) (q := 0) dX11_whom_173 rfl rfl rfl ?_
    refine rf_iconst C (n := 175) (v := 0) dX11_whom_174 rfl (by decide) ?_
    refine rf_putI C (n := 178) pl_RX11_11 ly_96 rfl ⟨rfl, rfl⟩ dX11_whom_175 rfl ?_
    refine rf_letM (fun m11 => ?_)
    refine rf_aload_n C (n := 179) (q := 0) dX11_whom_178 rfl rfl rfl ?_
    refine rf_iload C (n := 181) (q := 2) dX11_whom_179 rfl rfl ?_
    refine rf_i2l C (n := 182) dX11_whom_181 rfl ?_
    refine rf_callVv C (n := 185) (c_X11_enters G fu _ _) mw_RX11_18 ly_96 rfl ⟨by decide, by decide⟩ rfl (Nat.le_of_ble_eq_true rfl) rfl dX11_whom_182 rfl (fun _ m12 => ?_)
    refine rf_aload_n C (n := 186) (q := 0) dX11_whom_185 rfl rfl rfl ?_
    refine rf_iload C (n := 188) (q := 3) dX11_whom_186 rfl rfl ?_
    refine rf_i2l C (n := 189) dX11_whom_188 rfl ?_
    refine rf_callVv C (n := 192) (c_X11_enters G fu _ _) mw_RX11_18 ly_96 rfl ⟨by decide, by decide⟩ rfl (Nat.le_of_ble_eq_true rfl) rfl dX11_whom_189 rfl (fun _ m13 => ?_)
    refine rf_iload_n C (n := 193) (q := 1) dX11_whom_192 rfl rfl rfl ?_
    exact rf_iret C K dX11_whom_193
  · refine rf_bipush C (n := 172) (v := (-2)) dX11_whom_170 rfl (by decide) ?_
    exact rf_iret C K dX11_whom_172
noncomputable def f_X11_whom_160 (fu : Nat) (k44 : Int32 → Int32 → Int32 → Int32 → Int32 → Int32 → hM → Option (Int32 × hM)) (x1 : Int32) (x2 : Int32) (x3 : Int32) (x4 : Int32) (x5 : Int32) (x6 : Int32) (m : hM) : Option (Int32 × hM) :=
  hLet (x6 + 1) fun y19 =>
k44 x1 x2 x3 x4 x5 y19 m
set_option maxRecDepth 100000 in
set_option maxHeartbeats 4000000 in
theorem r_X11_whom_160 {G : hG} {X : hX} (C : Cx G X 13 cX11_whom 9 RX11 (some .int)) (K : Cr G X) (fu : Nat) (k44 : Int32 → Int32 → Int32 → Int32 → Int32 → Int32 → hM → Option (Int32 × hM)) (hk44 : ∀ (x1 : Int32) (x2 : Int32) (x3 : Int32) (x4 : Int32) (x5 : Int32) (x6 : Int32) (m : hM), Rf vI G X 44 [(0, hA G 96), (1, .int x1), (2, .int x2), (3, .int x3), (4, .int x4), (5, .int x5), (6, .int x6)] [] m (k44 x1 x2 x3 x4 x5 x6 m)) (x1 : Int32) (x2 : Int32) (x3 : Int32) (x4 : Int32) (x5 : Int32) (x6 : Int32) (m : hM) : Rf vI G X 160 [(0, hA G 96), (1, .int x1), (2, .int x2), (3, .int x3), (4, .int x4), (5, .int x5), (6, .int x6)] [] m (f_X11_whom_160 fu k44 x1 x2 x3 x4 x5 x6 m) := by
  unfold f_X11_whom_160
  refine rf_iinc2 C (n := 163) (q := 6) (fun y19 => [(6, .int y19), (0, hA G 96), (1, .int x1), (2, .int x2), (3, .int x3), (4, .int x4), (5, .int x5)]) dX11_whom_160 rfl rfl (by decide) (by decide) (fun _ => rfl) (fun y19 => ?_)
  refine rf_goto C (n := 44) dX11_whom_163 (by decide) ?_
  exact rf_lv _ [1, 2, 3, 4, 5, 6, 0] rfl (hk44 _ _ _ _ _ _ _)
noncomputable def f_X11_whom_149 (fu : Nat) (k44 : Int32 → Int32 → Int32 → Int32 → Int32 → Int32 → hM → Option (Int32 × hM)) (x1 : Int32) (x2 : Int32) (x6 : Int32) (x7 : Int32) (x8 : Int32) (m : hM) : Option (Int32 × hM) :=
  f_X11_whom_160 fu k44 x1 x2 x8 x6 x7 x6 m
set_option maxRecDepth 100000 in
set_option maxHeartbeats 4000000 in
theorem r_X11_whom_149 {G : hG} {X : hX} (C : Cx G X 13 cX11_whom 9 RX11 (some .int)) (K : Cr G X) (fu : Nat) (k44 : Int32 → Int32 → Int32 → Int32 → Int32 → Int32 → hM → Option (Int32 × hM)) (hk44 : ∀ (x1 : Int32) (x2 : Int32) (x3 : Int32) (x4 : Int32) (x5 : Int32) (x6 : Int32) (m : hM), Rf vI G X 44 [(0, hA G 96), (1, .int x1), (2, .int x2), (3, .int x3), (4, .int x4), (5, .int x5), (6, .int x6)] [] m (k44 x1 x2 x3 x4 x5 x6 m)) (x1 : Int32) (x2 : Int32) (x6 : Int32) (x7 : Int32) (x8 : Int32) (m : hM) : Rf vI G X 149 [(0, hA G 96), (1, .int x1), (2, .int x2), (6, .int x6), (7, .int x7), (8, .int x8)] [] m (f_X11_whom_149 fu k44 x1 x2 x6 x7 x8 m) := by
  unfold f_X11_whom_149
  refine rf_iload C (n := 151) (q := 5) dX11_whom_149 rfl rfl ?_
  refine rf_istore_n C (n := 152) [(3, .int x8), (0, hA G 96), (1, .int x1), (2, .int x2), (6, .int x6), (7, .int x7), (8, .int x8)] dX11_whom_151 rfl rfl (by decide) rfl ?_
  refine rf_iload C (n := 154) (q := 4) dX11_whom_152 rfl rfl ?_
  refine rf_istore C (n := 156) [(4, .int x6), (3, .int x8), (0, hA G 96), (1, .int x1), (2, .int x2), (6, .int x6), (7, .int x7), (8, .int x8)] dX11_whom_154 rfl (by decide) rfl ?_
  refine rf_iload C (n := 158) (q := 6) dX11_whom_156 rfl rfl ?_
  refine rf_istore C (n := 160) [(5, .int x7), (4, .int x6), (3, .int x8), (0, hA G 96), (1, .int x1), (2, .int x2), (6, .int x6), (7, .int x7), (8, .int x8)] dX11_whom_158 rfl (by decide) rfl ?_
  exact rf_lv _ [3, 4, 5, 2, 1, 0, 6] rfl (r_X11_whom_160 C K fu _ hk44 _ _ _ _ _ _ _)
noncomputable def f_X11_whom_119 (fu : Nat) (k44 : Int32 → Int32 → Int32 → Int32 → Int32 → Int32 → hM → Option (Int32 × hM)) (x1 : Int32) (x2 : Int32) (x3 : Int32) (x4 : Int32) (x5 : Int32) (x6 : Int32) (x7 : Int32) (s0 : Int32) (m : hM) : Option (Int32 × hM) :=
  if s0 < 0 then (
f_X11_whom_160 fu k44 x1 x2 x3 x4 x5 x6 m) else (
if x3 < 0 then (
f_X11_whom_149 fu k44 x1 x2 x6 x7 s0 m) else (
if s0 < x3 then (
f_X11_whom_149 fu k44 x1 x2 x6 x7 s0 m) else (
if ¬ s0 = x3 then (
f_X11_whom_160 fu k44 x1 x2 x3 x4 x5 x6 m) else (
if x5 ≤ x7 then (
f_X11_whom_160 fu k44 x1 x2 x3 x4 x5 x6 m) else (
f_X11_whom_149 fu k44 x1 x2 x6 x7 s0 m)))))
set_option maxRecDepth 100000 in
set_option maxHeartbeats 4000000 in
theorem r_X11_whom_119 {G : hG} {X : hX} (C : Cx G X 13 cX11_whom 9 RX11 (some .int)) (K : Cr G X) (fu : Nat) (k44 : Int32 → Int32 → Int32 → Int32 → Int32 → Int32 → hM → Option (Int32 × hM)) (hk44 : ∀ (x1 : Int32) (x2 : Int32) (x3 : Int32) (x4 : Int32) (x5 : Int32) (x6 : Int32) (m : hM), Rf vI G X 44 [(0, hA G 96), (1, .int x1), (2, .int x2), (3, .int x3), (4, .int x4), (5, .int x5), (6, .int x6)] [] m (k44 x1 x2 x3 x4 x5 x6 m)) (x1 : Int32) (x2 : Int32) (x3 : Int32) (x4 : Int32) (x5 : Int32) (x6 : Int32) (x7 : Int32) (s0 : Int32) (m : hM) : Rf vI G X 119 [(0, hA G 96), (1, .int x1), (2, .int x2), (3, .int x3), (4, .int x4), (5, .int x5), (6, .int x6), (7, .int x7)] [.int s0] m (f_X11_whom_119 fu k44 x1 x2 x3 x4 x5 x6 x7 s0 m) := by
  unfold f_X11_whom_119
  refine rf_istore C (n := 121) [(8, .int s0), (0, hA G 96), (1, .int x1), (2, .int x2), (3, .int x3), (4, .int x4), (5, .int x5), (6, .int x6), (7, .int x7)] dX11_whom_119 rfl (by decide) rfl ?_
  refine rf_iload C (n := 123) (q := 0) dX11_whom_121 rfl rfl ?_
  refine rf_if_lt C (tgt := 160) (n := 126) dX11_whom_123 (by decide) rfl (fun h18 => ?_) (fun h18 => ?_)
  · exact rf_lv _ [1, 2, 3, 4, 5, 6, 7] rfl (r_X11_whom_160 C K fu _ hk44 _ _ _ _ _ _ _)
  · refine rf_iload_n C (n := 127) (q := 4) dX11_whom_126 rfl rfl rfl ?_
    refine rf_if_lt C (tgt := 149) (n := 130) dX11_whom_127 (by decide) rfl (fun h20 => ?_) (fun h20 => ?_)
    · exact rf_lv _ [1, 2, 3, 7, 8, 0] rfl (r_X11_whom_149 C K fu _ hk44 _ _ _ _ _ _)
    · refine rf_iload C (n := 132) (q := 0) dX11_whom_130 rfl rfl ?_
      refine rf_iload_n C (n := 133) (q := 4) dX11_whom_132 rfl rfl rfl ?_
      refine rf_icmp_lt C (tgt := 149) (n := 136) dX11_whom_133 (by decide) rfl (fun h21 => ?_) (fun h21 => ?_)
      · exact rf_lv _ [1, 2, 3, 7, 8, 0] rfl (r_X11_whom_149 C K fu _ hk44 _ _ _ _ _ _)
      · refine rf_iload C (n := 138) (q := 0) dX11_whom_136 rfl rfl ?_
        refine rf_iload_n C (n := 139) (q := 4) dX11_whom_138 rfl rfl rfl ?_
        refine rf_icmp_ne C (tgt := 160) (n := 142) dX11_whom_139 (by decide) rfl (fun h22 => ?_) (fun h22 => ?_)
        · exact rf_lv _ [1, 2, 3, 4, 5, 6, 7] rfl (r_X11_whom_160 C K fu _ hk44 _ _ _ _ _ _ _)
        · refine rf_iload C (n := 144) (q := 8) dX11_whom_142 rfl rfl ?_
          refine rf_iload C (n := 146) (q := 6) dX11_whom_144 rfl rfl ?_
          refine rf_icmp_ge C (tgt := 160) (n := 149) dX11_whom_146 (by decide) rfl (fun h23 => ?_) (fun h23 => ?_)
          · exact rf_lv _ [1, 2, 3, 4, 5, 6, 7] rfl (r_X11_whom_160 C K fu _ hk44 _ _ _ _ _ _ _)
          · exact rf_lv _ [1, 2, 3, 7, 8, 0] rfl (r_X11_whom_149 C K fu _ hk44 _ _ _ _ _ _)
noncomputable def f_X11_whom_102 (fu : Nat) (k44 : Int32 → Int32 → Int32 → Int32 → Int32 → Int32 → hM → Option (Int32 × hM)) (x1 : Int32) (x2 : Int32) (x3 : Int32) (x4 : Int32) (x5 : Int32) (x6 : Int32) (x7 : Int32) (m : hM) : Option (Int32 × hM) :=
  if x7 ≤ x1 then (
hBd (f_X11_endsWith fu x6 x2 m) fun y16 m17 =>
f_X11_whom_119 fu k44 x1 x2 x3 x4 x5 x6 x7 y16 m17) else (
f_X11_whom_119 fu k44 x1 x2 x3 x4 x5 x6 x7 (-1) m)
set_option maxRecDepth 100000 in
set_option maxHeartbeats 4000000 in
theorem r_X11_whom_102 {G : hG} {X : hX} (C : Cx G X 13 cX11_whom 9 RX11 (some .int)) (K : Cr G X) (fu : Nat) (k44 : Int32 → Int32 → Int32 → Int32 → Int32 → Int32 → hM → Option (Int32 × hM)) (hk44 : ∀ (x1 : Int32) (x2 : Int32) (x3 : Int32) (x4 : Int32) (x5 : Int32) (x6 : Int32) (m : hM), Rf vI G X 44 [(0, hA G 96), (1, .int x1), (2, .int x2), (3, .int x3), (4, .int x4), (5, .int x5), (6, .int x6)] [] m (k44 x1 x2 x3 x4 x5 x6 m)) (x1 : Int32) (x2 : Int32) (x3 : Int32) (x4 : Int32) (x5 : Int32) (x6 : Int32) (x7 : Int32) (m : hM) : Rf vI G X 102 [(0, hA G 96), (1, .int x1), (2, .int x2), (3, .int x3), (4, .int x4), (5, .int x5), (6, .int x6), (7, .int x7)] [] m (f_X11_whom_102 fu k44 x1 x2 x3 x4 x5 x6 x7 m) := by
  unfold f_X11_whom_102
  refine rf_iload C (n := 104) (q := 7) dX11_whom_102 rfl rfl ?_
  refine rf_iload_n C (n := 105) (q := 1) dX11_whom_104 rfl rfl rfl ?_
  refine rf_icmp_le C (tgt := 112) (n := 108) dX11_whom_105 (by decide) rfl (fun h15 => ?_) (fun h15 => ?_)
  · refine rf_aload_n C (n := 113) (q := 0) dX11_whom_112 rfl rfl rfl ?_
    refine rf_iload C (n := 115) (q := 6) dX11_whom_113 rfl rfl ?_
    refine rf_iload_n C (n := 116) (q := 2) dX11_whom_115 rfl rfl rfl ?_
    refine rf_callVi C (n := 119) (c_X11_endsWith G fu _ _ _) mw_RX11_451 ly_96 rfl ⟨by decide, by decide⟩ rfl (Nat.le_of_ble_eq_true rfl) rfl dX11_whom_116 rfl (fun y16 m17 => ?_)
    exact rf_lv _ [0, 1, 2, 3, 4, 5, 6, 7] rfl (r_X11_whom_119 C K fu _ hk44 _ _ _ _ _ _ _ _ _)
  · refine rf_iconst C (n := 109) (v := (-1)) dX11_whom_108 rfl (by decide) ?_
    refine rf_goto C (n := 119) dX11_whom_109 (by decide) ?_
    exact rf_lv _ [0, 1, 2, 3, 4, 5, 6, 7] rfl (r_X11_whom_119 C K fu _ hk44 _ _ _ _ _ _ _ _ _)
noncomputable def f_X11_whom_93 (fu : Nat) (k44 : Int32 → Int32 → Int32 → Int32 → Int32 → Int32 → hM → Option (Int32 × hM)) (k61 : Int32 → Int32 → Int32 → Int32 → Int32 → Int32 → Int32 → Int32 → hM → Option (Int32 × hM)) (x1 : Int32) (x2 : Int32) (x3 : Int32) (x4 : Int32) (x5 : Int32) (x6 : Int32) (x8 : Int32) (s0 : Int32) (s1 : Int32) (m : hM) : Option (Int32 × hM) :=
  hLet (s0 + s1) fun y27 =>
hLet (x8 + 1) fun y28 =>
k61 x1 x2 x3 x4 x5 x6 y27 y28 m
set_option maxRecDepth 100000 in
set_option maxHeartbeats 4000000 in
theorem r_X11_whom_93 {G : hG} {X : hX} (C : Cx G X 13 cX11_whom 9 RX11 (some .int)) (K : Cr G X) (fu : Nat) (k44 : Int32 → Int32 → Int32 → Int32 → Int32 → Int32 → hM → Option (Int32 × hM)) (hk44 : ∀ (x1 : Int32) (x2 : Int32) (x3 : Int32) (x4 : Int32) (x5 : Int32) (x6 : Int32) (m : hM), Rf vI G X 44 [(0, hA G 96), (1, .int x1), (2, .int x2), (3, .int x3), (4, .int x4), (5, .int x5), (6, .int x6)] [] m (k44 x1 x2 x3 x4 x5 x6 m)) (k61 : Int32 → Int32 → Int32 → Int32 → Int32 → Int32 → Int32 → Int32 → hM → Option (Int32 × hM)) (hk61 : ∀ (x1 : Int32) (x2 : Int32) (x3 : Int32) (x4 : Int32) (x5 : Int32) (x6 : Int32) (x7 : Int32) (x8 : Int32) (m : hM), Rf vI G X 61 [(0, hA G 96), (1, .int x1), (2, .int x2), (3, .int x3), (4, .int x4), (5, .int x5), (6, .int x6), (7, .int x7), (8, .int x8)] [] m (k61 x1 x2 x3 x4 x5 x6 x7 x8 m)) (x1 : Int32) (x2 : Int32) (x3 : Int32) (x4 : Int32) (x5 : Int32) (x6 : Int32) (x8 : Int32) (s0 : Int32) (s1 : Int32) (m : hM) : Rf vI G X 93 [(0, hA G 96), (1, .int x1), (2, .int x2), (3, .int x3), (4, .int x4), (5, .int x5), (6, .int x6), (8, .int x8)] [.int s1, .int s0] m (f_X11_whom_93 fu k44 k61 x1 x2 x3 x4 x5 x6 x8 s0 s1 m) := by
  unfold f_X11_whom_93
  refine rf_iadd C (n := 94) dX11_whom_93 rfl ?_
  refine rf_letI (fun y27 => ?_)
  refine rf_istore C (n := 96) [(7, .int y27), (0, hA G 96), (1, .int x1), (2, .int x2), (3, .int x3), (4, .int x4), (5, .int x5), (6, .int x6), (8, .int x8)] dX11_whom_94 rfl (by decide) rfl ?_
  refine rf_iinc2 C (n := 99) (q := 8) (fun y28 => [(8, .int y28), (7, .int y27), (0, hA G 96), (1, .int x1), (2, .int x2), (3, .int x3), (4, .int x4), (5, .int x5), (6, .int x6)]) dX11_whom_96 rfl rfl (by decide) (by decide) (fun _ => rfl) (fun y28 => ?_)
  refine rf_goto C (n := 61) dX11_whom_99 (by decide) ?_
  exact rf_lv _ [2, 3, 4, 5, 6, 7, 8, 1, 0] rfl (hk61 _ _ _ _ _ _ _ _ _)
noncomputable def s_X11_whom_61 (fu : Nat) (k44 : Int32 → Int32 → Int32 → Int32 → Int32 → Int32 → hM → Option (Int32 × hM)) (ih : Int32 → Int32 → Int32 → Int32 → Int32 → Int32 → Int32 → Int32 → hM → Option (Int32 × hM)) (x1 : Int32) (x2 : Int32) (x3 : Int32) (x4 : Int32) (x5 : Int32) (x6 : Int32) (x7 : Int32) (x8 : Int32) (m : hM) : Option (Int32 × hM) :=
  if (gI m 96 50) ≤ x8 then (
f_X11_whom_102 fu k44 x1 x2 x3 x4 x5 x6 x7 m) else (
hBd (f_X11_has fu x6 x8 m) fun y24 m25 =>
if y24 = 0 then (
f_X11_whom_93 fu k44 ih x1 x2 x3 x4 x5 x6 x8 x7 0 m25) else (
if hIn x8 9 then (
f_X11_whom_93 fu k44 ih x1 x2 x3 x4 x5 x6 x8 x7 (gI m25 130 (Int32.toNatClampNeg x8)) m25) else none))
noncomputable def f_X11_whom_61 (fu : Nat) (k44 : Int32 → Int32 → Int32 → Int32 → Int32 → Int32 → hM → Option (Int32 × hM)) (n : Nat) : Int32 → Int32 → Int32 → Int32 → Int32 → Int32 → Int32 → Int32 → hM → Option (Int32 × hM) :=
  Nat.rec (motive := fun _ => Int32 → Int32 → Int32 → Int32 → Int32 → Int32 → Int32 → Int32 → hM → Option (Int32 × hM)) (fun _ _ _ _ _ _ _ _ _ => none) (fun _ ih => s_X11_whom_61 fu k44 ih) n
theorem f_X11_whom_61_s (fu : Nat) (k44 : Int32 → Int32 → Int32 → Int32 → Int32 → Int32 → hM → Option (Int32 × hM)) (n : Nat) (x1 : Int32) (x2 : Int32) (x3 : Int32) (x4 : Int32) (x5 : Int32) (x6 : Int32) (x7 : Int32) (x8 : Int32) (m : hM) : f_X11_whom_61 fu k44 (n + 1) x1 x2 x3 x4 x5 x6 x7 x8 m = s_X11_whom_61 fu k44 (f_X11_whom_61 fu k44 n) x1 x2 x3 x4 x5 x6 x7 x8 m := rfl
set_option maxRecDepth 100000 in
set_option maxHeartbeats 4000000 in
theorem r_X11_whom_61 {G : hG} {X : hX} (C : Cx G X 13 cX11_whom 9 RX11 (some .int)) (K : Cr G X) (fu : Nat) (k44 : Int32 → Int32 → Int32 → Int32 → Int32 → Int32 → hM → Option (Int32 × hM)) (hk44 : ∀ (x1 : Int32) (x2 : Int32) (x3 : Int32) (x4 : Int32) (x5 : Int32) (x6 : Int32) (m : hM), Rf vI G X 44 [(0, hA G 96), (1, .int x1), (2, .int x2), (3, .int x3), (4, .int x4), (5, .int x5), (6, .int x6)] [] m (k44 x1 x2 x3 x4 x5 x6 m)) (n : Nat) : ∀ (x1 : Int32) (x2 : Int32) (x3 : Int32) (x4 : Int32) (x5 : Int32) (x6 : Int32) (x7 : Int32) (x8 : Int32) (m : hM), Rf vI G X 61 [(0, hA G 96), (1, .int x1), (2, .int x2), (3, .int x3), (4, .int x4), (5, .int x5), (6, .int x6), (7, .int x7), (8, .int x8)] [] m (f_X11_whom_61 fu k44 n x1 x2 x3 x4 x5 x6 x7 x8 m) := by
  induction n with
  | zero => intros; exact rf_none
  | succ n ih =>
    intro x1 x2 x3 x4 x5 x6 x7 x8 m
    show Rf vI G X 61 [(0, hA G 96), (1, .int x1), (2, .int x2), (3, .int x3), (4, .int x4), (5, .int x5), (6, .int x6), (7, .int x7), (8, .int x8)] [] m (s_X11_whom_61 fu k44 (f_X11_whom_61 fu k44 n) x1 x2 x3 x4 x5 x6 x7 x8 m)
    unfold s_X11_whom_61
    refine rf_iload C (n := 63) (q := 8) dX11_whom_61 rfl rfl ?_
    refine rf_aload_n C (n := 64) (q := 0) dX11_whom_63 rfl rfl rfl ?_
    refine rf_getI C (n := 67) fl_RX11_434 ly_96 rfl dX11_whom_64 rfl ?_
    refine rf_icmp_ge C (tgt := 102) (n := 70) dX11_whom_67 (by decide) rfl (fun h14 => ?_) (fun h14 => ?_)
    · exact rf_lv _ [0, 1, 2, 3, 4, 5, 6, 7] rfl (r_X11_whom_102 C K fu _ hk44 _ _ _ _ _ _ _ _)
    · refine rf_iload C (n := 72) (q := 7) dX11_whom_70 rfl rfl ?_
      refine rf_iload C (n := 74) (q := 6) dX11_whom_72 rfl rfl ?_
      refine rf_iload C (n := 76) (q := 8) dX11_whom_74 rfl rfl ?_
      refine rf_callSi C (n := 79) (c_X11_has G fu _ _ _) sw_RX11_137 ⟨by decide, by decide⟩ rfl (Nat.le_of_ble_eq_true rfl) rfl dX11_whom_76 rfl (fun y24 m25 => ?_)
      refine rf_if_eq C (tgt := 92) (n := 82) dX11_whom_79 (by decide) rfl (fun h26 => ?_) (fun h26 => ?_)
      · refine rf_iconst C (n := 93) (v := 0) dX11_whom_92 rfl (by decide) ?_
        exact rf_lv _ [0, 1, 2, 3, 4, 5, 6, 8] rfl (r_X11_whom_93 C K fu _ hk44 _ ih _ _ _ _ _ _ _ _ _ _)
      · refine rf_aload_n C (n := 83) (q := 0) dX11_whom_82 rfl rfl rfl ?_
        refine rf_getS C (n := 86) fl_RX11_443 ly_96 rfl dX11_whom_83 rfl ?_
        refine rf_iload C (n := 88) (q := 8) dX11_whom_86 rfl rfl ?_
        refine rf_guard (fun h29 => ?_)
        refine rf_iald C (n := 89) ly_130 h29 rfl dX11_whom_88 rfl ?_
        refine rf_goto C (n := 93) dX11_whom_89 (by decide) ?_
        exact rf_lv _ [0, 1, 2, 3, 4, 5, 6, 8] rfl (r_X11_whom_93 C K fu _ hk44 _ ih _ _ _ _ _ _ _ _ _ _)
noncomputable def s_X11_whom_44 (fu : Nat) (ih : Int32 → Int32 → Int32 → Int32 → Int32 → Int32 → hM → Option (Int32 × hM)) (x1 : Int32) (x2 : Int32) (x3 : Int32) (x4 : Int32) (x5 : Int32) (x6 : Int32) (m : hM) : Option (Int32 × hM) :=
  if (1 <<< ((gI m 96 50) &&& 31)) ≤ x6 then (
f_X11_whom_166 fu x3 x4 x5 m) else (
f_X11_whom_61 fu ih fu x1 x2 x3 x4 x5 x6 0 0 m)
noncomputable def f_X11_whom_44 (fu : Nat) (n : Nat) : Int32 → Int32 → Int32 → Int32 → Int32 → Int32 → hM → Option (Int32 × hM) :=
  Nat.rec (motive := fun _ => Int32 → Int32 → Int32 → Int32 → Int32 → Int32 → hM → Option (Int32 × hM)) (fun _ _ _ _ _ _ _ => none) (fun _ ih => s_X11_whom_44 fu ih) n
theorem f_X11_whom_44_s (fu : Nat) (n : Nat) (x1 : Int32) (x2 : Int32) (x3 : Int32) (x4 : Int32) (x5 : Int32) (x6 : Int32) (m : hM) : f_X11_whom_44 fu (n + 1) x1 x2 x3 x4 x5 x6 m = s_X11_whom_44 fu (f_X11_whom_44 fu n) x1 x2 x3 x4 x5 x6 m := rfl
set_option maxRecDepth 100000 in
set_option maxHeartbeats 4000000 in
theorem r_X11_whom_44 {G : hG} {X : hX} (C : Cx G X 13 cX11_whom 9 RX11 (some .int)) (K : Cr G X) (fu : Nat) (n : Nat) : ∀ (x1 : Int32) (x2 : Int32) (x3 : Int32) (x4 : Int32) (x5 : Int32) (x6 : Int32) (m : hM), Rf vI G X 44 [(0, hA G 96), (1, .int x1), (2, .int x2), (3, .int x3), (4, .int x4), (5, .int x5), (6, .int x6)] [] m (f_X11_whom_44 fu n x1 x2 x3 x4 x5 x6 m) := by
  induction n with
  | zero => intros; exact rf_none
  | succ n ih =>
    intro x1 x2 x3 x4 x5 x6 m
    show Rf vI G X 44 [(0, hA G 96), (1, .int x1), (2, .int x2), (3, .int x3), (4, .int x4), (5, .int x5), (6, .int x6)] [] m (s_X11_whom_44 fu (f_X11_whom_44 fu n) x1 x2 x3 x4 x5 x6 m)
    unfold s_X11_whom_44
    refine rf_iload C (n := 46) (q := 6) dX11_whom_44 rfl rfl ?_
    refine rf_iconst C (n := 47) (v := 1) dX11_whom_46 rfl (by decide) ?_
    refine rf_aload_n C (n := 48) (q := 0) dX11_whom_47 rfl rfl rfl ?_
    refine rf_getI C (n := 51) fl_RX11_434 ly_96 rfl dX11_whom_48 rfl ?_
    refine rf_ishl C (n := 52) dX11_whom_51 rfl ?_
    refine rf_icmp_ge C (tgt := 166) (n := 55) dX11_whom_52 (by decide) rfl (fun h9 => ?_) (fun h9 => ?_)
    · exact rf_lv _ [0, 3, 4, 5] rfl (r_X11_whom_166 C K fu _ _ _ _)
    · refine rf_iconst C (n := 56) (v := 0) dX11_whom_55 rfl (by decide) ?_
      refine rf_istore C (n := 58) [(7, .int 0), (0, hA G 96), (1, .int x1), (2, .int x2), (3, .int x3), (4, .int x4), (5, .int x5), (6, .int x6)] dX11_whom_56 rfl (by decide) rfl ?_
      refine rf_iconst C (n := 59) (v := 0) dX11_whom_58 rfl (by decide) ?_
      refine rf_istore C (n := 61) [(8, .int 0), (7, .int 0), (0, hA G 96), (1, .int x1), (2, .int x2), (3, .int x3), (4, .int x4), (5, .int x5), (6, .int x6)] dX11_whom_59 rfl (by decide) rfl ?_
      exact rf_lv _ [2, 3, 4, 5, 6, 7, 8, 1, 0] rfl (r_X11_whom_61 C K fu _ ih fu _ _ _ _ _ _ _ _ _)
noncomputable def f_X11_whom (fu : Nat) (x1 : Int32) (x2 : Int32) (m : hM) : Option (Int32 × hM) :=
  hLet (sI m 96 0 0) fun m1 =>
hBd (f_X11_in fu (Int32.toInt64 x1) 0 999 m1) fun y2 m3 =>
if y2 = 0 then (
some ((-1), m3)) else (
hBd (f_X11_isHour fu x2 m3) fun y5 m6 =>
if y5 = 0 then (
some ((-1), m6)) else (
if ¬ (gI m6 96 16) = 0 then (
f_X11_whom_44 fu fu x1 x2 (-1) 0 0 0 m6) else (
some ((-1), m6))))
set_option maxRecDepth 100000 in
set_option maxHeartbeats 4000000 in
theorem c_X11_whom (G : hG) (fu : Nat) (x1 : Int32) (x2 : Int32) (m : hM) : Mt vI G 13 yX11_whom cX11_whom 9 (some .int) [hA G 96, .int x1, .int x2] m (f_X11_whom fu x1 x2 m) := by
  refine mt_of (by decide +kernel) (Nat.le_of_ble_eq_true rfl) (fun X C K => ?_)
  have C : Cx G X 13 cX11_whom 9 RX11 (some .int) := C
  show Rf vI G X 0 [(0, hA G 96), (1, .int x1), (2, .int x2)] [] m _
  unfold f_X11_whom
  refine rf_aload_n C (n := 1) (q := 0) dX11_whom_0 rfl rfl rfl ?_
  refine rf_iconst C (n := 2) (v := 0) dX11_whom_1 rfl (by decide) ?_
  refine rf_putI C (n := 5) pl_RX11_3 ly_96 rfl ⟨rfl, rfl⟩ dX11_whom_2 rfl ?_
  refine rf_letM (fun m1 => ?_)
  refine rf_iload_n C (n := 6) (q := 1) dX11_whom_5 rfl rfl rfl ?_
  refine rf_i2l C (n := 7) dX11_whom_6 rfl ?_
  refine rf_lconst C (n := 8) (v := 0) dX11_whom_7 rfl (by decide) ?_
  refine rf_ldc2 C (n := 11) dX11_whom_8 rfl kl_RX11_449 ?_
  refine rf_callSi C (n := 14) (c_X11_in G fu _ _ _ _) sw_RX11_25 ⟨by decide, by decide⟩ rfl (Nat.le_of_ble_eq_true rfl) rfl dX11_whom_11 rfl (fun y2 m3 => ?_)
  refine rf_if_eq C (tgt := 31) (n := 17) dX11_whom_14 (by decide) rfl (fun h4 => ?_) (fun h4 => ?_)
  · refine rf_iconst C (n := 32) (v := (-1)) dX11_whom_31 rfl (by decide) ?_
    exact rf_iret C K dX11_whom_32
  · refine rf_iload_n C (n := 18) (q := 2) dX11_whom_17 rfl rfl rfl ?_
    refine rf_callSi C (n := 21) (c_X11_isHour G fu _ _) sw_RX11_81 ⟨by decide, by decide⟩ rfl (Nat.le_of_ble_eq_true rfl) rfl dX11_whom_18 rfl (fun y5 m6 => ?_)
    refine rf_if_eq C (tgt := 31) (n := 24) dX11_whom_21 (by decide) rfl (fun h7 => ?_) (fun h7 => ?_)
    · refine rf_iconst C (n := 32) (v := (-1)) dX11_whom_31 rfl (by decide) ?_
      exact rf_iret C K dX11_whom_32
    · refine rf_aload_n C (n := 25) (q := 0) dX11_whom_24 rfl rfl rfl ?_
      refine rf_getI C (n := 28) fl_RX11_151 ly_96 rfl dX11_whom_25 rfl ?_
      refine rf_if_ne C (tgt := 33) (n := 31) dX11_whom_28 (by decide) rfl (fun h8 => ?_) (fun h8 => ?_)
      · refine rf_iconst C (n := 34) (v := (-1)) dX11_whom_33 rfl (by decide) ?_
        refine rf_istore_n C (n := 35) [(3, .int (-1)), (0, hA G 96), (1, .int x1), (2, .int x2)] dX11_whom_34 rfl rfl (by decide) rfl ?_
        refine rf_iconst C (n := 36) (v := 0) dX11_whom_35 rfl (by decide) ?_
        refine rf_istore C (n := 38) [(4, .int 0), (3, .int (-1)), (0, hA G 96), (1, .int x1), (2, .int x2)] dX11_whom_36 rfl (by decide) rfl ?_
        refine rf_iconst C (n := 39) (v := 0) dX11_whom_38 rfl (by decide) ?_
        refine rf_istore C (n := 41) [(5, .int 0), (4, .int 0), (3, .int (-1)), (0, hA G 96), (1, .int x1), (2, .int x2)] dX11_whom_39 rfl (by decide) rfl ?_
        refine rf_iconst C (n := 42) (v := 0) dX11_whom_41 rfl (by decide) ?_
        refine rf_istore C (n := 44) [(6, .int 0), (5, .int 0), (4, .int 0), (3, .int (-1)), (0, hA G 96), (1, .int x1), (2, .int x2)] dX11_whom_42 rfl (by decide) rfl ?_
        exact rf_lv _ [4, 5, 6, 3, 2, 1, 0] rfl (r_X11_whom_44 C K fu fu _ _ _ _ _ _ _)
      · refine rf_iconst C (n := 32) (v := (-1)) dX11_whom_31 rfl (by decide) ?_
        exact rf_iret C K dX11_whom_32
