theorem dX8_workReady_0 : decode cX8_workReady 0 = .ok (.aload_n 0, 1) := by decide +kernel
theorem dX8_workReady_1 : decode cX8_workReady 1 = .ok (.getfield 22, 3) := by decide +kernel
theorem dX8_workReady_4 : decode cX8_workReady 4 = .ok (.iconst 0, 1) := by decide +kernel
theorem dX8_workReady_5 : decode cX8_workReady 5 = .ok (.invokestatic 78, 3) := by decide +kernel
theorem dX8_workReady_8 : decode cX8_workReady 8 = .ok (.aload_n 0, 1) := by decide +kernel
theorem dX8_workReady_9 : decode cX8_workReady 9 = .ok (.iconst 0, 1) := by decide +kernel
theorem dX8_workReady_10 : decode cX8_workReady 10 = .ok (.putfield 18, 3) := by decide +kernel
theorem dX8_workReady_13 : decode cX8_workReady 13 = .ok (.iconst 0, 1) := by decide +kernel
theorem dX8_workReady_14 : decode cX8_workReady 14 = .ok (.istore 4, 2) := by decide +kernel
theorem dX8_workReady_16 : decode cX8_workReady 16 = .ok (.iload 4, 2) := by decide +kernel
theorem dX8_workReady_18 : decode cX8_workReady 18 = .ok (.aload_n 0, 1) := by decide +kernel
theorem dX8_workReady_19 : decode cX8_workReady 19 = .ok (.getfield 33, 3) := by decide +kernel
theorem dX8_workReady_22 : decode cX8_workReady 22 = .ok (.getfield 41, 3) := by decide +kernel
theorem dX8_workReady_25 : decode cX8_workReady 25 = .ok (.if_icmp .ge 139, 3) := by decide +kernel
theorem dX8_workReady_28 : decode cX8_workReady 28 = .ok (.aload_n 1, 1) := by decide +kernel
theorem dX8_workReady_29 : decode cX8_workReady 29 = .ok (.getfield 84, 3) := by decide +kernel
theorem dX8_workReady_32 : decode cX8_workReady 32 = .ok (.iload 4, 2) := by decide +kernel
theorem dX8_workReady_34 : decode cX8_workReady 34 = .ok (.iaload, 1) := by decide +kernel
theorem dX8_workReady_35 : decode cX8_workReady 35 = .ok (.istore 5, 2) := by decide +kernel
theorem dX8_workReady_37 : decode cX8_workReady 37 = .ok (.iload_n 2, 1) := by decide +kernel
theorem dX8_workReady_38 : decode cX8_workReady 38 = .ok (.iload 4, 2) := by decide +kernel
theorem dX8_workReady_40 : decode cX8_workReady 40 = .ok (.ishr, 1) := by decide +kernel
theorem dX8_workReady_41 : decode cX8_workReady 41 = .ok (.iconst 1, 1) := by decide +kernel
theorem dX8_workReady_42 : decode cX8_workReady 42 = .ok (.iand, 1) := by decide +kernel
theorem dX8_workReady_43 : decode cX8_workReady 43 = .ok (.ifCond .eq 115, 3) := by decide +kernel
theorem dX8_workReady_46 : decode cX8_workReady 46 = .ok (.iload_n 3, 1) := by decide +kernel
theorem dX8_workReady_47 : decode cX8_workReady 47 = .ok (.iload 5, 2) := by decide +kernel
theorem dX8_workReady_49 : decode cX8_workReady 49 = .ok (.ishr, 1) := by decide +kernel
theorem dX8_workReady_50 : decode cX8_workReady 50 = .ok (.iconst 1, 1) := by decide +kernel
theorem dX8_workReady_51 : decode cX8_workReady 51 = .ok (.iand, 1) := by decide +kernel
theorem dX8_workReady_52 : decode cX8_workReady 52 = .ok (.ifCond .ne 6, 3) := by decide +kernel
theorem dX8_workReady_55 : decode cX8_workReady 55 = .ok (.goto 103, 3) := by decide +kernel
theorem dX8_workReady_58 : decode cX8_workReady 58 = .ok (.aload_n 1, 1) := by decide +kernel
theorem dX8_workReady_59 : decode cX8_workReady 59 = .ok (.getfield 87, 3) := by decide +kernel
theorem dX8_workReady_62 : decode cX8_workReady 62 = .ok (.iload 4, 2) := by decide +kernel
theorem dX8_workReady_64 : decode cX8_workReady 64 = .ok (.ishr, 1) := by decide +kernel
theorem dX8_workReady_65 : decode cX8_workReady 65 = .ok (.iconst 1, 1) := by decide +kernel
theorem dX8_workReady_66 : decode cX8_workReady 66 = .ok (.iand, 1) := by decide +kernel
theorem dX8_workReady_67 : decode cX8_workReady 67 = .ok (.iconst 1, 1) := by decide +kernel
theorem dX8_workReady_68 : decode cX8_workReady 68 = .ok (.if_icmp .ne 49, 3) := by decide +kernel
theorem dX8_workReady_71 : decode cX8_workReady 71 = .ok (.aload_n 0, 1) := by decide +kernel
theorem dX8_workReady_72 : decode cX8_workReady 72 = .ok (.getfield 33, 3) := by decide +kernel
theorem dX8_workReady_75 : decode cX8_workReady 75 = .ok (.getfield 90, 3) := by decide +kernel
theorem dX8_workReady_78 : decode cX8_workReady 78 = .ok (.iload 4, 2) := by decide +kernel
theorem dX8_workReady_80 : decode cX8_workReady 80 = .ok (.iaload, 1) := by decide +kernel
theorem dX8_workReady_81 : decode cX8_workReady 81 = .ok (.istore 6, 2) := by decide +kernel
theorem dX8_workReady_83 : decode cX8_workReady 83 = .ok (.iload 6, 2) := by decide +kernel
theorem dX8_workReady_85 : decode cX8_workReady 85 = .ok (.iconst (-1), 1) := by decide +kernel
theorem dX8_workReady_86 : decode cX8_workReady 86 = .ok (.if_icmp .eq 28, 3) := by decide +kernel
theorem dX8_workReady_89 : decode cX8_workReady 89 = .ok (.iload_n 3, 1) := by decide +kernel
theorem dX8_workReady_90 : decode cX8_workReady 90 = .ok (.iload 6, 2) := by decide +kernel
theorem dX8_workReady_92 : decode cX8_workReady 92 = .ok (.ishr, 1) := by decide +kernel
theorem dX8_workReady_93 : decode cX8_workReady 93 = .ok (.iconst 1, 1) := by decide +kernel
theorem dX8_workReady_94 : decode cX8_workReady 94 = .ok (.iand, 1) := by decide +kernel
theorem dX8_workReady_95 : decode cX8_workReady 95 = .ok (.iconst 1, 1) := by decide +kernel
theorem dX8_workReady_96 : decode cX8_workReady 96 = .ok (.if_icmp .ne 18, 3) := by decide +kernel
theorem dX8_workReady_99 : decode cX8_workReady 99 = .ok (.aload_n 1, 1) := by decide +kernel
theorem dX8_workReady_100 : decode cX8_workReady 100 = .ok (.dup, 1) := by decide +kernel
theorem dX8_workReady_101 : decode cX8_workReady 101 = .ok (.getfield 87, 3) := by decide +kernel
theorem dX8_workReady_104 : decode cX8_workReady 104 = .ok (.iconst 1, 1) := by decide +kernel
theorem dX8_workReady_105 : decode cX8_workReady 105 = .ok (.iload 4, 2) := by decide +kernel
theorem dX8_workReady_107 : decode cX8_workReady 107 = .ok (.ishl, 1) := by decide +kernel
theorem dX8_workReady_108 : decode cX8_workReady 108 = .ok (.iconst (-1), 1) := by decide +kernel
theorem dX8_workReady_109 : decode cX8_workReady 109 = .ok (.ixor, 1) := by decide +kernel
theorem dX8_workReady_110 : decode cX8_workReady 110 = .ok (.iand, 1) := by decide +kernel
theorem dX8_workReady_111 : decode cX8_workReady 111 = .ok (.putfield 87, 3) := by decide +kernel
theorem dX8_workReady_114 : decode cX8_workReady 114 = .ok (.goto 44, 3) := by decide +kernel
theorem dX8_workReady_117 : decode cX8_workReady 117 = .ok (.aload_n 0, 1) := by decide +kernel
theorem dX8_workReady_118 : decode cX8_workReady 118 = .ok (.iload 4, 2) := by decide +kernel
theorem dX8_workReady_120 : decode cX8_workReady 120 = .ok (.iload 5, 2) := by decide +kernel
theorem dX8_workReady_122 : decode cX8_workReady 122 = .ok (.invokevirtual 93, 3) := by decide +kernel
theorem dX8_workReady_125 : decode cX8_workReady 125 = .ok (.ifCond .eq 33, 3) := by decide +kernel
theorem dX8_workReady_128 : decode cX8_workReady 128 = .ok (.aload_n 0, 1) := by decide +kernel
theorem dX8_workReady_129 : decode cX8_workReady 129 = .ok (.getfield 22, 3) := by decide +kernel
theorem dX8_workReady_132 : decode cX8_workReady 132 = .ok (.iload 5, 2) := by decide +kernel
theorem dX8_workReady_134 : decode cX8_workReady 134 = .ok (.iaload, 1) := by decide +kernel
theorem dX8_workReady_135 : decode cX8_workReady 135 = .ok (.aload_n 0, 1) := by decide +kernel
theorem dX8_workReady_136 : decode cX8_workReady 136 = .ok (.getfield 29, 3) := by decide +kernel
theorem dX8_workReady_139 : decode cX8_workReady 139 = .ok (.getfield 97, 3) := by decide +kernel
theorem dX8_workReady_142 : decode cX8_workReady 142 = .ok (.iload 5, 2) := by decide +kernel
theorem dX8_workReady_144 : decode cX8_workReady 144 = .ok (.aaload, 1) := by decide +kernel
theorem dX8_workReady_145 : decode cX8_workReady 145 = .ok (.getfield 101, 3) := by decide +kernel
theorem dX8_workReady_148 : decode cX8_workReady 148 = .ok (.if_icmp .ge 10, 3) := by decide +kernel
theorem dX8_workReady_151 : decode cX8_workReady 151 = .ok (.aload_n 0, 1) := by decide +kernel
theorem dX8_workReady_152 : decode cX8_workReady 152 = .ok (.aload_n 1, 1) := by decide +kernel
theorem dX8_workReady_153 : decode cX8_workReady 153 = .ok (.iload 4, 2) := by decide +kernel
theorem dX8_workReady_155 : decode cX8_workReady 155 = .ok (.invokevirtual 106, 3) := by decide +kernel
theorem dX8_workReady_158 : decode cX8_workReady 158 = .ok (.iinc 4 1, 3) := by decide +kernel
theorem dX8_workReady_161 : decode cX8_workReady 161 = .ok (.goto (-145), 3) := by decide +kernel
theorem dX8_workReady_164 : decode cX8_workReady 164 = .ok (.return_, 1) := by decide +kernel
theorem dX8_hourGoesBy_0 : decode cX8_hourGoesBy 0 = .ok (.aload_n 1, 1) := by decide +kernel
theorem dX8_hourGoesBy_1 : decode cX8_hourGoesBy 1 = .ok (.getfield 54, 3) := by decide +kernel
theorem dX8_hourGoesBy_4 : decode cX8_hourGoesBy 4 = .ok (.ifCond .lt 13, 3) := by decide +kernel
theorem dX8_hourGoesBy_7 : decode cX8_hourGoesBy 7 = .ok (.aload_n 1, 1) := by decide +kernel
theorem dX8_hourGoesBy_8 : decode cX8_hourGoesBy 8 = .ok (.getfield 54, 3) := by decide +kernel
theorem dX8_hourGoesBy_11 : decode cX8_hourGoesBy 11 = .ok (.sipush 2399, 3) := by decide +kernel
theorem dX8_hourGoesBy_14 : decode cX8_hourGoesBy 14 = .ok (.if_icmp .lt 4, 3) := by decide +kernel
theorem dX8_hourGoesBy_17 : decode cX8_hourGoesBy 17 = .ok (.return_, 1) := by decide +kernel
theorem dX8_hourGoesBy_18 : decode cX8_hourGoesBy 18 = .ok (.aload_n 0, 1) := by decide +kernel
theorem dX8_hourGoesBy_19 : decode cX8_hourGoesBy 19 = .ok (.aload_n 1, 1) := by decide +kernel
theorem dX8_hourGoesBy_20 : decode cX8_hourGoesBy 20 = .ok (.invokevirtual 57, 3) := by decide +kernel
theorem dX8_hourGoesBy_23 : decode cX8_hourGoesBy 23 = .ok (.istore_n 2, 1) := by decide +kernel
theorem dX8_hourGoesBy_24 : decode cX8_hourGoesBy 24 = .ok (.aload_n 0, 1) := by decide +kernel
theorem dX8_hourGoesBy_25 : decode cX8_hourGoesBy 25 = .ok (.getfield 29, 3) := by decide +kernel
theorem dX8_hourGoesBy_28 : decode cX8_hourGoesBy 28 = .ok (.getfield 61, 3) := by decide +kernel
theorem dX8_hourGoesBy_31 : decode cX8_hourGoesBy 31 = .ok (.aload_n 1, 1) := by decide +kernel
theorem dX8_hourGoesBy_32 : decode cX8_hourGoesBy 32 = .ok (.getfield 54, 3) := by decide +kernel
theorem dX8_hourGoesBy_35 : decode cX8_hourGoesBy 35 = .ok (.iaload, 1) := by decide +kernel
theorem dX8_hourGoesBy_36 : decode cX8_hourGoesBy 36 = .ok (.istore_n 3, 1) := by decide +kernel
theorem dX8_hourGoesBy_37 : decode cX8_hourGoesBy 37 = .ok (.iload_n 3, 1) := by decide +kernel
theorem dX8_hourGoesBy_38 : decode cX8_hourGoesBy 38 = .ok (.aload_n 0, 1) := by decide +kernel
theorem dX8_hourGoesBy_39 : decode cX8_hourGoesBy 39 = .ok (.getfield 29, 3) := by decide +kernel
theorem dX8_hourGoesBy_42 : decode cX8_hourGoesBy 42 = .ok (.getfield 61, 3) := by decide +kernel
theorem dX8_hourGoesBy_45 : decode cX8_hourGoesBy 45 = .ok (.aload_n 1, 1) := by decide +kernel
theorem dX8_hourGoesBy_46 : decode cX8_hourGoesBy 46 = .ok (.getfield 54, 3) := by decide +kernel
theorem dX8_hourGoesBy_49 : decode cX8_hourGoesBy 49 = .ok (.iconst 1, 1) := by decide +kernel
theorem dX8_hourGoesBy_50 : decode cX8_hourGoesBy 50 = .ok (.iadd, 1) := by decide +kernel
theorem dX8_hourGoesBy_51 : decode cX8_hourGoesBy 51 = .ok (.iaload, 1) := by decide +kernel
theorem dX8_hourGoesBy_52 : decode cX8_hourGoesBy 52 = .ok (.iconst (-1), 1) := by decide +kernel
theorem dX8_hourGoesBy_53 : decode cX8_hourGoesBy 53 = .ok (.ixor, 1) := by decide +kernel
theorem dX8_hourGoesBy_54 : decode cX8_hourGoesBy 54 = .ok (.iand, 1) := by decide +kernel
theorem dX8_hourGoesBy_55 : decode cX8_hourGoesBy 55 = .ok (.istore 4, 2) := by decide +kernel
theorem dX8_hourGoesBy_57 : decode cX8_hourGoesBy 57 = .ok (.aload_n 0, 1) := by decide +kernel
theorem dX8_hourGoesBy_58 : decode cX8_hourGoesBy 58 = .ok (.aload_n 1, 1) := by decide +kernel
theorem dX8_hourGoesBy_59 : decode cX8_hourGoesBy 59 = .ok (.iload_n 2, 1) := by decide +kernel
theorem dX8_hourGoesBy_60 : decode cX8_hourGoesBy 60 = .ok (.iload_n 3, 1) := by decide +kernel
theorem dX8_hourGoesBy_61 : decode cX8_hourGoesBy 61 = .ok (.invokevirtual 66, 3) := by decide +kernel
theorem dX8_hourGoesBy_64 : decode cX8_hourGoesBy 64 = .ok (.iload 4, 2) := by decide +kernel
theorem dX8_hourGoesBy_66 : decode cX8_hourGoesBy 66 = .ok (.ifCond .eq 35, 3) := by decide +kernel
theorem dX8_hourGoesBy_69 : decode cX8_hourGoesBy 69 = .ok (.aload_n 0, 1) := by decide +kernel
theorem dX8_hourGoesBy_70 : decode cX8_hourGoesBy 70 = .ok (.getfield 9, 3) := by decide +kernel
theorem dX8_hourGoesBy_73 : decode cX8_hourGoesBy 73 = .ok (.ifCond .eq 28, 3) := by decide +kernel
theorem dX8_hourGoesBy_76 : decode cX8_hourGoesBy 76 = .ok (.aload_n 0, 1) := by decide +kernel
theorem dX8_hourGoesBy_77 : decode cX8_hourGoesBy 77 = .ok (.getfield 37, 3) := by decide +kernel
theorem dX8_hourGoesBy_80 : decode cX8_hourGoesBy 80 = .ok (.getfield 70, 3) := by decide +kernel
theorem dX8_hourGoesBy_83 : decode cX8_hourGoesBy 83 = .ok (.ifCond .le 18, 3) := by decide +kernel
theorem dX8_hourGoesBy_86 : decode cX8_hourGoesBy 86 = .ok (.aload_n 0, 1) := by decide +kernel
theorem dX8_hourGoesBy_87 : decode cX8_hourGoesBy 87 = .ok (.aload_n 1, 1) := by decide +kernel
theorem dX8_hourGoesBy_88 : decode cX8_hourGoesBy 88 = .ok (.iload_n 2, 1) := by decide +kernel
theorem dX8_hourGoesBy_89 : decode cX8_hourGoesBy 89 = .ok (.aload_n 1, 1) := by decide +kernel
theorem dX8_hourGoesBy_90 : decode cX8_hourGoesBy 90 = .ok (.getfield 46, 3) := by decide +kernel
theorem dX8_hourGoesBy_93 : decode cX8_hourGoesBy 93 = .ok (.iconst (-1), 1) := by decide +kernel
theorem dX8_hourGoesBy_94 : decode cX8_hourGoesBy 94 = .ok (.ixor, 1) := by decide +kernel
theorem dX8_hourGoesBy_95 : decode cX8_hourGoesBy 95 = .ok (.iand, 1) := by decide +kernel
theorem dX8_hourGoesBy_96 : decode cX8_hourGoesBy 96 = .ok (.iload 4, 2) := by decide +kernel
theorem dX8_hourGoesBy_98 : decode cX8_hourGoesBy 98 = .ok (.invokevirtual 75, 3) := by decide +kernel
theorem dX8_hourGoesBy_101 : decode cX8_hourGoesBy 101 = .ok (.aload_n 1, 1) := by decide +kernel
theorem dX8_hourGoesBy_102 : decode cX8_hourGoesBy 102 = .ok (.dup, 1) := by decide +kernel
theorem dX8_hourGoesBy_103 : decode cX8_hourGoesBy 103 = .ok (.getfield 54, 3) := by decide +kernel
theorem dX8_hourGoesBy_106 : decode cX8_hourGoesBy 106 = .ok (.iconst 1, 1) := by decide +kernel
theorem dX8_hourGoesBy_107 : decode cX8_hourGoesBy 107 = .ok (.iadd, 1) := by decide +kernel
theorem dX8_hourGoesBy_108 : decode cX8_hourGoesBy 108 = .ok (.putfield 54, 3) := by decide +kernel
theorem dX8_hourGoesBy_111 : decode cX8_hourGoesBy 111 = .ok (.return_, 1) := by decide +kernel
theorem dX8_isHopeless_0 : decode cX8_isHopeless 0 = .ok (.aload_n 0, 1) := by decide +kernel
theorem dX8_isHopeless_1 : decode cX8_isHopeless 1 = .ok (.getfield 9, 3) := by decide +kernel
theorem dX8_isHopeless_4 : decode cX8_isHopeless 4 = .ok (.ifCond .eq 17, 3) := by decide +kernel
theorem dX8_isHopeless_7 : decode cX8_isHopeless 7 = .ok (.aload_n 0, 1) := by decide +kernel
theorem dX8_isHopeless_8 : decode cX8_isHopeless 8 = .ok (.getfield 37, 3) := by decide +kernel
theorem dX8_isHopeless_11 : decode cX8_isHopeless 11 = .ok (.getfield 70, 3) := by decide +kernel
theorem dX8_isHopeless_14 : decode cX8_isHopeless 14 = .ok (.ifCond .le 7, 3) := by decide +kernel
theorem dX8_isHopeless_17 : decode cX8_isHopeless 17 = .ok (.iconst 1, 1) := by decide +kernel
theorem dX8_isHopeless_18 : decode cX8_isHopeless 18 = .ok (.goto 4, 3) := by decide +kernel
theorem dX8_isHopeless_21 : decode cX8_isHopeless 21 = .ok (.iconst 0, 1) := by decide +kernel
theorem dX8_isHopeless_22 : decode cX8_isHopeless 22 = .ok (.istore_n 2, 1) := by decide +kernel
theorem dX8_isHopeless_23 : decode cX8_isHopeless 23 = .ok (.iconst 0, 1) := by decide +kernel
theorem dX8_isHopeless_24 : decode cX8_isHopeless 24 = .ok (.istore_n 3, 1) := by decide +kernel
theorem dX8_isHopeless_25 : decode cX8_isHopeless 25 = .ok (.iload_n 3, 1) := by decide +kernel
theorem dX8_isHopeless_26 : decode cX8_isHopeless 26 = .ok (.aload_n 0, 1) := by decide +kernel
theorem dX8_isHopeless_27 : decode cX8_isHopeless 27 = .ok (.getfield 33, 3) := by decide +kernel
theorem dX8_isHopeless_30 : decode cX8_isHopeless 30 = .ok (.getfield 41, 3) := by decide +kernel
theorem dX8_isHopeless_33 : decode cX8_isHopeless 33 = .ok (.if_icmp .ge 67, 3) := by decide +kernel
theorem dX8_isHopeless_36 : decode cX8_isHopeless 36 = .ok (.aload_n 0, 1) := by decide +kernel
theorem dX8_isHopeless_37 : decode cX8_isHopeless 37 = .ok (.getfield 29, 3) := by decide +kernel
theorem dX8_isHopeless_40 : decode cX8_isHopeless 40 = .ok (.aload_n 0, 1) := by decide +kernel
theorem dX8_isHopeless_41 : decode cX8_isHopeless 41 = .ok (.getfield 33, 3) := by decide +kernel
theorem dX8_isHopeless_44 : decode cX8_isHopeless 44 = .ok (.getfield 113, 3) := by decide +kernel
theorem dX8_isHopeless_47 : decode cX8_isHopeless 47 = .ok (.iload_n 3, 1) := by decide +kernel
theorem dX8_isHopeless_48 : decode cX8_isHopeless 48 = .ok (.iaload, 1) := by decide +kernel
theorem dX8_isHopeless_49 : decode cX8_isHopeless 49 = .ok (.invokevirtual 207, 3) := by decide +kernel
theorem dX8_isHopeless_52 : decode cX8_isHopeless 52 = .ok (.istore 4, 2) := by decide +kernel
theorem dX8_isHopeless_54 : decode cX8_isHopeless 54 = .ok (.iload_n 2, 1) := by decide +kernel
theorem dX8_isHopeless_55 : decode cX8_isHopeless 55 = .ok (.ifCond .eq 8, 3) := by decide +kernel
theorem dX8_isHopeless_58 : decode cX8_isHopeless 58 = .ok (.iload 4, 2) := by decide +kernel
theorem dX8_isHopeless_60 : decode cX8_isHopeless 60 = .ok (.goto 14, 3) := by decide +kernel
theorem dX8_isHopeless_63 : decode cX8_isHopeless 63 = .ok (.iload 4, 2) := by decide +kernel
theorem dX8_isHopeless_65 : decode cX8_isHopeless 65 = .ok (.iconst 1, 1) := by decide +kernel
theorem dX8_isHopeless_66 : decode cX8_isHopeless 66 = .ok (.aload_n 1, 1) := by decide +kernel
theorem dX8_isHopeless_67 : decode cX8_isHopeless 67 = .ok (.getfield 84, 3) := by decide +kernel
theorem dX8_isHopeless_70 : decode cX8_isHopeless 70 = .ok (.iload_n 3, 1) := by decide +kernel
theorem dX8_isHopeless_71 : decode cX8_isHopeless 71 = .ok (.iaload, 1) := by decide +kernel
theorem dX8_isHopeless_72 : decode cX8_isHopeless 72 = .ok (.ishl, 1) := by decide +kernel
theorem dX8_isHopeless_73 : decode cX8_isHopeless 73 = .ok (.iand, 1) := by decide +kernel
theorem dX8_isHopeless_74 : decode cX8_isHopeless 74 = .ok (.istore 5, 2) := by decide +kernel
theorem dX8_isHopeless_76 : decode cX8_isHopeless 76 = .ok (.aload_n 1, 1) := by decide +kernel
theorem dX8_isHopeless_77 : decode cX8_isHopeless 77 = .ok (.getfield 46, 3) := by decide +kernel
theorem dX8_isHopeless_80 : decode cX8_isHopeless 80 = .ok (.iload_n 3, 1) := by decide +kernel
theorem dX8_isHopeless_81 : decode cX8_isHopeless 81 = .ok (.ishr, 1) := by decide +kernel
theorem dX8_isHopeless_82 : decode cX8_isHopeless 82 = .ok (.iconst 1, 1) := by decide +kernel
theorem dX8_isHopeless_83 : decode cX8_isHopeless 83 = .ok (.iand, 1) := by decide +kernel
theorem dX8_isHopeless_84 : decode cX8_isHopeless 84 = .ok (.ifCond .ne 10, 3) := by decide +kernel
theorem dX8_isHopeless_87 : decode cX8_isHopeless 87 = .ok (.iload 5, 2) := by decide +kernel
theorem dX8_isHopeless_89 : decode cX8_isHopeless 89 = .ok (.ifCond .ne 5, 3) := by decide +kernel
theorem dX8_isHopeless_92 : decode cX8_isHopeless 92 = .ok (.iconst 1, 1) := by decide +kernel
theorem dX8_isHopeless_93 : decode cX8_isHopeless 93 = .ok (.ireturn, 1) := by decide +kernel
theorem dX8_isHopeless_94 : decode cX8_isHopeless 94 = .ok (.iinc 3 1, 3) := by decide +kernel
theorem dX8_isHopeless_97 : decode cX8_isHopeless 97 = .ok (.goto (-72), 3) := by decide +kernel
theorem dX8_isHopeless_100 : decode cX8_isHopeless 100 = .ok (.iconst 0, 1) := by decide +kernel
theorem dX8_isHopeless_101 : decode cX8_isHopeless 101 = .ok (.ireturn, 1) := by decide +kernel
theorem dX8_runToEnd_0 : decode cX8_runToEnd 0 = .ok (.aload_n 0, 1) := by decide +kernel
theorem dX8_runToEnd_1 : decode cX8_runToEnd 1 = .ok (.getfield 33, 3) := by decide +kernel
theorem dX8_runToEnd_4 : decode cX8_runToEnd 4 = .ok (.invokevirtual 196, 3) := by decide +kernel
theorem dX8_runToEnd_7 : decode cX8_runToEnd 7 = .ok (.istore_n 3, 1) := by decide +kernel
theorem dX8_runToEnd_8 : decode cX8_runToEnd 8 = .ok (.aload_n 0, 1) := by decide +kernel
theorem dX8_runToEnd_9 : decode cX8_runToEnd 9 = .ok (.aload_n 1, 1) := by decide +kernel
theorem dX8_runToEnd_10 : decode cX8_runToEnd 10 = .ok (.invokevirtual 199, 3) := by decide +kernel
theorem dX8_runToEnd_13 : decode cX8_runToEnd 13 = .ok (.ifCond .eq 6, 3) := by decide +kernel
theorem dX8_runToEnd_16 : decode cX8_runToEnd 16 = .ok (.bipush (-2), 2) := by decide +kernel
theorem dX8_runToEnd_18 : decode cX8_runToEnd 18 = .ok (.ireturn, 1) := by decide +kernel
theorem dX8_runToEnd_19 : decode cX8_runToEnd 19 = .ok (.aload_n 1, 1) := by decide +kernel
theorem dX8_runToEnd_20 : decode cX8_runToEnd 20 = .ok (.getfield 54, 3) := by decide +kernel
theorem dX8_runToEnd_23 : decode cX8_runToEnd 23 = .ok (.istore 4, 2) := by decide +kernel
theorem dX8_runToEnd_25 : decode cX8_runToEnd 25 = .ok (.iload 4, 2) := by decide +kernel
theorem dX8_runToEnd_27 : decode cX8_runToEnd 27 = .ok (.iload_n 2, 1) := by decide +kernel
theorem dX8_runToEnd_28 : decode cX8_runToEnd 28 = .ok (.if_icmp .ge 30, 3) := by decide +kernel
theorem dX8_runToEnd_31 : decode cX8_runToEnd 31 = .ok (.iload 4, 2) := by decide +kernel
theorem dX8_runToEnd_33 : decode cX8_runToEnd 33 = .ok (.sipush 2399, 3) := by decide +kernel
theorem dX8_runToEnd_36 : decode cX8_runToEnd 36 = .ok (.if_icmp .ge 22, 3) := by decide +kernel
theorem dX8_runToEnd_39 : decode cX8_runToEnd 39 = .ok (.aload_n 1, 1) := by decide +kernel
theorem dX8_runToEnd_40 : decode cX8_runToEnd 40 = .ok (.getfield 46, 3) := by decide +kernel
theorem dX8_runToEnd_43 : decode cX8_runToEnd 43 = .ok (.iload_n 3, 1) := by decide +kernel
theorem dX8_runToEnd_44 : decode cX8_runToEnd 44 = .ok (.if_icmp .eq 14, 3) := by decide +kernel
theorem dX8_runToEnd_47 : decode cX8_runToEnd 47 = .ok (.aload_n 0, 1) := by decide +kernel
theorem dX8_runToEnd_48 : decode cX8_runToEnd 48 = .ok (.aload_n 1, 1) := by decide +kernel
theorem dX8_runToEnd_49 : decode cX8_runToEnd 49 = .ok (.invokevirtual 203, 3) := by decide +kernel
theorem dX8_runToEnd_52 : decode cX8_runToEnd 52 = .ok (.iinc 4 1, 3) := by decide +kernel
theorem dX8_runToEnd_55 : decode cX8_runToEnd 55 = .ok (.goto (-30), 3) := by decide +kernel
theorem dX8_runToEnd_58 : decode cX8_runToEnd 58 = .ok (.aload_n 1, 1) := by decide +kernel
theorem dX8_runToEnd_59 : decode cX8_runToEnd 59 = .ok (.getfield 46, 3) := by decide +kernel
theorem dX8_runToEnd_62 : decode cX8_runToEnd 62 = .ok (.iload_n 3, 1) := by decide +kernel
theorem dX8_runToEnd_63 : decode cX8_runToEnd 63 = .ok (.if_icmp .ne 10, 3) := by decide +kernel
theorem dX8_runToEnd_66 : decode cX8_runToEnd 66 = .ok (.aload_n 1, 1) := by decide +kernel
theorem dX8_runToEnd_67 : decode cX8_runToEnd 67 = .ok (.getfield 54, 3) := by decide +kernel
theorem dX8_runToEnd_70 : decode cX8_runToEnd 70 = .ok (.goto 5, 3) := by decide +kernel
theorem dX8_runToEnd_73 : decode cX8_runToEnd 73 = .ok (.bipush (-2), 2) := by decide +kernel
theorem dX8_runToEnd_75 : decode cX8_runToEnd 75 = .ok (.ireturn, 1) := by decide +kernel
theorem dX8_idleThough_0 : decode cX8_idleThough 0 = .ok (.iconst 0, 1) := by decide +kernel
theorem dX8_idleThough_1 : decode cX8_idleThough 1 = .ok (.istore_n 3, 1) := by decide +kernel
theorem dX8_idleThough_2 : decode cX8_idleThough 2 = .ok (.iload_n 3, 1) := by decide +kernel
theorem dX8_idleThough_3 : decode cX8_idleThough 3 = .ok (.aload_n 0, 1) := by decide +kernel
theorem dX8_idleThough_4 : decode cX8_idleThough 4 = .ok (.getfield 33, 3) := by decide +kernel
theorem dX8_idleThough_7 : decode cX8_idleThough 7 = .ok (.getfield 41, 3) := by decide +kernel
theorem dX8_idleThough_10 : decode cX8_idleThough 10 = .ok (.if_icmp .ge 110, 3) := by decide +kernel
theorem dX8_idleThough_13 : decode cX8_idleThough 13 = .ok (.iconst 0, 1) := by decide +kernel
theorem dX8_idleThough_14 : decode cX8_idleThough 14 = .ok (.istore 4, 2) := by decide +kernel
theorem dX8_idleThough_16 : decode cX8_idleThough 16 = .ok (.iload 4, 2) := by decide +kernel
theorem dX8_idleThough_18 : decode cX8_idleThough 18 = .ok (.aload_n 0, 1) := by decide +kernel
theorem dX8_idleThough_19 : decode cX8_idleThough 19 = .ok (.getfield 29, 3) := by decide +kernel
theorem dX8_idleThough_22 : decode cX8_idleThough 22 = .ok (.getfield 139, 3) := by decide +kernel
theorem dX8_idleThough_25 : decode cX8_idleThough 25 = .ok (.if_icmp .ge 89, 3) := by decide +kernel
theorem dX8_idleThough_28 : decode cX8_idleThough 28 = .ok (.iload_n 1, 1) := by decide +kernel
theorem dX8_idleThough_29 : decode cX8_idleThough 29 = .ok (.iload_n 3, 1) := by decide +kernel
theorem dX8_idleThough_30 : decode cX8_idleThough 30 = .ok (.ishr, 1) := by decide +kernel
theorem dX8_idleThough_31 : decode cX8_idleThough 31 = .ok (.iconst 1, 1) := by decide +kernel
theorem dX8_idleThough_32 : decode cX8_idleThough 32 = .ok (.iand, 1) := by decide +kernel
theorem dX8_idleThough_33 : decode cX8_idleThough 33 = .ok (.iconst 1, 1) := by decide +kernel
theorem dX8_idleThough_34 : decode cX8_idleThough 34 = .ok (.if_icmp .ne 80, 3) := by decide +kernel
theorem dX8_idleThough_37 : decode cX8_idleThough 37 = .ok (.aload_n 0, 1) := by decide +kernel
theorem dX8_idleThough_38 : decode cX8_idleThough 38 = .ok (.getfield 29, 3) := by decide +kernel
theorem dX8_idleThough_41 : decode cX8_idleThough 41 = .ok (.getfield 61, 3) := by decide +kernel
theorem dX8_idleThough_44 : decode cX8_idleThough 44 = .ok (.iload_n 2, 1) := by decide +kernel
theorem dX8_idleThough_45 : decode cX8_idleThough 45 = .ok (.iaload, 1) := by decide +kernel
theorem dX8_idleThough_46 : decode cX8_idleThough 46 = .ok (.iload 4, 2) := by decide +kernel
theorem dX8_idleThough_48 : decode cX8_idleThough 48 = .ok (.ishr, 1) := by decide +kernel
theorem dX8_idleThough_49 : decode cX8_idleThough 49 = .ok (.iconst 1, 1) := by decide +kernel
theorem dX8_idleThough_50 : decode cX8_idleThough 50 = .ok (.iand, 1) := by decide +kernel
theorem dX8_idleThough_51 : decode cX8_idleThough 51 = .ok (.iconst 1, 1) := by decide +kernel
theorem dX8_idleThough_52 : decode cX8_idleThough 52 = .ok (.if_icmp .ne 7, 3) := by decide +kernel
theorem dX8_idleThough_55 : decode cX8_idleThough 55 = .ok (.iconst 1, 1) := by decide +kernel
theorem dX8_idleThough_56 : decode cX8_idleThough 56 = .ok (.goto 4, 3) := by decide +kernel
theorem dX8_idleThough_59 : decode cX8_idleThough 59 = .ok (.iconst 0, 1) := by decide +kernel
theorem dX8_idleThough_60 : decode cX8_idleThough 60 = .ok (.istore 5, 2) := by decide +kernel
theorem dX8_idleThough_62 : decode cX8_idleThough 62 = .ok (.iload 5, 2) := by decide +kernel
theorem dX8_idleThough_64 : decode cX8_idleThough 64 = .ok (.ifCond .eq 44, 3) := by decide +kernel
theorem dX8_idleThough_67 : decode cX8_idleThough 67 = .ok (.aload_n 0, 1) := by decide +kernel
theorem dX8_idleThough_68 : decode cX8_idleThough 68 = .ok (.iload_n 3, 1) := by decide +kernel
theorem dX8_idleThough_69 : decode cX8_idleThough 69 = .ok (.iload 4, 2) := by decide +kernel
theorem dX8_idleThough_71 : decode cX8_idleThough 71 = .ok (.invokevirtual 93, 3) := by decide +kernel
theorem dX8_idleThough_74 : decode cX8_idleThough 74 = .ok (.ifCond .eq 34, 3) := by decide +kernel
theorem dX8_idleThough_77 : decode cX8_idleThough 77 = .ok (.aload_n 0, 1) := by decide +kernel
theorem dX8_idleThough_78 : decode cX8_idleThough 78 = .ok (.getfield 22, 3) := by decide +kernel
theorem dX8_idleThough_81 : decode cX8_idleThough 81 = .ok (.iload 4, 2) := by decide +kernel
theorem dX8_idleThough_83 : decode cX8_idleThough 83 = .ok (.iaload, 1) := by decide +kernel
theorem dX8_idleThough_84 : decode cX8_idleThough 84 = .ok (.aload_n 0, 1) := by decide +kernel
theorem dX8_idleThough_85 : decode cX8_idleThough 85 = .ok (.getfield 29, 3) := by decide +kernel
theorem dX8_idleThough_88 : decode cX8_idleThough 88 = .ok (.getfield 97, 3) := by decide +kernel
theorem dX8_idleThough_91 : decode cX8_idleThough 91 = .ok (.iload 4, 2) := by decide +kernel
theorem dX8_idleThough_93 : decode cX8_idleThough 93 = .ok (.aaload, 1) := by decide +kernel
theorem dX8_idleThough_94 : decode cX8_idleThough 94 = .ok (.getfield 101, 3) := by decide +kernel
theorem dX8_idleThough_97 : decode cX8_idleThough 97 = .ok (.if_icmp .ge 11, 3) := by decide +kernel
theorem dX8_idleThough_100 : decode cX8_idleThough 100 = .ok (.iload_n 3, 1) := by decide +kernel
theorem dX8_idleThough_101 : decode cX8_idleThough 101 = .ok (.bipush 6, 2) := by decide +kernel
theorem dX8_idleThough_103 : decode cX8_idleThough 103 = .ok (.imul, 1) := by decide +kernel
theorem dX8_idleThough_104 : decode cX8_idleThough 104 = .ok (.iload 4, 2) := by decide +kernel
theorem dX8_idleThough_106 : decode cX8_idleThough 106 = .ok (.iadd, 1) := by decide +kernel
theorem dX8_idleThough_107 : decode cX8_idleThough 107 = .ok (.ireturn, 1) := by decide +kernel
theorem dX8_idleThough_108 : decode cX8_idleThough 108 = .ok (.iinc 4 1, 3) := by decide +kernel
theorem dX8_idleThough_111 : decode cX8_idleThough 111 = .ok (.goto (-95), 3) := by decide +kernel
theorem dX8_idleThough_114 : decode cX8_idleThough 114 = .ok (.iinc 3 1, 3) := by decide +kernel
theorem dX8_idleThough_117 : decode cX8_idleThough 117 = .ok (.goto (-115), 3) := by decide +kernel
theorem dX8_idleThough_120 : decode cX8_idleThough 120 = .ok (.iconst (-1), 1) := by decide +kernel
theorem dX8_idleThough_121 : decode cX8_idleThough 121 = .ok (.ireturn, 1) := by decide +kernel
theorem dX8_doneAlone_0 : decode cX8_doneAlone 0 = .ok (.aload_n 0, 1) := by decide +kernel
theorem dX8_doneAlone_1 : decode cX8_doneAlone 1 = .ok (.iconst 0, 1) := by decide +kernel
theorem dX8_doneAlone_2 : decode cX8_doneAlone 2 = .ok (.putfield 26, 3) := by decide +kernel
theorem dX8_doneAlone_5 : decode cX8_doneAlone 5 = .ok (.aload_n 0, 1) := by decide +kernel
theorem dX8_doneAlone_6 : decode cX8_doneAlone 6 = .ok (.iload_n 1, 1) := by decide +kernel
theorem dX8_doneAlone_7 : decode cX8_doneAlone 7 = .ok (.iload_n 2, 1) := by decide +kernel
theorem dX8_doneAlone_8 : decode cX8_doneAlone 8 = .ok (.invokevirtual 93, 3) := by decide +kernel
theorem dX8_doneAlone_11 : decode cX8_doneAlone 11 = .ok (.ifCond .ne 6, 3) := by decide +kernel
theorem dX8_doneAlone_14 : decode cX8_doneAlone 14 = .ok (.bipush (-2), 2) := by decide +kernel
theorem dX8_doneAlone_16 : decode cX8_doneAlone 16 = .ok (.ireturn, 1) := by decide +kernel
theorem dX8_doneAlone_17 : decode cX8_doneAlone 17 = .ok (.aload_n 0, 1) := by decide +kernel
theorem dX8_doneAlone_18 : decode cX8_doneAlone 18 = .ok (.getfield 33, 3) := by decide +kernel
theorem dX8_doneAlone_21 : decode cX8_doneAlone 21 = .ok (.getfield 90, 3) := by decide +kernel
theorem dX8_doneAlone_24 : decode cX8_doneAlone 24 = .ok (.iload_n 1, 1) := by decide +kernel
theorem dX8_doneAlone_25 : decode cX8_doneAlone 25 = .ok (.iaload, 1) := by decide +kernel
theorem dX8_doneAlone_26 : decode cX8_doneAlone 26 = .ok (.istore 5, 2) := by decide +kernel
theorem dX8_doneAlone_28 : decode cX8_doneAlone 28 = .ok (.aload_n 0, 1) := by decide +kernel
theorem dX8_doneAlone_29 : decode cX8_doneAlone 29 = .ok (.getfield 33, 3) := by decide +kernel
theorem dX8_doneAlone_32 : decode cX8_doneAlone 32 = .ok (.getfield 211, 3) := by decide +kernel
theorem dX8_doneAlone_35 : decode cX8_doneAlone 35 = .ok (.iload_n 1, 1) := by decide +kernel
theorem dX8_doneAlone_36 : decode cX8_doneAlone 36 = .ok (.iaload, 1) := by decide +kernel
theorem dX8_doneAlone_37 : decode cX8_doneAlone 37 = .ok (.istore 6, 2) := by decide +kernel
theorem dX8_doneAlone_39 : decode cX8_doneAlone 39 = .ok (.iconst 0, 1) := by decide +kernel
theorem dX8_doneAlone_40 : decode cX8_doneAlone 40 = .ok (.istore 7, 2) := by decide +kernel
theorem dX8_doneAlone_42 : decode cX8_doneAlone 42 = .ok (.iconst 0, 1) := by decide +kernel
theorem dX8_doneAlone_43 : decode cX8_doneAlone 43 = .ok (.istore 8, 2) := by decide +kernel
theorem dX8_doneAlone_45 : decode cX8_doneAlone 45 = .ok (.iload_n 3, 1) := by decide +kernel
theorem dX8_doneAlone_46 : decode cX8_doneAlone 46 = .ok (.istore 9, 2) := by decide +kernel
theorem dX8_doneAlone_48 : decode cX8_doneAlone 48 = .ok (.iload 9, 2) := by decide +kernel
theorem dX8_doneAlone_50 : decode cX8_doneAlone 50 = .ok (.iload 4, 2) := by decide +kernel
theorem dX8_doneAlone_52 : decode cX8_doneAlone 52 = .ok (.if_icmp .ge 149, 3) := by decide +kernel
theorem dX8_doneAlone_55 : decode cX8_doneAlone 55 = .ok (.aload_n 0, 1) := by decide +kernel
theorem dX8_doneAlone_56 : decode cX8_doneAlone 56 = .ok (.getfield 29, 3) := by decide +kernel
theorem dX8_doneAlone_59 : decode cX8_doneAlone 59 = .ok (.getfield 61, 3) := by decide +kernel
theorem dX8_doneAlone_62 : decode cX8_doneAlone 62 = .ok (.iload 9, 2) := by decide +kernel
theorem dX8_doneAlone_64 : decode cX8_doneAlone 64 = .ok (.iaload, 1) := by decide +kernel
theorem dX8_doneAlone_65 : decode cX8_doneAlone 65 = .ok (.iload_n 2, 1) := by decide +kernel
theorem dX8_doneAlone_66 : decode cX8_doneAlone 66 = .ok (.ishr, 1) := by decide +kernel
theorem dX8_doneAlone_67 : decode cX8_doneAlone 67 = .ok (.iconst 1, 1) := by decide +kernel
theorem dX8_doneAlone_68 : decode cX8_doneAlone 68 = .ok (.iand, 1) := by decide +kernel
theorem dX8_doneAlone_69 : decode cX8_doneAlone 69 = .ok (.iconst 1, 1) := by decide +kernel
theorem dX8_doneAlone_70 : decode cX8_doneAlone 70 = .ok (.if_icmp .ne 7, 3) := by decide +kernel
theorem dX8_doneAlone_73 : decode cX8_doneAlone 73 = .ok (.iconst 1, 1) := by decide +kernel
theorem dX8_doneAlone_74 : decode cX8_doneAlone 74 = .ok (.goto 4, 3) := by decide +kernel
theorem dX8_doneAlone_77 : decode cX8_doneAlone 77 = .ok (.iconst 0, 1) := by decide +kernel
theorem dX8_doneAlone_78 : decode cX8_doneAlone 78 = .ok (.istore 10, 2) := by decide +kernel
theorem dX8_doneAlone_80 : decode cX8_doneAlone 80 = .ok (.iload 8, 2) := by decide +kernel
theorem dX8_doneAlone_82 : decode cX8_doneAlone 82 = .ok (.ifCond .eq 52, 3) := by decide +kernel
theorem dX8_doneAlone_85 : decode cX8_doneAlone 85 = .ok (.aload_n 0, 1) := by decide +kernel
theorem dX8_doneAlone_86 : decode cX8_doneAlone 86 = .ok (.dup, 1) := by decide +kernel
theorem dX8_doneAlone_87 : decode cX8_doneAlone 87 = .ok (.getfield 26, 3) := by decide +kernel
theorem dX8_doneAlone_90 : decode cX8_doneAlone 90 = .ok (.iconst 1, 1) := by decide +kernel
theorem dX8_doneAlone_91 : decode cX8_doneAlone 91 = .ok (.iadd, 1) := by decide +kernel
theorem dX8_doneAlone_92 : decode cX8_doneAlone 92 = .ok (.putfield 26, 3) := by decide +kernel
theorem dX8_doneAlone_95 : decode cX8_doneAlone 95 = .ok (.iload 10, 2) := by decide +kernel
theorem dX8_doneAlone_97 : decode cX8_doneAlone 97 = .ok (.ifCond .eq 27, 3) := by decide +kernel
theorem dX8_doneAlone_100 : decode cX8_doneAlone 100 = .ok (.iload 5, 2) := by decide +kernel
theorem dX8_doneAlone_102 : decode cX8_doneAlone 102 = .ok (.iconst (-1), 1) := by decide +kernel
theorem dX8_doneAlone_103 : decode cX8_doneAlone 103 = .ok (.if_icmp .eq 21, 3) := by decide +kernel
theorem dX8_doneAlone_106 : decode cX8_doneAlone 106 = .ok (.aload_n 0, 1) := by decide +kernel
theorem dX8_doneAlone_107 : decode cX8_doneAlone 107 = .ok (.getfield 29, 3) := by decide +kernel
theorem dX8_doneAlone_110 : decode cX8_doneAlone 110 = .ok (.getfield 61, 3) := by decide +kernel
theorem dX8_doneAlone_113 : decode cX8_doneAlone 113 = .ok (.iload 9, 2) := by decide +kernel
theorem dX8_doneAlone_115 : decode cX8_doneAlone 115 = .ok (.iaload, 1) := by decide +kernel
theorem dX8_doneAlone_116 : decode cX8_doneAlone 116 = .ok (.iload 5, 2) := by decide +kernel
theorem dX8_doneAlone_118 : decode cX8_doneAlone 118 = .ok (.ishr, 1) := by decide +kernel
theorem dX8_doneAlone_119 : decode cX8_doneAlone 119 = .ok (.iconst 1, 1) := by decide +kernel
theorem dX8_doneAlone_120 : decode cX8_doneAlone 120 = .ok (.iand, 1) := by decide +kernel
theorem dX8_doneAlone_121 : decode cX8_doneAlone 121 = .ok (.ifCond .ne 7, 3) := by decide +kernel
theorem dX8_doneAlone_124 : decode cX8_doneAlone 124 = .ok (.iconst 1, 1) := by decide +kernel
theorem dX8_doneAlone_125 : decode cX8_doneAlone 125 = .ok (.goto 4, 3) := by decide +kernel
theorem dX8_doneAlone_128 : decode cX8_doneAlone 128 = .ok (.iconst 0, 1) := by decide +kernel
theorem dX8_doneAlone_129 : decode cX8_doneAlone 129 = .ok (.istore 8, 2) := by decide +kernel
theorem dX8_doneAlone_131 : decode cX8_doneAlone 131 = .ok (.goto 64, 3) := by decide +kernel
theorem dX8_doneAlone_134 : decode cX8_doneAlone 134 = .ok (.iload 10, 2) := by decide +kernel
theorem dX8_doneAlone_136 : decode cX8_doneAlone 136 = .ok (.ifCond .eq 59, 3) := by decide +kernel
theorem dX8_doneAlone_139 : decode cX8_doneAlone 139 = .ok (.iinc 6 (-1), 3) := by decide +kernel
theorem dX8_doneAlone_142 : decode cX8_doneAlone 142 = .ok (.iinc 7 1, 3) := by decide +kernel
theorem dX8_doneAlone_145 : decode cX8_doneAlone 145 = .ok (.iload 6, 2) := by decide +kernel
theorem dX8_doneAlone_147 : decode cX8_doneAlone 147 = .ok (.ifCond .ne 8, 3) := by decide +kernel
theorem dX8_doneAlone_150 : decode cX8_doneAlone 150 = .ok (.iload 9, 2) := by decide +kernel
theorem dX8_doneAlone_152 : decode cX8_doneAlone 152 = .ok (.iconst 1, 1) := by decide +kernel
theorem dX8_doneAlone_153 : decode cX8_doneAlone 153 = .ok (.iadd, 1) := by decide +kernel
theorem dX8_doneAlone_154 : decode cX8_doneAlone 154 = .ok (.ireturn, 1) := by decide +kernel
theorem dX8_doneAlone_155 : decode cX8_doneAlone 155 = .ok (.iload 5, 2) := by decide +kernel
theorem dX8_doneAlone_157 : decode cX8_doneAlone 157 = .ok (.iconst (-1), 1) := by decide +kernel
theorem dX8_doneAlone_158 : decode cX8_doneAlone 158 = .ok (.if_icmp .eq 21, 3) := by decide +kernel
theorem dX8_doneAlone_161 : decode cX8_doneAlone 161 = .ok (.iload 7, 2) := by decide +kernel
theorem dX8_doneAlone_163 : decode cX8_doneAlone 163 = .ok (.aload_n 0, 1) := by decide +kernel
theorem dX8_doneAlone_164 : decode cX8_doneAlone 164 = .ok (.getfield 33, 3) := by decide +kernel
theorem dX8_doneAlone_167 : decode cX8_doneAlone 167 = .ok (.getfield 132, 3) := by decide +kernel
theorem dX8_doneAlone_170 : decode cX8_doneAlone 170 = .ok (.iload_n 1, 1) := by decide +kernel
theorem dX8_doneAlone_171 : decode cX8_doneAlone 171 = .ok (.iaload, 1) := by decide +kernel
theorem dX8_doneAlone_172 : decode cX8_doneAlone 172 = .ok (.if_icmp .ne 7, 3) := by decide +kernel
theorem dX8_doneAlone_175 : decode cX8_doneAlone 175 = .ok (.iconst 1, 1) := by decide +kernel
theorem dX8_doneAlone_176 : decode cX8_doneAlone 176 = .ok (.goto 4, 3) := by decide +kernel
theorem dX8_doneAlone_179 : decode cX8_doneAlone 179 = .ok (.iconst 0, 1) := by decide +kernel
theorem dX8_doneAlone_180 : decode cX8_doneAlone 180 = .ok (.istore 8, 2) := by decide +kernel
theorem dX8_doneAlone_182 : decode cX8_doneAlone 182 = .ok (.iload 8, 2) := by decide +kernel
theorem dX8_doneAlone_184 : decode cX8_doneAlone 184 = .ok (.ifCond .eq 7, 3) := by decide +kernel
theorem dX8_doneAlone_187 : decode cX8_doneAlone 187 = .ok (.iconst 0, 1) := by decide +kernel
theorem dX8_doneAlone_188 : decode cX8_doneAlone 188 = .ok (.goto 5, 3) := by decide +kernel
theorem dX8_doneAlone_191 : decode cX8_doneAlone 191 = .ok (.iload 7, 2) := by decide +kernel
theorem dX8_doneAlone_193 : decode cX8_doneAlone 193 = .ok (.istore 7, 2) := by decide +kernel
theorem dX8_doneAlone_195 : decode cX8_doneAlone 195 = .ok (.iinc 9 1, 3) := by decide +kernel
theorem dX8_doneAlone_198 : decode cX8_doneAlone 198 = .ok (.goto (-150), 3) := by decide +kernel
theorem dX8_doneAlone_201 : decode cX8_doneAlone 201 = .ok (.bipush (-2), 2) := by decide +kernel
theorem dX8_doneAlone_203 : decode cX8_doneAlone 203 = .ok (.ireturn, 1) := by decide +kernel
theorem dX9_branch_0 : decode cX9_branch 0 = .ok (.iconst 0, 1) := by decide +kernel
theorem dX9_branch_1 : decode cX9_branch 1 = .ok (.istore_n 3, 1) := by decide +kernel
theorem dX9_branch_2 : decode cX9_branch 2 = .ok (.iload_n 3, 1) := by decide +kernel
theorem dX9_branch_3 : decode cX9_branch 3 = .ok (.aload_n 0, 1) := by decide +kernel
theorem dX9_branch_4 : decode cX9_branch 4 = .ok (.getfield 37, 3) := by decide +kernel
theorem dX9_branch_7 : decode cX9_branch 7 = .ok (.getfield 45, 3) := by decide +kernel
theorem dX9_branch_10 : decode cX9_branch 10 = .ok (.if_icmp .ge 69, 3) := by decide +kernel
theorem dX9_branch_13 : decode cX9_branch 13 = .ok (.aload_n 0, 1) := by decide +kernel
theorem dX9_branch_14 : decode cX9_branch 14 = .ok (.getfield 21, 3) := by decide +kernel
theorem dX9_branch_17 : decode cX9_branch 17 = .ok (.sipush 156, 3) := by decide +kernel
theorem dX9_branch_20 : decode cX9_branch 20 = .ok (.if_icmp .ge 59, 3) := by decide +kernel
theorem dX9_branch_23 : decode cX9_branch 23 = .ok (.iload_n 3, 1) := by decide +kernel
theorem dX9_branch_24 : decode cX9_branch 24 = .ok (.aload_n 0, 1) := by decide +kernel
theorem dX9_branch_25 : decode cX9_branch 25 = .ok (.getfield 15, 3) := by decide +kernel
theorem dX9_branch_28 : decode cX9_branch 28 = .ok (.iload_n 1, 1) := by decide +kernel
theorem dX9_branch_29 : decode cX9_branch 29 = .ok (.iaload, 1) := by decide +kernel
theorem dX9_branch_30 : decode cX9_branch 30 = .ok (.if_icmp .eq 43, 3) := by decide +kernel
theorem dX9_branch_33 : decode cX9_branch 33 = .ok (.aload_n 0, 1) := by decide +kernel
theorem dX9_branch_34 : decode cX9_branch 34 = .ok (.getfield 9, 3) := by decide +kernel
theorem dX9_branch_37 : decode cX9_branch 37 = .ok (.aload_n 0, 1) := by decide +kernel
theorem dX9_branch_38 : decode cX9_branch 38 = .ok (.getfield 21, 3) := by decide +kernel
theorem dX9_branch_41 : decode cX9_branch 41 = .ok (.iload_n 1, 1) := by decide +kernel
theorem dX9_branch_42 : decode cX9_branch 42 = .ok (.iastore, 1) := by decide +kernel
theorem dX9_branch_43 : decode cX9_branch 43 = .ok (.aload_n 0, 1) := by decide +kernel
theorem dX9_branch_44 : decode cX9_branch 44 = .ok (.getfield 15, 3) := by decide +kernel
theorem dX9_branch_47 : decode cX9_branch 47 = .ok (.aload_n 0, 1) := by decide +kernel
theorem dX9_branch_48 : decode cX9_branch 48 = .ok (.getfield 21, 3) := by decide +kernel
theorem dX9_branch_51 : decode cX9_branch 51 = .ok (.iload_n 3, 1) := by decide +kernel
theorem dX9_branch_52 : decode cX9_branch 52 = .ok (.iastore, 1) := by decide +kernel
theorem dX9_branch_53 : decode cX9_branch 53 = .ok (.aload_n 0, 1) := by decide +kernel
theorem dX9_branch_54 : decode cX9_branch 54 = .ok (.getfield 18, 3) := by decide +kernel
theorem dX9_branch_57 : decode cX9_branch 57 = .ok (.aload_n 0, 1) := by decide +kernel
theorem dX9_branch_58 : decode cX9_branch 58 = .ok (.getfield 21, 3) := by decide +kernel
theorem dX9_branch_61 : decode cX9_branch 61 = .ok (.iload_n 2, 1) := by decide +kernel
theorem dX9_branch_62 : decode cX9_branch 62 = .ok (.iastore, 1) := by decide +kernel
theorem dX9_branch_63 : decode cX9_branch 63 = .ok (.aload_n 0, 1) := by decide +kernel
theorem dX9_branch_64 : decode cX9_branch 64 = .ok (.dup, 1) := by decide +kernel
theorem dX9_branch_65 : decode cX9_branch 65 = .ok (.getfield 21, 3) := by decide +kernel
theorem dX9_branch_68 : decode cX9_branch 68 = .ok (.iconst 1, 1) := by decide +kernel
theorem dX9_branch_69 : decode cX9_branch 69 = .ok (.iadd, 1) := by decide +kernel
theorem dX9_branch_70 : decode cX9_branch 70 = .ok (.putfield 21, 3) := by decide +kernel
theorem dX9_branch_73 : decode cX9_branch 73 = .ok (.iinc 3 1, 3) := by decide +kernel
theorem dX9_branch_76 : decode cX9_branch 76 = .ok (.goto (-74), 3) := by decide +kernel
theorem dX9_branch_79 : decode cX9_branch 79 = .ok (.return_, 1) := by decide +kernel
theorem dX9_grow_0 : decode cX9_grow 0 = .ok (.aload_n 0, 1) := by decide +kernel
theorem dX9_grow_1 : decode cX9_grow 1 = .ok (.getfield 9, 3) := by decide +kernel
theorem dX9_grow_4 : decode cX9_grow 4 = .ok (.iconst 0, 1) := by decide +kernel
theorem dX9_grow_5 : decode cX9_grow 5 = .ok (.iconst (-1), 1) := by decide +kernel
theorem dX9_grow_6 : decode cX9_grow 6 = .ok (.iastore, 1) := by decide +kernel
theorem dX9_grow_7 : decode cX9_grow 7 = .ok (.aload_n 0, 1) := by decide +kernel
theorem dX9_grow_8 : decode cX9_grow 8 = .ok (.getfield 15, 3) := by decide +kernel
theorem dX9_grow_11 : decode cX9_grow 11 = .ok (.iconst 0, 1) := by decide +kernel
theorem dX9_grow_12 : decode cX9_grow 12 = .ok (.iload_n 1, 1) := by decide +kernel
theorem dX9_grow_13 : decode cX9_grow 13 = .ok (.iastore, 1) := by decide +kernel
theorem dX9_grow_14 : decode cX9_grow 14 = .ok (.aload_n 0, 1) := by decide +kernel
theorem dX9_grow_15 : decode cX9_grow 15 = .ok (.getfield 18, 3) := by decide +kernel
theorem dX9_grow_18 : decode cX9_grow 18 = .ok (.iconst 0, 1) := by decide +kernel
theorem dX9_grow_19 : decode cX9_grow 19 = .ok (.iconst 0, 1) := by decide +kernel
theorem dX9_grow_20 : decode cX9_grow 20 = .ok (.iastore, 1) := by decide +kernel
theorem dX9_grow_21 : decode cX9_grow 21 = .ok (.aload_n 0, 1) := by decide +kernel
theorem dX9_grow_22 : decode cX9_grow 22 = .ok (.iconst 1, 1) := by decide +kernel
theorem dX9_grow_23 : decode cX9_grow 23 = .ok (.putfield 21, 3) := by decide +kernel
theorem dX9_grow_26 : decode cX9_grow 26 = .ok (.iconst 0, 1) := by decide +kernel
theorem dX9_grow_27 : decode cX9_grow 27 = .ok (.istore_n 3, 1) := by decide +kernel
theorem dX9_grow_28 : decode cX9_grow 28 = .ok (.iconst 1, 1) := by decide +kernel
theorem dX9_grow_29 : decode cX9_grow 29 = .ok (.istore 4, 2) := by decide +kernel
theorem dX9_grow_31 : decode cX9_grow 31 = .ok (.iload 4, 2) := by decide +kernel
theorem dX9_grow_33 : decode cX9_grow 33 = .ok (.iload_n 2, 1) := by decide +kernel
theorem dX9_grow_34 : decode cX9_grow 34 = .ok (.if_icmp .gt 42, 3) := by decide +kernel
theorem dX9_grow_37 : decode cX9_grow 37 = .ok (.aload_n 0, 1) := by decide +kernel
theorem dX9_grow_38 : decode cX9_grow 38 = .ok (.getfield 21, 3) := by decide +kernel
theorem dX9_grow_41 : decode cX9_grow 41 = .ok (.istore 5, 2) := by decide +kernel
theorem dX9_grow_43 : decode cX9_grow 43 = .ok (.iload_n 3, 1) := by decide +kernel
theorem dX9_grow_44 : decode cX9_grow 44 = .ok (.istore 6, 2) := by decide +kernel
theorem dX9_grow_46 : decode cX9_grow 46 = .ok (.iload 6, 2) := by decide +kernel
theorem dX9_grow_48 : decode cX9_grow 48 = .ok (.iload 5, 2) := by decide +kernel
theorem dX9_grow_50 : decode cX9_grow 50 = .ok (.if_icmp .ge 17, 3) := by decide +kernel
theorem dX9_grow_53 : decode cX9_grow 53 = .ok (.aload_n 0, 1) := by decide +kernel
theorem dX9_grow_54 : decode cX9_grow 54 = .ok (.iload 6, 2) := by decide +kernel
theorem dX9_grow_56 : decode cX9_grow 56 = .ok (.iload 4, 2) := by decide +kernel
theorem dX9_grow_58 : decode cX9_grow 58 = .ok (.invokevirtual 41, 3) := by decide +kernel
theorem dX9_grow_61 : decode cX9_grow 61 = .ok (.iinc 6 1, 3) := by decide +kernel
theorem dX9_grow_64 : decode cX9_grow 64 = .ok (.goto (-18), 3) := by decide +kernel
theorem dX9_grow_67 : decode cX9_grow 67 = .ok (.iload 5, 2) := by decide +kernel
theorem dX9_grow_69 : decode cX9_grow 69 = .ok (.istore_n 3, 1) := by decide +kernel
theorem dX9_grow_70 : decode cX9_grow 70 = .ok (.iinc 4 1, 3) := by decide +kernel
theorem dX9_grow_73 : decode cX9_grow 73 = .ok (.goto (-42), 3) := by decide +kernel
theorem dX9_grow_76 : decode cX9_grow 76 = .ok (.return_, 1) := by decide +kernel
theorem dX9_loseFrom_0 : decode cX9_loseFrom 0 = .ok (.aload_n 0, 1) := by decide +kernel
theorem dX9_loseFrom_1 : decode cX9_loseFrom 1 = .ok (.getfield 37, 3) := by decide +kernel
theorem dX9_loseFrom_4 : decode cX9_loseFrom 4 = .ok (.getfield 97, 3) := by decide +kernel
theorem dX9_loseFrom_7 : decode cX9_loseFrom 7 = .ok (.astore_n 3, 1) := by decide +kernel
theorem dX9_loseFrom_8 : decode cX9_loseFrom 8 = .ok (.iconst 0, 1) := by decide +kernel
theorem dX9_loseFrom_9 : decode cX9_loseFrom 9 = .ok (.istore 4, 2) := by decide +kernel
theorem dX9_loseFrom_11 : decode cX9_loseFrom 11 = .ok (.iload 4, 2) := by decide +kernel
theorem dX9_loseFrom_13 : decode cX9_loseFrom 13 = .ok (.aload_n 0, 1) := by decide +kernel
theorem dX9_loseFrom_14 : decode cX9_loseFrom 14 = .ok (.getfield 37, 3) := by decide +kernel
theorem dX9_loseFrom_17 : decode cX9_loseFrom 17 = .ok (.getfield 45, 3) := by decide +kernel
theorem dX9_loseFrom_20 : decode cX9_loseFrom 20 = .ok (.if_icmp .ge 129, 3) := by decide +kernel
theorem dX9_loseFrom_23 : decode cX9_loseFrom 23 = .ok (.iload 4, 2) := by decide +kernel
theorem dX9_loseFrom_25 : decode cX9_loseFrom 25 = .ok (.iconst 1, 1) := by decide +kernel
theorem dX9_loseFrom_26 : decode cX9_loseFrom 26 = .ok (.iadd, 1) := by decide +kernel
theorem dX9_loseFrom_27 : decode cX9_loseFrom 27 = .ok (.istore 5, 2) := by decide +kernel
theorem dX9_loseFrom_29 : decode cX9_loseFrom 29 = .ok (.iload 5, 2) := by decide +kernel
theorem dX9_loseFrom_31 : decode cX9_loseFrom 31 = .ok (.aload_n 0, 1) := by decide +kernel
theorem dX9_loseFrom_32 : decode cX9_loseFrom 32 = .ok (.getfield 37, 3) := by decide +kernel
theorem dX9_loseFrom_35 : decode cX9_loseFrom 35 = .ok (.getfield 45, 3) := by decide +kernel
theorem dX9_loseFrom_38 : decode cX9_loseFrom 38 = .ok (.if_icmp .ge 105, 3) := by decide +kernel
theorem dX9_loseFrom_41 : decode cX9_loseFrom 41 = .ok (.iload 4, 2) := by decide +kernel
theorem dX9_loseFrom_43 : decode cX9_loseFrom 43 = .ok (.bipush 6, 2) := by decide +kernel
theorem dX9_loseFrom_45 : decode cX9_loseFrom 45 = .ok (.imul, 1) := by decide +kernel
theorem dX9_loseFrom_46 : decode cX9_loseFrom 46 = .ok (.iload 5, 2) := by decide +kernel
theorem dX9_loseFrom_48 : decode cX9_loseFrom 48 = .ok (.iadd, 1) := by decide +kernel
theorem dX9_loseFrom_49 : decode cX9_loseFrom 49 = .ok (.istore 6, 2) := by decide +kernel
theorem dX9_loseFrom_51 : decode cX9_loseFrom 51 = .ok (.aload_n 3, 1) := by decide +kernel
theorem dX9_loseFrom_52 : decode cX9_loseFrom 52 = .ok (.iload 4, 2) := by decide +kernel
theorem dX9_loseFrom_54 : decode cX9_loseFrom 54 = .ok (.sipush 2500, 3) := by decide +kernel
theorem dX9_loseFrom_57 : decode cX9_loseFrom 57 = .ok (.imul, 1) := by decide +kernel
theorem dX9_loseFrom_58 : decode cX9_loseFrom 58 = .ok (.iload_n 1, 1) := by decide +kernel
theorem dX9_loseFrom_59 : decode cX9_loseFrom 59 = .ok (.iadd, 1) := by decide +kernel
theorem dX9_loseFrom_60 : decode cX9_loseFrom 60 = .ok (.iaload, 1) := by decide +kernel
theorem dX9_loseFrom_61 : decode cX9_loseFrom 61 = .ok (.aload_n 3, 1) := by decide +kernel
theorem dX9_loseFrom_62 : decode cX9_loseFrom 62 = .ok (.iload 5, 2) := by decide +kernel
theorem dX9_loseFrom_64 : decode cX9_loseFrom 64 = .ok (.sipush 2500, 3) := by decide +kernel
theorem dX9_loseFrom_67 : decode cX9_loseFrom 67 = .ok (.imul, 1) := by decide +kernel
theorem dX9_loseFrom_68 : decode cX9_loseFrom 68 = .ok (.iload_n 1, 1) := by decide +kernel
theorem dX9_loseFrom_69 : decode cX9_loseFrom 69 = .ok (.iadd, 1) := by decide +kernel
theorem dX9_loseFrom_70 : decode cX9_loseFrom 70 = .ok (.iaload, 1) := by decide +kernel
theorem dX9_loseFrom_71 : decode cX9_loseFrom 71 = .ok (.iand, 1) := by decide +kernel
theorem dX9_loseFrom_72 : decode cX9_loseFrom 72 = .ok (.istore 7, 2) := by decide +kernel
theorem dX9_loseFrom_74 : decode cX9_loseFrom 74 = .ok (.iload_n 2, 1) := by decide +kernel
theorem dX9_loseFrom_75 : decode cX9_loseFrom 75 = .ok (.aload_n 0, 1) := by decide +kernel
theorem dX9_loseFrom_76 : decode cX9_loseFrom 76 = .ok (.getfield 37, 3) := by decide +kernel
theorem dX9_loseFrom_79 : decode cX9_loseFrom 79 = .ok (.getfield 100, 3) := by decide +kernel
theorem dX9_loseFrom_82 : decode cX9_loseFrom 82 = .ok (.iload 6, 2) := by decide +kernel
theorem dX9_loseFrom_84 : decode cX9_loseFrom 84 = .ok (.iaload, 1) := by decide +kernel
theorem dX9_loseFrom_85 : decode cX9_loseFrom 85 = .ok (.isub, 1) := by decide +kernel
theorem dX9_loseFrom_86 : decode cX9_loseFrom 86 = .ok (.istore 8, 2) := by decide +kernel
theorem dX9_loseFrom_88 : decode cX9_loseFrom 88 = .ok (.aload_n 0, 1) := by decide +kernel
theorem dX9_loseFrom_89 : decode cX9_loseFrom 89 = .ok (.getfield 34, 3) := by decide +kernel
theorem dX9_loseFrom_92 : decode cX9_loseFrom 92 = .ok (.iload 6, 2) := by decide +kernel
theorem dX9_loseFrom_94 : decode cX9_loseFrom 94 = .ok (.iload 8, 2) := by decide +kernel
theorem dX9_loseFrom_96 : decode cX9_loseFrom 96 = .ok (.ifCond .le 8, 3) := by decide +kernel
theorem dX9_loseFrom_99 : decode cX9_loseFrom 99 = .ok (.iload 8, 2) := by decide +kernel
theorem dX9_loseFrom_101 : decode cX9_loseFrom 101 = .ok (.goto 4, 3) := by decide +kernel
theorem dX9_loseFrom_104 : decode cX9_loseFrom 104 = .ok (.iconst 0, 1) := by decide +kernel
theorem dX9_loseFrom_105 : decode cX9_loseFrom 105 = .ok (.iload 7, 2) := by decide +kernel
theorem dX9_loseFrom_107 : decode cX9_loseFrom 107 = .ok (.ifCond .ne 7, 3) := by decide +kernel
theorem dX9_loseFrom_110 : decode cX9_loseFrom 110 = .ok (.iconst 2, 1) := by decide +kernel
theorem dX9_loseFrom_111 : decode cX9_loseFrom 111 = .ok (.goto 4, 3) := by decide +kernel
theorem dX9_loseFrom_114 : decode cX9_loseFrom 114 = .ok (.iconst 0, 1) := by decide +kernel
theorem dX9_loseFrom_115 : decode cX9_loseFrom 115 = .ok (.iadd, 1) := by decide +kernel
theorem dX9_loseFrom_116 : decode cX9_loseFrom 116 = .ok (.iastore, 1) := by decide +kernel
theorem dX9_loseFrom_117 : decode cX9_loseFrom 117 = .ok (.aload_n 0, 1) := by decide +kernel
theorem dX9_loseFrom_118 : decode cX9_loseFrom 118 = .ok (.getfield 34, 3) := by decide +kernel
theorem dX9_loseFrom_121 : decode cX9_loseFrom 121 = .ok (.iload 5, 2) := by decide +kernel
theorem dX9_loseFrom_123 : decode cX9_loseFrom 123 = .ok (.bipush 6, 2) := by decide +kernel
theorem dX9_loseFrom_125 : decode cX9_loseFrom 125 = .ok (.imul, 1) := by decide +kernel
theorem dX9_loseFrom_126 : decode cX9_loseFrom 126 = .ok (.iload 4, 2) := by decide +kernel
theorem dX9_loseFrom_128 : decode cX9_loseFrom 128 = .ok (.iadd, 1) := by decide +kernel
theorem dX9_loseFrom_129 : decode cX9_loseFrom 129 = .ok (.aload_n 0, 1) := by decide +kernel
theorem dX9_loseFrom_130 : decode cX9_loseFrom 130 = .ok (.getfield 34, 3) := by decide +kernel
theorem dX9_loseFrom_133 : decode cX9_loseFrom 133 = .ok (.iload 6, 2) := by decide +kernel
theorem dX9_loseFrom_135 : decode cX9_loseFrom 135 = .ok (.iaload, 1) := by decide +kernel
theorem dX9_loseFrom_136 : decode cX9_loseFrom 136 = .ok (.iastore, 1) := by decide +kernel
theorem dX9_loseFrom_137 : decode cX9_loseFrom 137 = .ok (.iinc 5 1, 3) := by decide +kernel
theorem dX9_loseFrom_140 : decode cX9_loseFrom 140 = .ok (.goto (-111), 3) := by decide +kernel
theorem dX9_loseFrom_143 : decode cX9_loseFrom 143 = .ok (.iinc 4 1, 3) := by decide +kernel
theorem dX9_loseFrom_146 : decode cX9_loseFrom 146 = .ok (.goto (-135), 3) := by decide +kernel
theorem dX9_loseFrom_149 : decode cX9_loseFrom 149 = .ok (.return_, 1) := by decide +kernel
theorem dX9_soonest_0 : decode cX9_soonest 0 = .ok (.aload_n 0, 1) := by decide +kernel
theorem dX9_soonest_1 : decode cX9_soonest 1 = .ok (.getfield 37, 3) := by decide +kernel
theorem dX9_soonest_4 : decode cX9_soonest 4 = .ok (.aload_n 1, 1) := by decide +kernel
theorem dX9_soonest_5 : decode cX9_soonest 5 = .ok (.getfield 48, 3) := by decide +kernel
theorem dX9_soonest_8 : decode cX9_soonest 8 = .ok (.iload_n 2, 1) := by decide +kernel
theorem dX9_soonest_9 : decode cX9_soonest 9 = .ok (.iaload, 1) := by decide +kernel
theorem dX9_soonest_10 : decode cX9_soonest 10 = .ok (.invokevirtual 53, 3) := by decide +kernel
theorem dX9_soonest_13 : decode cX9_soonest 13 = .ok (.istore 6, 2) := by decide +kernel
theorem dX9_soonest_15 : decode cX9_soonest 15 = .ok (.iload 6, 2) := by decide +kernel
theorem dX9_soonest_17 : decode cX9_soonest 17 = .ok (.ifCond .ne 6, 3) := by decide +kernel
theorem dX9_soonest_20 : decode cX9_soonest 20 = .ok (.bipush (-2), 2) := by decide +kernel
theorem dX9_soonest_22 : decode cX9_soonest 22 = .ok (.ireturn, 1) := by decide +kernel
theorem dX9_soonest_23 : decode cX9_soonest 23 = .ok (.aload_n 0, 1) := by decide +kernel
theorem dX9_soonest_24 : decode cX9_soonest 24 = .ok (.getfield 28, 3) := by decide +kernel
theorem dX9_soonest_27 : decode cX9_soonest 27 = .ok (.ldc 57, 2) := by decide +kernel
theorem dX9_soonest_29 : decode cX9_soonest 29 = .ok (.invokestatic 58, 3) := by decide +kernel
theorem dX9_soonest_32 : decode cX9_soonest 32 = .ok (.aload_n 0, 1) := by decide +kernel
theorem dX9_soonest_33 : decode cX9_soonest 33 = .ok (.getfield 28, 3) := by decide +kernel
theorem dX9_soonest_36 : decode cX9_soonest 36 = .ok (.iconst 0, 1) := by decide +kernel
theorem dX9_soonest_37 : decode cX9_soonest 37 = .ok (.aload_n 1, 1) := by decide +kernel
theorem dX9_soonest_38 : decode cX9_soonest 38 = .ok (.getfield 64, 3) := by decide +kernel
theorem dX9_soonest_41 : decode cX9_soonest 41 = .ok (.iload_n 2, 1) := by decide +kernel
theorem dX9_soonest_42 : decode cX9_soonest 42 = .ok (.iaload, 1) := by decide +kernel
theorem dX9_soonest_43 : decode cX9_soonest 43 = .ok (.iastore, 1) := by decide +kernel
theorem dX9_soonest_44 : decode cX9_soonest 44 = .ok (.iload_n 3, 1) := by decide +kernel
theorem dX9_soonest_45 : decode cX9_soonest 45 = .ok (.istore 7, 2) := by decide +kernel
theorem dX9_soonest_47 : decode cX9_soonest 47 = .ok (.iload 7, 2) := by decide +kernel
theorem dX9_soonest_49 : decode cX9_soonest 49 = .ok (.iload 5, 2) := by decide +kernel
theorem dX9_soonest_51 : decode cX9_soonest 51 = .ok (.if_icmp .ge 187, 3) := by decide +kernel
theorem dX9_soonest_54 : decode cX9_soonest 54 = .ok (.aload_n 0, 1) := by decide +kernel
theorem dX9_soonest_55 : decode cX9_soonest 55 = .ok (.getfield 37, 3) := by decide +kernel
theorem dX9_soonest_58 : decode cX9_soonest 58 = .ok (.getfield 67, 3) := by decide +kernel
theorem dX9_soonest_61 : decode cX9_soonest 61 = .ok (.iload 7, 2) := by decide +kernel
theorem dX9_soonest_63 : decode cX9_soonest 63 = .ok (.iaload, 1) := by decide +kernel
theorem dX9_soonest_64 : decode cX9_soonest 64 = .ok (.iload 6, 2) := by decide +kernel
theorem dX9_soonest_66 : decode cX9_soonest 66 = .ok (.iand, 1) := by decide +kernel
theorem dX9_soonest_67 : decode cX9_soonest 67 = .ok (.istore 8, 2) := by decide +kernel
theorem dX9_soonest_69 : decode cX9_soonest 69 = .ok (.iconst 0, 1) := by decide +kernel
theorem dX9_soonest_70 : decode cX9_soonest 70 = .ok (.istore 9, 2) := by decide +kernel
theorem dX9_soonest_72 : decode cX9_soonest 72 = .ok (.iload 9, 2) := by decide +kernel
theorem dX9_soonest_74 : decode cX9_soonest 74 = .ok (.aload_n 0, 1) := by decide +kernel
theorem dX9_soonest_75 : decode cX9_soonest 75 = .ok (.getfield 21, 3) := by decide +kernel
theorem dX9_soonest_78 : decode cX9_soonest 78 = .ok (.if_icmp .ge 52, 3) := by decide +kernel
theorem dX9_soonest_81 : decode cX9_soonest 81 = .ok (.aload_n 0, 1) := by decide +kernel
theorem dX9_soonest_82 : decode cX9_soonest 82 = .ok (.getfield 28, 3) := by decide +kernel
theorem dX9_soonest_85 : decode cX9_soonest 85 = .ok (.iload 9, 2) := by decide +kernel
theorem dX9_soonest_87 : decode cX9_soonest 87 = .ok (.dup2, 1) := by decide +kernel
theorem dX9_soonest_88 : decode cX9_soonest 88 = .ok (.iaload, 1) := by decide +kernel
theorem dX9_soonest_89 : decode cX9_soonest 89 = .ok (.iload 8, 2) := by decide +kernel
theorem dX9_soonest_91 : decode cX9_soonest 91 = .ok (.aload_n 0, 1) := by decide +kernel
theorem dX9_soonest_92 : decode cX9_soonest 92 = .ok (.getfield 15, 3) := by decide +kernel
theorem dX9_soonest_95 : decode cX9_soonest 95 = .ok (.iload 9, 2) := by decide +kernel
theorem dX9_soonest_97 : decode cX9_soonest 97 = .ok (.iaload, 1) := by decide +kernel
theorem dX9_soonest_98 : decode cX9_soonest 98 = .ok (.ishr, 1) := by decide +kernel
theorem dX9_soonest_99 : decode cX9_soonest 99 = .ok (.iconst 1, 1) := by decide +kernel
theorem dX9_soonest_100 : decode cX9_soonest 100 = .ok (.iand, 1) := by decide +kernel
theorem dX9_soonest_101 : decode cX9_soonest 101 = .ok (.isub, 1) := by decide +kernel
theorem dX9_soonest_102 : decode cX9_soonest 102 = .ok (.iastore, 1) := by decide +kernel
theorem dX9_soonest_103 : decode cX9_soonest 103 = .ok (.aload_n 0, 1) := by decide +kernel
theorem dX9_soonest_104 : decode cX9_soonest 104 = .ok (.getfield 28, 3) := by decide +kernel
theorem dX9_soonest_107 : decode cX9_soonest 107 = .ok (.iload 9, 2) := by decide +kernel
theorem dX9_soonest_109 : decode cX9_soonest 109 = .ok (.iaload, 1) := by decide +kernel
theorem dX9_soonest_110 : decode cX9_soonest 110 = .ok (.ifCond .ne 14, 3) := by decide +kernel
theorem dX9_soonest_113 : decode cX9_soonest 113 = .ok (.aload_n 0, 1) := by decide +kernel
theorem dX9_soonest_114 : decode cX9_soonest 114 = .ok (.iload 9, 2) := by decide +kernel
theorem dX9_soonest_116 : decode cX9_soonest 116 = .ok (.putfield 25, 3) := by decide +kernel
theorem dX9_soonest_119 : decode cX9_soonest 119 = .ok (.iload 7, 2) := by decide +kernel
theorem dX9_soonest_121 : decode cX9_soonest 121 = .ok (.iconst 1, 1) := by decide +kernel
theorem dX9_soonest_122 : decode cX9_soonest 122 = .ok (.iadd, 1) := by decide +kernel
theorem dX9_soonest_123 : decode cX9_soonest 123 = .ok (.ireturn, 1) := by decide +kernel
theorem dX9_soonest_124 : decode cX9_soonest 124 = .ok (.iinc 9 1, 3) := by decide +kernel
theorem dX9_soonest_127 : decode cX9_soonest 127 = .ok (.goto (-55), 3) := by decide +kernel
theorem dX9_soonest_130 : decode cX9_soonest 130 = .ok (.aload_n 0, 1) := by decide +kernel
theorem dX9_soonest_131 : decode cX9_soonest 131 = .ok (.iload 7, 2) := by decide +kernel
theorem dX9_soonest_133 : decode cX9_soonest 133 = .ok (.iconst 1, 1) := by decide +kernel
theorem dX9_soonest_134 : decode cX9_soonest 134 = .ok (.iadd, 1) := by decide +kernel
theorem dX9_soonest_135 : decode cX9_soonest 135 = .ok (.iload 4, 2) := by decide +kernel
theorem dX9_soonest_137 : decode cX9_soonest 137 = .ok (.invokevirtual 70, 3) := by decide +kernel
theorem dX9_soonest_140 : decode cX9_soonest 140 = .ok (.aload_n 0, 1) := by decide +kernel
theorem dX9_soonest_141 : decode cX9_soonest 141 = .ok (.getfield 21, 3) := by decide +kernel
theorem dX9_soonest_144 : decode cX9_soonest 144 = .ok (.iconst 1, 1) := by decide +kernel
theorem dX9_soonest_145 : decode cX9_soonest 145 = .ok (.isub, 1) := by decide +kernel
theorem dX9_soonest_146 : decode cX9_soonest 146 = .ok (.istore 9, 2) := by decide +kernel
theorem dX9_soonest_148 : decode cX9_soonest 148 = .ok (.iload 9, 2) := by decide +kernel
theorem dX9_soonest_150 : decode cX9_soonest 150 = .ok (.ifCond .le 82, 3) := by decide +kernel
theorem dX9_soonest_153 : decode cX9_soonest 153 = .ok (.aload_n 0, 1) := by decide +kernel
theorem dX9_soonest_154 : decode cX9_soonest 154 = .ok (.getfield 9, 3) := by decide +kernel
theorem dX9_soonest_157 : decode cX9_soonest 157 = .ok (.iload 9, 2) := by decide +kernel
theorem dX9_soonest_159 : decode cX9_soonest 159 = .ok (.iaload, 1) := by decide +kernel
theorem dX9_soonest_160 : decode cX9_soonest 160 = .ok (.istore 10, 2) := by decide +kernel
theorem dX9_soonest_162 : decode cX9_soonest 162 = .ok (.aload_n 0, 1) := by decide +kernel
theorem dX9_soonest_163 : decode cX9_soonest 163 = .ok (.getfield 28, 3) := by decide +kernel
theorem dX9_soonest_166 : decode cX9_soonest 166 = .ok (.iload 10, 2) := by decide +kernel
theorem dX9_soonest_168 : decode cX9_soonest 168 = .ok (.iaload, 1) := by decide +kernel
theorem dX9_soonest_169 : decode cX9_soonest 169 = .ok (.aload_n 0, 1) := by decide +kernel
theorem dX9_soonest_170 : decode cX9_soonest 170 = .ok (.getfield 34, 3) := by decide +kernel
theorem dX9_soonest_173 : decode cX9_soonest 173 = .ok (.aload_n 0, 1) := by decide +kernel
theorem dX9_soonest_174 : decode cX9_soonest 174 = .ok (.getfield 15, 3) := by decide +kernel
theorem dX9_soonest_177 : decode cX9_soonest 177 = .ok (.iload 10, 2) := by decide +kernel
theorem dX9_soonest_179 : decode cX9_soonest 179 = .ok (.iaload, 1) := by decide +kernel
theorem dX9_soonest_180 : decode cX9_soonest 180 = .ok (.bipush 6, 2) := by decide +kernel
theorem dX9_soonest_182 : decode cX9_soonest 182 = .ok (.imul, 1) := by decide +kernel
theorem dX9_soonest_183 : decode cX9_soonest 183 = .ok (.aload_n 0, 1) := by decide +kernel
theorem dX9_soonest_184 : decode cX9_soonest 184 = .ok (.getfield 15, 3) := by decide +kernel
theorem dX9_soonest_187 : decode cX9_soonest 187 = .ok (.iload 9, 2) := by decide +kernel
theorem dX9_soonest_189 : decode cX9_soonest 189 = .ok (.iaload, 1) := by decide +kernel
theorem dX9_soonest_190 : decode cX9_soonest 190 = .ok (.iadd, 1) := by decide +kernel
theorem dX9_soonest_191 : decode cX9_soonest 191 = .ok (.iaload, 1) := by decide +kernel
theorem dX9_soonest_192 : decode cX9_soonest 192 = .ok (.iadd, 1) := by decide +kernel
theorem dX9_soonest_193 : decode cX9_soonest 193 = .ok (.istore 11, 2) := by decide +kernel
theorem dX9_soonest_195 : decode cX9_soonest 195 = .ok (.aload_n 0, 1) := by decide +kernel
theorem dX9_soonest_196 : decode cX9_soonest 196 = .ok (.getfield 28, 3) := by decide +kernel
theorem dX9_soonest_199 : decode cX9_soonest 199 = .ok (.iload 9, 2) := by decide +kernel
theorem dX9_soonest_201 : decode cX9_soonest 201 = .ok (.iload 11, 2) := by decide +kernel
theorem dX9_soonest_203 : decode cX9_soonest 203 = .ok (.aload_n 0, 1) := by decide +kernel
theorem dX9_soonest_204 : decode cX9_soonest 204 = .ok (.getfield 28, 3) := by decide +kernel
theorem dX9_soonest_207 : decode cX9_soonest 207 = .ok (.iload 9, 2) := by decide +kernel
theorem dX9_soonest_209 : decode cX9_soonest 209 = .ok (.iaload, 1) := by decide +kernel
theorem dX9_soonest_210 : decode cX9_soonest 210 = .ok (.if_icmp .ge 8, 3) := by decide +kernel
theorem dX9_soonest_213 : decode cX9_soonest 213 = .ok (.iload 11, 2) := by decide +kernel
theorem dX9_soonest_215 : decode cX9_soonest 215 = .ok (.goto 10, 3) := by decide +kernel
theorem dX9_soonest_218 : decode cX9_soonest 218 = .ok (.aload_n 0, 1) := by decide +kernel
theorem dX9_soonest_219 : decode cX9_soonest 219 = .ok (.getfield 28, 3) := by decide +kernel
theorem dX9_soonest_222 : decode cX9_soonest 222 = .ok (.iload 9, 2) := by decide +kernel
theorem dX9_soonest_224 : decode cX9_soonest 224 = .ok (.iaload, 1) := by decide +kernel
theorem dX9_soonest_225 : decode cX9_soonest 225 = .ok (.iastore, 1) := by decide +kernel
theorem dX9_soonest_226 : decode cX9_soonest 226 = .ok (.iinc 9 (-1), 3) := by decide +kernel
theorem dX9_soonest_229 : decode cX9_soonest 229 = .ok (.goto (-81), 3) := by decide +kernel
theorem dX9_soonest_232 : decode cX9_soonest 232 = .ok (.iinc 7 1, 3) := by decide +kernel
theorem dX9_soonest_235 : decode cX9_soonest 235 = .ok (.goto (-188), 3) := by decide +kernel
theorem dX9_soonest_238 : decode cX9_soonest 238 = .ok (.bipush (-2), 2) := by decide +kernel
theorem dX9_soonest_240 : decode cX9_soonest 240 = .ok (.ireturn, 1) := by decide +kernel
noncomputable def f_X8_workReady_158 (fu : Nat) (k16 : Nat → Int32 → Int32 → Int32 → hM → Option (Unit × hM)) (a1 : Nat) (x2 : Int32) (x3 : Int32) (x4 : Int32) (m : hM) : Option (Unit × hM) :=
  hLet (x4 + 1) fun y7 =>
k16 a1 x2 x3 y7 m
set_option maxRecDepth 100000 in
set_option maxHeartbeats 4000000 in
theorem r_X8_workReady_158 {G : hG} {X : hX} (C : Cx G X 2 cX8_workReady 7 RX8 none) (K : Cr G X) (fu : Nat) (k16 : Nat → Int32 → Int32 → Int32 → hM → Option (Unit × hM)) (hk16 : ∀ (a1 : Nat) (ha1 : a1 ∈ stL) (x2 : Int32) (x3 : Int32) (x4 : Int32) (m : hM), Rf vU G X 16 [(0, hA G 32), (1, hA G a1), (2, .int x2), (3, .int x3), (4, .int x4)] [] m (k16 a1 x2 x3 x4 m)) (a1 : Nat) (ha1 : a1 ∈ stL) (x2 : Int32) (x3 : Int32) (x4 : Int32) (m : hM) : Rf vU G X 158 [(0, hA G 32), (1, hA G a1), (2, .int x2), (3, .int x3), (4, .int x4)] [] m (f_X8_workReady_158 fu k16 a1 x2 x3 x4 m) := by
  unfold f_X8_workReady_158
  refine rf_iinc2 C (n := 161) (q := 4) (fun y7 => [(4, .int y7), (0, hA G 32), (1, hA G a1), (2, .int x2), (3, .int x3)]) dX8_workReady_158 rfl rfl (by decide) (by decide) (fun _ => rfl) (fun y7 => ?_)
  refine rf_goto C (n := 16) dX8_workReady_161 (by decide) ?_
  exact rf_lv _ [1, 2, 3, 4, 0] rfl (hk16 _ ha1 _ _ _ _)
noncomputable def f_X8_workReady_114 (fu : Nat) (k16 : Nat → Int32 → Int32 → Int32 → hM → Option (Unit × hM)) (a1 : Nat) (x2 : Int32) (x3 : Int32) (x4 : Int32) (m : hM) : Option (Unit × hM) :=
  f_X8_workReady_158 fu k16 a1 x2 x3 x4 m
set_option maxRecDepth 100000 in
set_option maxHeartbeats 4000000 in
theorem r_X8_workReady_114 {G : hG} {X : hX} (C : Cx G X 2 cX8_workReady 7 RX8 none) (K : Cr G X) (fu : Nat) (k16 : Nat → Int32 → Int32 → Int32 → hM → Option (Unit × hM)) (hk16 : ∀ (a1 : Nat) (ha1 : a1 ∈ stL) (x2 : Int32) (x3 : Int32) (x4 : Int32) (m : hM), Rf vU G X 16 [(0, hA G 32), (1, hA G a1), (2, .int x2), (3, .int x3), (4, .int x4)] [] m (k16 a1 x2 x3 x4 m)) (a1 : Nat) (ha1 : a1 ∈ stL) (x2 : Int32) (x3 : Int32) (x4 : Int32) (m : hM) : Rf vU G X 114 [(0, hA G 32), (1, hA G a1), (2, .int x2), (3, .int x3), (4, .int x4)] [] m (f_X8_workReady_114 fu k16 a1 x2 x3 x4 m) := by
  unfold f_X8_workReady_114
  refine rf_goto C (n := 158) dX8_workReady_114 (by decide) ?_
  exact rf_lv _ [0, 1, 2, 3, 4] rfl (r_X8_workReady_158 C K fu _ hk16 _ ha1 _ _ _ _)
noncomputable def s_X8_workReady_16 (fu : Nat) (ih : Nat → Int32 → Int32 → Int32 → hM → Option (Unit × hM)) (a1 : Nat) (x2 : Int32) (x3 : Int32) (x4 : Int32) (m : hM) : Option (Unit × hM) :=
  if (gI m 18 6) ≤ x4 then (
some ((), m)) else (
if hIn x4 8 then (
hLet (gI m (a1 + 1) (Int32.toNatClampNeg x4)) fun y5 =>
if ((x2 >>> (x4 &&& 31)) &&& 1) = 0 then (
f_X8_workReady_158 fu ih a1 x2 x3 x4 m) else (
if ¬ ((x3 >>> (y5 &&& 31)) &&& 1) = 0 then (
if ¬ (((gI m a1 2) >>> (x4 &&& 31)) &&& 1) = 1 then (
hBd (f_X8_canWork fu x4 y5 m) fun y10 m11 =>
if y10 = 0 then (
f_X8_workReady_158 fu ih a1 x2 x3 x4 m11) else (
if hIn y5 6 then (
if hIn y5 6 then (
if (gI m11 (6 + 2 * (Int32.toNatClampNeg y5)) 4) ≤ (gI m11 33 (Int32.toNatClampNeg y5)) then (
f_X8_workReady_158 fu ih a1 x2 x3 x4 m11) else (
hBd (f_X8_workOn fu a1 x4 m11) fun _ m16 =>
f_X8_workReady_158 fu ih a1 x2 x3 x4 m16)) else none) else none)) else (
if hIn x4 8 then (
hLet (gI m 24 (Int32.toNatClampNeg x4)) fun y18 =>
if y18 = (-1) then (
f_X8_workReady_114 fu ih a1 x2 x3 x4 m) else (
if ¬ ((x3 >>> (y18 &&& 31)) &&& 1) = 1 then (
f_X8_workReady_114 fu ih a1 x2 x3 x4 m) else (
hLet (sI m a1 2 ((gI m a1 2) &&& ((1 <<< (x4 &&& 31)) ^^^ (-1)))) fun m21 =>
f_X8_workReady_114 fu ih a1 x2 x3 x4 m21))) else none)) else (
f_X8_workReady_158 fu ih a1 x2 x3 x4 m))) else none)
noncomputable def f_X8_workReady_16 (fu : Nat) (n : Nat) : Nat → Int32 → Int32 → Int32 → hM → Option (Unit × hM) :=
  Nat.rec (motive := fun _ => Nat → Int32 → Int32 → Int32 → hM → Option (Unit × hM)) (fun _ _ _ _ _ => none) (fun _ ih => s_X8_workReady_16 fu ih) n
theorem f_X8_workReady_16_s (fu : Nat) (n : Nat) (a1 : Nat) (x2 : Int32) (x3 : Int32) (x4 : Int32) (m : hM) : f_X8_workReady_16 fu (n + 1) a1 x2 x3 x4 m = s_X8_workReady_16 fu (f_X8_workReady_16 fu n) a1 x2 x3 x4 m := rfl
set_option maxRecDepth 100000 in
set_option maxHeartbeats 4000000 in
theorem r_X8_workReady_16 {G : hG} {X : hX} (C : Cx G X 2 cX8_workReady 7 RX8 none) (K : Cr G X) (fu : Nat) (n : Nat) : ∀ (a1 : Nat) (ha1 : a1 ∈ stL) (x2 : Int32) (x3 : Int32) (x4 : Int32) (m : hM), Rf vU G X 16 [(0, hA G 32), (1, hA G a1), (2, .int x2), (3, .int x3), (4, .int x4)] [] m (f_X8_workReady_16 fu n a1 x2 x3 x4 m) := by
  induction n with
  | zero => intros; exact rf_none
  | succ n ih =>
    intro a1 ha1 x2 x3 x4 m
    show Rf vU G X 16 [(0, hA G 32), (1, hA G a1), (2, .int x2), (3, .int x3), (4, .int x4)] [] m (s_X8_workReady_16 fu (f_X8_workReady_16 fu n) a1 x2 x3 x4 m)
    unfold s_X8_workReady_16
    refine rf_iload C (n := 18) (q := 4) dX8_workReady_16 rfl rfl ?_
    refine rf_aload_n C (n := 19) (q := 0) dX8_workReady_18 rfl rfl rfl ?_
    refine rf_getS C (n := 22) fl_RX8_33 ly_32 rfl dX8_workReady_19 rfl ?_
    refine rf_getI C (n := 25) fl_RX8_41 ly_18 rfl dX8_workReady_22 rfl ?_
    refine rf_icmp_ge C (tgt := 164) (n := 28) dX8_workReady_25 (by decide) rfl (fun h3 => ?_) (fun h3 => ?_)
    · exact rf_vret C K dX8_workReady_164
    · refine rf_aload_n C (n := 29) (q := 1) dX8_workReady_28 rfl rfl rfl ?_
      refine rf_getS C (n := 32) fl_RX8_84 (pS_l ha1) rfl dX8_workReady_29 rfl ?_
      refine rf_iload C (n := 34) (q := 4) dX8_workReady_32 rfl rfl ?_
      refine rf_guard (fun h4 => ?_)
      refine rf_iald C (n := 35) (st_a1 ha1) h4 rfl dX8_workReady_34 rfl ?_
      refine rf_letI (fun y5 => ?_)
      refine rf_istore C (n := 37) [(5, .int y5), (0, hA G 32), (1, hA G a1), (2, .int x2), (3, .int x3), (4, .int x4)] dX8_workReady_35 rfl (by decide) rfl ?_
      refine rf_iload_n C (n := 38) (q := 3) dX8_workReady_37 rfl rfl rfl ?_
      refine rf_iload C (n := 40) (q := 5) dX8_workReady_38 rfl rfl ?_
      refine rf_ishr C (n := 41) dX8_workReady_40 rfl ?_
      refine rf_iconst C (n := 42) (v := 1) dX8_workReady_41 rfl (by decide) ?_
      refine rf_iand C (n := 43) dX8_workReady_42 rfl ?_
      refine rf_if_eq C (tgt := 158) (n := 46) dX8_workReady_43 (by decide) rfl (fun h6 => ?_) (fun h6 => ?_)
      · exact rf_lv _ [1, 2, 3, 4, 5] rfl (r_X8_workReady_158 C K fu _ ih _ ha1 _ _ _ _)
      · refine rf_iload_n C (n := 47) (q := 4) dX8_workReady_46 rfl rfl rfl ?_
        refine rf_iload C (n := 49) (q := 0) dX8_workReady_47 rfl rfl ?_
        refine rf_ishr C (n := 50) dX8_workReady_49 rfl ?_
        refine rf_iconst C (n := 51) (v := 1) dX8_workReady_50 rfl (by decide) ?_
        refine rf_iand C (n := 52) dX8_workReady_51 rfl ?_
        refine rf_if_ne C (tgt := 58) (n := 55) dX8_workReady_52 (by decide) rfl (fun h8 => ?_) (fun h8 => ?_)
        · refine rf_aload_n C (n := 59) (q := 2) dX8_workReady_58 rfl rfl rfl ?_
          refine rf_getI C (n := 62) fl_RX8_87 (pS_l ha1) rfl dX8_workReady_59 rfl ?_
          refine rf_iload C (n := 64) (q := 5) dX8_workReady_62 rfl rfl ?_
          refine rf_ishr C (n := 65) dX8_workReady_64 rfl ?_
          refine rf_iconst C (n := 66) (v := 1) dX8_workReady_65 rfl (by decide) ?_
          refine rf_iand C (n := 67) dX8_workReady_66 rfl ?_
          refine rf_iconst C (n := 68) (v := 1) dX8_workReady_67 rfl (by decide) ?_
          refine rf_icmp_ne C (tgt := 117) (n := 71) dX8_workReady_68 (by decide) rfl (fun h9 => ?_) (fun h9 => ?_)
          · refine rf_aload_n C (n := 118) (q := 1) dX8_workReady_117 rfl rfl rfl ?_
            refine rf_iload C (n := 120) (q := 5) dX8_workReady_118 rfl rfl ?_
            refine rf_iload C (n := 122) (q := 0) dX8_workReady_120 rfl rfl ?_
            refine rf_callVi C (n := 125) (c_X8_canWork G fu _ _ _) mw_RX8_93 ly_32 rfl ⟨by decide, by decide⟩ rfl (Nat.le_of_ble_eq_true rfl) rfl dX8_workReady_122 rfl (fun y10 m11 => ?_)
            refine rf_if_eq C (tgt := 158) (n := 128) dX8_workReady_125 (by decide) rfl (fun h12 => ?_) (fun h12 => ?_)
            · exact rf_lv _ [1, 2, 3, 4, 5] rfl (r_X8_workReady_158 C K fu _ ih _ ha1 _ _ _ _)
            · refine rf_aload_n C (n := 129) (q := 1) dX8_workReady_128 rfl rfl rfl ?_
              refine rf_getS C (n := 132) fl_RX8_22 ly_32 rfl dX8_workReady_129 rfl ?_
              refine rf_iload C (n := 134) (q := 0) dX8_workReady_132 rfl rfl ?_
              refine rf_guard (fun h13 => ?_)
              refine rf_iald C (n := 135) ly_33 h13 rfl dX8_workReady_134 rfl ?_
              refine rf_aload_n C (n := 136) (q := 1) dX8_workReady_135 rfl rfl rfl ?_
              refine rf_getS C (n := 139) fl_RX8_29 ly_32 rfl dX8_workReady_136 rfl ?_
              refine rf_getS C (n := 142) fl_RX8_97 ly_1 rfl dX8_workReady_139 rfl ?_
              refine rf_iload C (n := 144) (q := 0) dX8_workReady_142 rfl rfl ?_
              refine rf_guard (fun h14 => ?_)
              refine rf_aaldO C (n := 145) ly_2 h14 (of_r h14) dX8_workReady_144 rfl ?_
              refine rf_getI C (n := 148) fl_RX8_101 (pO_l (of_o h14)) rfl dX8_workReady_145 rfl ?_
              refine rf_icmp_ge C (tgt := 158) (n := 151) dX8_workReady_148 (by decide) rfl (fun h15 => ?_) (fun h15 => ?_)
              · exact rf_lv _ [1, 2, 3, 4, 5] rfl (r_X8_workReady_158 C K fu _ ih _ ha1 _ _ _ _)
              · refine rf_aload_n C (n := 152) (q := 1) dX8_workReady_151 rfl rfl rfl ?_
                refine rf_aload_n C (n := 153) (q := 2) dX8_workReady_152 rfl rfl rfl ?_
                refine rf_iload C (n := 155) (q := 5) dX8_workReady_153 rfl rfl ?_
                refine rf_callVv C (n := 158) (c_X8_workOn G fu _ _ _) mw_RX8_106 ly_32 rfl ⟨by decide, by decide⟩ rfl (Nat.le_of_ble_eq_true rfl) rfl dX8_workReady_155 rfl (fun _ m16 => ?_)
                exact rf_lv _ [1, 2, 3, 4, 5] rfl (r_X8_workReady_158 C K fu _ ih _ ha1 _ _ _ _)
          · refine rf_aload_n C (n := 72) (q := 1) dX8_workReady_71 rfl rfl rfl ?_
            refine rf_getS C (n := 75) fl_RX8_33 ly_32 rfl dX8_workReady_72 rfl ?_
            refine rf_getS C (n := 78) fl_RX8_90 ly_18 rfl dX8_workReady_75 rfl ?_
            refine rf_iload C (n := 80) (q := 5) dX8_workReady_78 rfl rfl ?_
            refine rf_guard (fun h17 => ?_)
            refine rf_iald C (n := 81) ly_24 h17 rfl dX8_workReady_80 rfl ?_
            refine rf_letI (fun y18 => ?_)
            refine rf_istore C (n := 83) [(6, .int y18), (5, .int y5), (0, hA G 32), (1, hA G a1), (2, .int x2), (3, .int x3), (4, .int x4)] dX8_workReady_81 rfl (by decide) rfl ?_
            refine rf_iload C (n := 85) (q := 0) dX8_workReady_83 rfl rfl ?_
            refine rf_iconst C (n := 86) (v := (-1)) dX8_workReady_85 rfl (by decide) ?_
            refine rf_icmp_eq C (tgt := 114) (n := 89) dX8_workReady_86 (by decide) rfl (fun h19 => ?_) (fun h19 => ?_)
            · exact rf_lv _ [2, 3, 4, 5, 6] rfl (r_X8_workReady_114 C K fu _ ih _ ha1 _ _ _ _)
            · refine rf_iload_n C (n := 90) (q := 5) dX8_workReady_89 rfl rfl rfl ?_
              refine rf_iload C (n := 92) (q := 0) dX8_workReady_90 rfl rfl ?_
              refine rf_ishr C (n := 93) dX8_workReady_92 rfl ?_
              refine rf_iconst C (n := 94) (v := 1) dX8_workReady_93 rfl (by decide) ?_
              refine rf_iand C (n := 95) dX8_workReady_94 rfl ?_
              refine rf_iconst C (n := 96) (v := 1) dX8_workReady_95 rfl (by decide) ?_
              refine rf_icmp_ne C (tgt := 114) (n := 99) dX8_workReady_96 (by decide) rfl (fun h20 => ?_) (fun h20 => ?_)
              · exact rf_lv _ [2, 3, 4, 5, 6] rfl (r_X8_workReady_114 C K fu _ ih _ ha1 _ _ _ _)
              · refine rf_aload_n C (n := 100) (q := 3) dX8_workReady_99 rfl rfl rfl ?_
                refine rf_dup C (n := 101) dX8_workReady_100 rfl rfl ?_
                refine rf_getI C (n := 104) fl_RX8_87 (pS_l ha1) rfl dX8_workReady_101 rfl ?_
                refine rf_iconst C (n := 105) (v := 1) dX8_workReady_104 rfl (by decide) ?_
                refine rf_iload C (n := 107) (q := 6) dX8_workReady_105 rfl rfl ?_
                refine rf_ishl C (n := 108) dX8_workReady_107 rfl ?_
                refine rf_iconst C (n := 109) (v := (-1)) dX8_workReady_108 rfl (by decide) ?_
                refine rf_ixor C (n := 110) dX8_workReady_109 rfl ?_
                refine rf_iand C (n := 111) dX8_workReady_110 rfl ?_
                refine rf_putI C (n := 114) pl_RX8_87 (pS_l ha1) rfl ⟨rfl, rfl⟩ dX8_workReady_111 rfl ?_
                refine rf_letM (fun m21 => ?_)
                exact rf_lv _ [2, 3, 4, 5, 6] rfl (r_X8_workReady_114 C K fu _ ih _ ha1 _ _ _ _)
        · refine rf_goto C (n := 158) dX8_workReady_55 (by decide) ?_
          exact rf_lv _ [1, 2, 3, 4, 5] rfl (r_X8_workReady_158 C K fu _ ih _ ha1 _ _ _ _)
noncomputable def f_X8_workReady (fu : Nat) (a1 : Nat) (x2 : Int32) (x3 : Int32) (m : hM) : Option (Unit × hM) :=
  if a1 ∈ stL then (hBd (f_J7_fill_53178 fu 33 6 0 m) fun _ m1 =>
hLet (sI m1 32 5 0) fun m2 =>
f_X8_workReady_16 fu fu a1 x2 x3 0 m2) else none
set_option maxRecDepth 100000 in
set_option maxHeartbeats 4000000 in
theorem c_X8_workReady (G : hG) (fu : Nat) (a1 : Nat) (x2 : Int32) (x3 : Int32) (m : hM) : Mt vU G 2 yX8_workReady cX8_workReady 7 none [hA G 32, hA G a1, .int x2, .int x3] m (f_X8_workReady fu a1 x2 x3 m) := by
  refine mt_of (by decide +kernel) (Nat.le_of_ble_eq_true rfl) (fun X C K => ?_)
  have C : Cx G X 2 cX8_workReady 7 RX8 none := C
  show Rf vU G X 0 [(0, hA G 32), (1, hA G a1), (2, .int x2), (3, .int x3)] [] m _
  unfold f_X8_workReady
  refine rf_guard (fun ha1 => ?_)
  refine rf_aload_n C (n := 1) (q := 0) dX8_workReady_0 rfl rfl rfl ?_
  refine rf_getS C (n := 4) fl_RX8_22 ly_32 rfl dX8_workReady_1 rfl ?_
  refine rf_iconst C (n := 5) (v := 0) dX8_workReady_4 rfl (by decide) ?_
  refine rf_callSv C (n := 8) (c_J7_fill_53178 G fu _ _ _ _) sw_RX8_78 ⟨by decide, by decide⟩ rfl (Nat.le_of_ble_eq_true rfl) rfl dX8_workReady_5 rfl (fun _ m1 => ?_)
  refine rf_aload_n C (n := 9) (q := 0) dX8_workReady_8 rfl rfl rfl ?_
  refine rf_iconst C (n := 10) (v := 0) dX8_workReady_9 rfl (by decide) ?_
  refine rf_putI C (n := 13) pl_RX8_18 ly_32 rfl ⟨rfl, rfl⟩ dX8_workReady_10 rfl ?_
  refine rf_letM (fun m2 => ?_)
  refine rf_iconst C (n := 14) (v := 0) dX8_workReady_13 rfl (by decide) ?_
  refine rf_istore C (n := 16) [(4, .int 0), (0, hA G 32), (1, hA G a1), (2, .int x2), (3, .int x3)] dX8_workReady_14 rfl (by decide) rfl ?_
  exact rf_lv _ [1, 2, 3, 4, 0] rfl (r_X8_workReady_16 C K fu fu _ ha1 _ _ _ _)
noncomputable def f_X8_hourGoesBy_101 (fu : Nat) (a1 : Nat) (m : hM) : Option (Unit × hM) :=
  hLet (sI m a1 0 ((gI m a1 0) + 1)) fun m11 =>
some ((), m11)
set_option maxRecDepth 100000 in
set_option maxHeartbeats 4000000 in
theorem r_X8_hourGoesBy_101 {G : hG} {X : hX} (C : Cx G X 6 cX8_hourGoesBy 5 RX8 none) (K : Cr G X) (fu : Nat) (a1 : Nat) (ha1 : a1 ∈ stL) (m : hM) : Rf vU G X 101 [(1, hA G a1)] [] m (f_X8_hourGoesBy_101 fu a1 m) := by
  unfold f_X8_hourGoesBy_101
  refine rf_aload_n C (n := 102) (q := 0) dX8_hourGoesBy_101 rfl rfl rfl ?_
  refine rf_dup C (n := 103) dX8_hourGoesBy_102 rfl rfl ?_
  refine rf_getI C (n := 106) fl_RX8_54 (pS_l ha1) rfl dX8_hourGoesBy_103 rfl ?_
  refine rf_iconst C (n := 107) (v := 1) dX8_hourGoesBy_106 rfl (by decide) ?_
  refine rf_iadd C (n := 108) dX8_hourGoesBy_107 rfl ?_
  refine rf_putI C (n := 111) pl_RX8_54 (pS_l ha1) rfl ⟨rfl, rfl⟩ dX8_hourGoesBy_108 rfl ?_
  refine rf_letM (fun m11 => ?_)
  exact rf_vret C K dX8_hourGoesBy_111
noncomputable def f_X8_hourGoesBy (fu : Nat) (a1 : Nat) (m : hM) : Option (Unit × hM) :=
  if a1 ∈ stL then (if (gI m a1 0) < 0 then (
some ((), m)) else (
if (gI m a1 0) < 2399 then (
hBd (f_X8_readyPieces fu a1 m) fun y3 m4 =>
if hIn (gI m4 a1 0) 2500 then (
hLet (gI m4 4 (Int32.toNatClampNeg (gI m4 a1 0))) fun y6 =>
if hIn ((gI m4 a1 0) + 1) 2500 then (
hLet (y6 &&& ((gI m4 4 (Int32.toNatClampNeg ((gI m4 a1 0) + 1))) ^^^ (-1))) fun y8 =>
hBd (f_X8_workReady fu a1 y3 y6 m4) fun _ m9 =>
if y8 = 0 then (
f_X8_hourGoesBy_101 fu a1 m9) else (
if (gI m9 32 3) = 0 then (
f_X8_hourGoesBy_101 fu a1 m9) else (
if (gI m9 25 1) ≤ 0 then (
f_X8_hourGoesBy_101 fu a1 m9) else (
hBd (f_X8_handReady fu a1 (y3 &&& ((gI m9 a1 1) ^^^ (-1))) y8 m9) fun _ m14 =>
f_X8_hourGoesBy_101 fu a1 m14)))) else none) else none) else (
some ((), m)))) else none
set_option maxRecDepth 100000 in
set_option maxHeartbeats 4000000 in
theorem c_X8_hourGoesBy (G : hG) (fu : Nat) (a1 : Nat) (m : hM) : Mt vU G 6 yX8_hourGoesBy cX8_hourGoesBy 5 none [hA G 32, hA G a1] m (f_X8_hourGoesBy fu a1 m) := by
  refine mt_of (by decide +kernel) (Nat.le_of_ble_eq_true rfl) (fun X C K => ?_)
  have C : Cx G X 6 cX8_hourGoesBy 5 RX8 none := C
  show Rf vU G X 0 [(0, hA G 32), (1, hA G a1)] [] m _
  unfold f_X8_hourGoesBy
  refine rf_guard (fun ha1 => ?_)
  refine rf_aload_n C (n := 1) (q := 1) dX8_hourGoesBy_0 rfl rfl rfl ?_
  refine rf_getI C (n := 4) fl_RX8_54 (pS_l ha1) rfl dX8_hourGoesBy_1 rfl ?_
  refine rf_if_lt C (tgt := 17) (n := 7) dX8_hourGoesBy_4 (by decide) rfl (fun h1 => ?_) (fun h1 => ?_)
  · exact rf_vret C K dX8_hourGoesBy_17
  · refine rf_aload_n C (n := 8) (q := 1) dX8_hourGoesBy_7 rfl rfl rfl ?_
    refine rf_getI C (n := 11) fl_RX8_54 (pS_l ha1) rfl dX8_hourGoesBy_8 rfl ?_
    refine rf_sipush C (n := 14) (v := 2399) dX8_hourGoesBy_11 rfl (by decide) ?_
    refine rf_icmp_lt C (tgt := 18) (n := 17) dX8_hourGoesBy_14 (by decide) rfl (fun h2 => ?_) (fun h2 => ?_)
    · refine rf_aload_n C (n := 19) (q := 0) dX8_hourGoesBy_18 rfl rfl rfl ?_
      refine rf_aload_n C (n := 20) (q := 1) dX8_hourGoesBy_19 rfl rfl rfl ?_
      refine rf_callVi C (n := 23) (c_X8_readyPieces G fu _ _) mw_RX8_57 ly_32 rfl ⟨by decide, by decide⟩ rfl (Nat.le_of_ble_eq_true rfl) rfl dX8_hourGoesBy_20 rfl (fun y3 m4 => ?_)
      refine rf_istore_n C (n := 24) [(2, .int y3), (0, hA G 32), (1, hA G a1)] dX8_hourGoesBy_23 rfl rfl (by decide) rfl ?_
      refine rf_aload_n C (n := 25) (q := 1) dX8_hourGoesBy_24 rfl rfl rfl ?_
      refine rf_getS C (n := 28) fl_RX8_29 ly_32 rfl dX8_hourGoesBy_25 rfl ?_
      refine rf_getS C (n := 31) fl_RX8_61 ly_1 rfl dX8_hourGoesBy_28 rfl ?_
      refine rf_aload_n C (n := 32) (q := 2) dX8_hourGoesBy_31 rfl rfl rfl ?_
      refine rf_getI C (n := 35) fl_RX8_54 (pS_l ha1) rfl dX8_hourGoesBy_32 rfl ?_
      refine rf_guard (fun h5 => ?_)
      refine rf_iald C (n := 36) ly_4 h5 rfl dX8_hourGoesBy_35 rfl ?_
      refine rf_letI (fun y6 => ?_)
      refine rf_istore_n C (n := 37) [(3, .int y6), (2, .int y3), (0, hA G 32), (1, hA G a1)] dX8_hourGoesBy_36 rfl rfl (by decide) rfl ?_
      refine rf_iload_n C (n := 38) (q := 0) dX8_hourGoesBy_37 rfl rfl rfl ?_
      refine rf_aload_n C (n := 39) (q := 2) dX8_hourGoesBy_38 rfl rfl rfl ?_
      refine rf_getS C (n := 42) fl_RX8_29 ly_32 rfl dX8_hourGoesBy_39 rfl ?_
      refine rf_getS C (n := 45) fl_RX8_61 ly_1 rfl dX8_hourGoesBy_42 rfl ?_
      refine rf_aload_n C (n := 46) (q := 3) dX8_hourGoesBy_45 rfl rfl rfl ?_
      refine rf_getI C (n := 49) fl_RX8_54 (pS_l ha1) rfl dX8_hourGoesBy_46 rfl ?_
      refine rf_iconst C (n := 50) (v := 1) dX8_hourGoesBy_49 rfl (by decide) ?_
      refine rf_iadd C (n := 51) dX8_hourGoesBy_50 rfl ?_
      refine rf_guard (fun h7 => ?_)
      refine rf_iald C (n := 52) ly_4 h7 rfl dX8_hourGoesBy_51 rfl ?_
      refine rf_iconst C (n := 53) (v := (-1)) dX8_hourGoesBy_52 rfl (by decide) ?_
      refine rf_ixor C (n := 54) dX8_hourGoesBy_53 rfl ?_
      refine rf_iand C (n := 55) dX8_hourGoesBy_54 rfl ?_
      refine rf_letI (fun y8 => ?_)
      refine rf_istore C (n := 57) [(4, .int y8), (3, .int y6), (2, .int y3), (0, hA G 32), (1, hA G a1)] dX8_hourGoesBy_55 rfl (by decide) rfl ?_
      refine rf_aload_n C (n := 58) (q := 3) dX8_hourGoesBy_57 rfl rfl rfl ?_
      refine rf_aload_n C (n := 59) (q := 4) dX8_hourGoesBy_58 rfl rfl rfl ?_
      refine rf_iload_n C (n := 60) (q := 2) dX8_hourGoesBy_59 rfl rfl rfl ?_
      refine rf_iload_n C (n := 61) (q := 1) dX8_hourGoesBy_60 rfl rfl rfl ?_
      refine rf_callVv C (n := 64) (c_X8_workReady G fu _ _ _ _) mw_RX8_66 ly_32 rfl ⟨by decide, by decide⟩ rfl (Nat.le_of_ble_eq_true rfl) rfl dX8_hourGoesBy_61 rfl (fun _ m9 => ?_)
      refine rf_iload C (n := 66) (q := 0) dX8_hourGoesBy_64 rfl rfl ?_
      refine rf_if_eq C (tgt := 101) (n := 69) dX8_hourGoesBy_66 (by decide) rfl (fun h10 => ?_) (fun h10 => ?_)
      · exact rf_lv _ [4] rfl (r_X8_hourGoesBy_101 C K fu _ ha1 _)
      · refine rf_aload_n C (n := 70) (q := 3) dX8_hourGoesBy_69 rfl rfl rfl ?_
        refine rf_getI C (n := 73) fl_RX8_9 ly_32 rfl dX8_hourGoesBy_70 rfl ?_
        refine rf_if_eq C (tgt := 101) (n := 76) dX8_hourGoesBy_73 (by decide) rfl (fun h12 => ?_) (fun h12 => ?_)
        · exact rf_lv _ [4] rfl (r_X8_hourGoesBy_101 C K fu _ ha1 _)
        · refine rf_aload_n C (n := 77) (q := 3) dX8_hourGoesBy_76 rfl rfl rfl ?_
          refine rf_getS C (n := 80) fl_RX8_37 ly_32 rfl dX8_hourGoesBy_77 rfl ?_
          refine rf_getI C (n := 83) fl_RX8_70 ly_25 rfl dX8_hourGoesBy_80 rfl ?_
          refine rf_if_le C (tgt := 101) (n := 86) dX8_hourGoesBy_83 (by decide) rfl (fun h13 => ?_) (fun h13 => ?_)
          · exact rf_lv _ [4] rfl (r_X8_hourGoesBy_101 C K fu _ ha1 _)
          · refine rf_aload_n C (n := 87) (q := 3) dX8_hourGoesBy_86 rfl rfl rfl ?_
            refine rf_aload_n C (n := 88) (q := 4) dX8_hourGoesBy_87 rfl rfl rfl ?_
            refine rf_iload_n C (n := 89) (q := 2) dX8_hourGoesBy_88 rfl rfl rfl ?_
            refine rf_aload_n C (n := 90) (q := 4) dX8_hourGoesBy_89 rfl rfl rfl ?_
            refine rf_getI C (n := 93) fl_RX8_46 (pS_l ha1) rfl dX8_hourGoesBy_90 rfl ?_
            refine rf_iconst C (n := 94) (v := (-1)) dX8_hourGoesBy_93 rfl (by decide) ?_
            refine rf_ixor C (n := 95) dX8_hourGoesBy_94 rfl ?_
            refine rf_iand C (n := 96) dX8_hourGoesBy_95 rfl ?_
            refine rf_iload C (n := 98) (q := 0) dX8_hourGoesBy_96 rfl rfl ?_
            refine rf_callVv C (n := 101) (c_X8_handReady G fu _ _ _ _) mw_RX8_75 ly_32 rfl ⟨by decide, by decide⟩ rfl (Nat.le_of_ble_eq_true rfl) rfl dX8_hourGoesBy_98 rfl (fun _ m14 => ?_)
            exact rf_lv _ [4] rfl (r_X8_hourGoesBy_101 C K fu _ ha1 _)
    · exact rf_vret C K dX8_hourGoesBy_17
noncomputable def f_X8_isHopeless_94 (fu : Nat) (k25 : Nat → Int32 → Int32 → hM → Option (Int32 × hM)) (a1 : Nat) (x2 : Int32) (x3 : Int32) (m : hM) : Option (Int32 × hM) :=
  hLet (x3 + 1) fun y9 =>
k25 a1 x2 y9 m
set_option maxRecDepth 100000 in
set_option maxHeartbeats 4000000 in
theorem r_X8_isHopeless_94 {G : hG} {X : hX} (C : Cx G X 2 cX8_isHopeless 6 RX8 (some .boolean)) (K : Cr G X) (fu : Nat) (k25 : Nat → Int32 → Int32 → hM → Option (Int32 × hM)) (hk25 : ∀ (a1 : Nat) (ha1 : a1 ∈ stL) (x2 : Int32) (x3 : Int32) (m : hM), Rf vI G X 25 [(0, hA G 32), (1, hA G a1), (2, .int x2), (3, .int x3)] [] m (k25 a1 x2 x3 m)) (a1 : Nat) (ha1 : a1 ∈ stL) (x2 : Int32) (x3 : Int32) (m : hM) : Rf vI G X 94 [(0, hA G 32), (1, hA G a1), (2, .int x2), (3, .int x3)] [] m (f_X8_isHopeless_94 fu k25 a1 x2 x3 m) := by
  unfold f_X8_isHopeless_94
  refine rf_iinc2 C (n := 97) (q := 3) (fun y9 => [(3, .int y9), (0, hA G 32), (1, hA G a1), (2, .int x2)]) dX8_isHopeless_94 rfl rfl (by decide) (by decide) (fun _ => rfl) (fun y9 => ?_)
  refine rf_goto C (n := 25) dX8_isHopeless_97 (by decide) ?_
  exact rf_lv _ [1, 2, 3, 0] rfl (hk25 _ ha1 _ _ _)
noncomputable def f_X8_isHopeless_74 (fu : Nat) (k25 : Nat → Int32 → Int32 → hM → Option (Int32 × hM)) (a1 : Nat) (x2 : Int32) (x3 : Int32) (s0 : Int32) (m : hM) : Option (Int32 × hM) :=
  if ¬ (((gI m a1 1) >>> (x3 &&& 31)) &&& 1) = 0 then (
f_X8_isHopeless_94 fu k25 a1 x2 x3 m) else (
if ¬ s0 = 0 then (
f_X8_isHopeless_94 fu k25 a1 x2 x3 m) else (
some (1, m)))
set_option maxRecDepth 100000 in
set_option maxHeartbeats 4000000 in
theorem r_X8_isHopeless_74 {G : hG} {X : hX} (C : Cx G X 2 cX8_isHopeless 6 RX8 (some .boolean)) (K : Cr G X) (fu : Nat) (k25 : Nat → Int32 → Int32 → hM → Option (Int32 × hM)) (hk25 : ∀ (a1 : Nat) (ha1 : a1 ∈ stL) (x2 : Int32) (x3 : Int32) (m : hM), Rf vI G X 25 [(0, hA G 32), (1, hA G a1), (2, .int x2), (3, .int x3)] [] m (k25 a1 x2 x3 m)) (a1 : Nat) (ha1 : a1 ∈ stL) (x2 : Int32) (x3 : Int32) (s0 : Int32) (m : hM) : Rf vI G X 74 [(0, hA G 32), (1, hA G a1), (2, .int x2), (3, .int x3)] [.int s0] m (f_X8_isHopeless_74 fu k25 a1 x2 x3 s0 m) := by
  unfold f_X8_isHopeless_74
  refine rf_istore C (n := 76) [(5, .int s0), (0, hA G 32), (1, hA G a1), (2, .int x2), (3, .int x3)] dX8_isHopeless_74 rfl (by decide) rfl ?_
  refine rf_aload_n C (n := 77) (q := 2) dX8_isHopeless_76 rfl rfl rfl ?_
  refine rf_getI C (n := 80) fl_RX8_46 (pS_l ha1) rfl dX8_isHopeless_77 rfl ?_
  refine rf_iload_n C (n := 81) (q := 4) dX8_isHopeless_80 rfl rfl rfl ?_
  refine rf_ishr C (n := 82) dX8_isHopeless_81 rfl ?_
  refine rf_iconst C (n := 83) (v := 1) dX8_isHopeless_82 rfl (by decide) ?_
  refine rf_iand C (n := 84) dX8_isHopeless_83 rfl ?_
  refine rf_if_ne C (tgt := 94) (n := 87) dX8_isHopeless_84 (by decide) rfl (fun h8 => ?_) (fun h8 => ?_)
  · exact rf_lv _ [1, 2, 3, 4] rfl (r_X8_isHopeless_94 C K fu _ hk25 _ ha1 _ _ _)
  · refine rf_iload C (n := 89) (q := 0) dX8_isHopeless_87 rfl rfl ?_
    refine rf_if_ne C (tgt := 94) (n := 92) dX8_isHopeless_89 (by decide) rfl (fun h10 => ?_) (fun h10 => ?_)
    · exact rf_lv _ [1, 2, 3, 4] rfl (r_X8_isHopeless_94 C K fu _ hk25 _ ha1 _ _ _)
    · refine rf_iconst C (n := 93) (v := 1) dX8_isHopeless_92 rfl (by decide) ?_
      exact rf_zret C K (by decide) dX8_isHopeless_93
noncomputable def s_X8_isHopeless_25 (fu : Nat) (ih : Nat → Int32 → Int32 → hM → Option (Int32 × hM)) (a1 : Nat) (x2 : Int32) (x3 : Int32) (m : hM) : Option (Int32 × hM) :=
  if (gI m 18 6) ≤ x3 then (
some (0, m)) else (
if hIn x3 8 then (
hBd (f_X0_officesWith fu (gI m 19 (Int32.toNatClampNeg x3)) m) fun y4 m5 =>
if x2 = 0 then (
if hIn x3 8 then (
f_X8_isHopeless_74 fu ih a1 x2 x3 (y4 &&& (1 <<< ((gI m5 (a1 + 1) (Int32.toNatClampNeg x3)) &&& 31))) m5) else none) else (
f_X8_isHopeless_74 fu ih a1 x2 x3 y4 m5)) else none)
noncomputable def f_X8_isHopeless_25 (fu : Nat) (n : Nat) : Nat → Int32 → Int32 → hM → Option (Int32 × hM) :=
  Nat.rec (motive := fun _ => Nat → Int32 → Int32 → hM → Option (Int32 × hM)) (fun _ _ _ _ => none) (fun _ ih => s_X8_isHopeless_25 fu ih) n
theorem f_X8_isHopeless_25_s (fu : Nat) (n : Nat) (a1 : Nat) (x2 : Int32) (x3 : Int32) (m : hM) : f_X8_isHopeless_25 fu (n + 1) a1 x2 x3 m = s_X8_isHopeless_25 fu (f_X8_isHopeless_25 fu n) a1 x2 x3 m := rfl
set_option maxRecDepth 100000 in
set_option maxHeartbeats 4000000 in
theorem r_X8_isHopeless_25 {G : hG} {X : hX} (C : Cx G X 2 cX8_isHopeless 6 RX8 (some .boolean)) (K : Cr G X) (fu : Nat) (n : Nat) : ∀ (a1 : Nat) (ha1 : a1 ∈ stL) (x2 : Int32) (x3 : Int32) (m : hM), Rf vI G X 25 [(0, hA G 32), (1, hA G a1), (2, .int x2), (3, .int x3)] [] m (f_X8_isHopeless_25 fu n a1 x2 x3 m) := by
  induction n with
  | zero => intros; exact rf_none
  | succ n ih =>
    intro a1 ha1 x2 x3 m
    show Rf vI G X 25 [(0, hA G 32), (1, hA G a1), (2, .int x2), (3, .int x3)] [] m (s_X8_isHopeless_25 fu (f_X8_isHopeless_25 fu n) a1 x2 x3 m)
    unfold s_X8_isHopeless_25
    refine rf_iload_n C (n := 26) (q := 3) dX8_isHopeless_25 rfl rfl rfl ?_
    refine rf_aload_n C (n := 27) (q := 0) dX8_isHopeless_26 rfl rfl rfl ?_
    refine rf_getS C (n := 30) fl_RX8_33 ly_32 rfl dX8_isHopeless_27 rfl ?_
    refine rf_getI C (n := 33) fl_RX8_41 ly_18 rfl dX8_isHopeless_30 rfl ?_
    refine rf_icmp_ge C (tgt := 100) (n := 36) dX8_isHopeless_33 (by decide) rfl (fun h2 => ?_) (fun h2 => ?_)
    · refine rf_iconst C (n := 101) (v := 0) dX8_isHopeless_100 rfl (by decide) ?_
      exact rf_zret C K (by decide) dX8_isHopeless_101
    · refine rf_aload_n C (n := 37) (q := 0) dX8_isHopeless_36 rfl rfl rfl ?_
      refine rf_getS C (n := 40) fl_RX8_29 ly_32 rfl dX8_isHopeless_37 rfl ?_
      refine rf_aload_n C (n := 41) (q := 0) dX8_isHopeless_40 rfl rfl rfl ?_
      refine rf_getS C (n := 44) fl_RX8_33 ly_32 rfl dX8_isHopeless_41 rfl ?_
      refine rf_getS C (n := 47) fl_RX8_113 ly_18 rfl dX8_isHopeless_44 rfl ?_
      refine rf_iload_n C (n := 48) (q := 3) dX8_isHopeless_47 rfl rfl rfl ?_
      refine rf_guard (fun h3 => ?_)
      refine rf_iald C (n := 49) ly_19 h3 rfl dX8_isHopeless_48 rfl ?_
      refine rf_callVi C (n := 52) (c_X0_officesWith G fu _ _) mw_RX8_207 ly_1 rfl ⟨by decide, by decide⟩ rfl (Nat.le_of_ble_eq_true rfl) rfl dX8_isHopeless_49 rfl (fun y4 m5 => ?_)
      refine rf_istore C (n := 54) [(4, .int y4), (0, hA G 32), (1, hA G a1), (2, .int x2), (3, .int x3)] dX8_isHopeless_52 rfl (by decide) rfl ?_
      refine rf_iload_n C (n := 55) (q := 3) dX8_isHopeless_54 rfl rfl rfl ?_
      refine rf_if_eq C (tgt := 63) (n := 58) dX8_isHopeless_55 (by decide) rfl (fun h6 => ?_) (fun h6 => ?_)
      · refine rf_iload C (n := 65) (q := 0) dX8_isHopeless_63 rfl rfl ?_
        refine rf_iconst C (n := 66) (v := 1) dX8_isHopeless_65 rfl (by decide) ?_
        refine rf_aload_n C (n := 67) (q := 2) dX8_isHopeless_66 rfl rfl rfl ?_
        refine rf_getS C (n := 70) fl_RX8_84 (pS_l ha1) rfl dX8_isHopeless_67 rfl ?_
        refine rf_iload_n C (n := 71) (q := 4) dX8_isHopeless_70 rfl rfl rfl ?_
        refine rf_guard (fun h7 => ?_)
        refine rf_iald C (n := 72) (st_a1 ha1) h7 rfl dX8_isHopeless_71 rfl ?_
        refine rf_ishl C (n := 73) dX8_isHopeless_72 rfl ?_
        refine rf_iand C (n := 74) dX8_isHopeless_73 rfl ?_
        exact rf_lv _ [1, 2, 3, 4] rfl (r_X8_isHopeless_74 C K fu _ ih _ ha1 _ _ _ _)
      · refine rf_iload C (n := 60) (q := 0) dX8_isHopeless_58 rfl rfl ?_
        refine rf_goto C (n := 74) dX8_isHopeless_60 (by decide) ?_
        exact rf_lv _ [1, 2, 3, 4] rfl (r_X8_isHopeless_74 C K fu _ ih _ ha1 _ _ _ _)
noncomputable def f_X8_isHopeless_22 (fu : Nat) (a1 : Nat) (s0 : Int32) (m : hM) : Option (Int32 × hM) :=
  f_X8_isHopeless_25 fu fu a1 s0 0 m
set_option maxRecDepth 100000 in
set_option maxHeartbeats 4000000 in
theorem r_X8_isHopeless_22 {G : hG} {X : hX} (C : Cx G X 2 cX8_isHopeless 6 RX8 (some .boolean)) (K : Cr G X) (fu : Nat) (a1 : Nat) (ha1 : a1 ∈ stL) (s0 : Int32) (m : hM) : Rf vI G X 22 [(0, hA G 32), (1, hA G a1)] [.int s0] m (f_X8_isHopeless_22 fu a1 s0 m) := by
  unfold f_X8_isHopeless_22
  refine rf_istore_n C (n := 23) [(2, .int s0), (0, hA G 32), (1, hA G a1)] dX8_isHopeless_22 rfl rfl (by decide) rfl ?_
  refine rf_iconst C (n := 24) (v := 0) dX8_isHopeless_23 rfl (by decide) ?_
  refine rf_istore_n C (n := 25) [(3, .int 0), (2, .int s0), (0, hA G 32), (1, hA G a1)] dX8_isHopeless_24 rfl rfl (by decide) rfl ?_
  exact rf_lv _ [2, 3, 1, 0] rfl (r_X8_isHopeless_25 C K fu fu _ ha1 _ _ _)
noncomputable def f_X8_isHopeless_21 (fu : Nat) (a1 : Nat) (m : hM) : Option (Int32 × hM) :=
  f_X8_isHopeless_22 fu a1 0 m
set_option maxRecDepth 100000 in
set_option maxHeartbeats 4000000 in
theorem r_X8_isHopeless_21 {G : hG} {X : hX} (C : Cx G X 2 cX8_isHopeless 6 RX8 (some .boolean)) (K : Cr G X) (fu : Nat) (a1 : Nat) (ha1 : a1 ∈ stL) (m : hM) : Rf vI G X 21 [(0, hA G 32), (1, hA G a1)] [] m (f_X8_isHopeless_21 fu a1 m) := by
  unfold f_X8_isHopeless_21
  refine rf_iconst C (n := 22) (v := 0) dX8_isHopeless_21 rfl (by decide) ?_
  exact rf_lv _ [0, 1] rfl (r_X8_isHopeless_22 C K fu _ ha1 _ _)
noncomputable def f_X8_isHopeless (fu : Nat) (a1 : Nat) (m : hM) : Option (Int32 × hM) :=
  if a1 ∈ stL then (if (gI m 32 3) = 0 then (
f_X8_isHopeless_21 fu a1 m) else (
if (gI m 25 1) ≤ 0 then (
f_X8_isHopeless_21 fu a1 m) else (
f_X8_isHopeless_22 fu a1 1 m))) else none
set_option maxRecDepth 100000 in
set_option maxHeartbeats 4000000 in
theorem c_X8_isHopeless (G : hG) (fu : Nat) (a1 : Nat) (m : hM) : Mt vI G 2 yX8_isHopeless cX8_isHopeless 6 (some .boolean) [hA G 32, hA G a1] m (f_X8_isHopeless fu a1 m) := by
  refine mt_of (by decide +kernel) (Nat.le_of_ble_eq_true rfl) (fun X C K => ?_)
  have C : Cx G X 2 cX8_isHopeless 6 RX8 (some .boolean) := C
  show Rf vI G X 0 [(0, hA G 32), (1, hA G a1)] [] m _
  unfold f_X8_isHopeless
  refine rf_guard (fun ha1 => ?_)
  refine rf_aload_n C (n := 1) (q := 0) dX8_isHopeless_0 rfl rfl rfl ?_
  refine rf_getI C (n := 4) fl_RX8_9 ly_32 rfl dX8_isHopeless_1 rfl ?_
  refine rf_if_eq C (tgt := 21) (n := 7) dX8_isHopeless_4 (by decide) rfl (fun h1 => ?_) (fun h1 => ?_)
  · exact rf_lv _ [0, 1] rfl (r_X8_isHopeless_21 C K fu _ ha1 _)
  · refine rf_aload_n C (n := 8) (q := 0) dX8_isHopeless_7 rfl rfl rfl ?_
    refine rf_getS C (n := 11) fl_RX8_37 ly_32 rfl dX8_isHopeless_8 rfl ?_
    refine rf_getI C (n := 14) fl_RX8_70 ly_25 rfl dX8_isHopeless_11 rfl ?_
    refine rf_if_le C (tgt := 21) (n := 17) dX8_isHopeless_14 (by decide) rfl (fun h11 => ?_) (fun h11 => ?_)
    · exact rf_lv _ [0, 1] rfl (r_X8_isHopeless_21 C K fu _ ha1 _)
    · refine rf_iconst C (n := 18) (v := 1) dX8_isHopeless_17 rfl (by decide) ?_
      refine rf_goto C (n := 22) dX8_isHopeless_18 (by decide) ?_
      exact rf_lv _ [0, 1] rfl (r_X8_isHopeless_22 C K fu _ ha1 _ _)
noncomputable def f_X8_runToEnd_58 (fu : Nat) (a1 : Nat) (x3 : Int32) (m : hM) : Option (Int32 × hM) :=
  if ¬ (gI m a1 1) = x3 then (
some ((-2), m)) else (
some (gI m a1 0, m))
set_option maxRecDepth 100000 in
set_option maxHeartbeats 4000000 in
theorem r_X8_runToEnd_58 {G : hG} {X : hX} (C : Cx G X 7 cX8_runToEnd 5 RX8 (some .int)) (K : Cr G X) (fu : Nat) (a1 : Nat) (ha1 : a1 ∈ stL) (x3 : Int32) (m : hM) : Rf vI G X 58 [(1, hA G a1), (3, .int x3)] [] m (f_X8_runToEnd_58 fu a1 x3 m) := by
  unfold f_X8_runToEnd_58
  refine rf_aload_n C (n := 59) (q := 0) dX8_runToEnd_58 rfl rfl rfl ?_
  refine rf_getI C (n := 62) fl_RX8_46 (pS_l ha1) rfl dX8_runToEnd_59 rfl ?_
  refine rf_iload_n C (n := 63) (q := 1) dX8_runToEnd_62 rfl rfl rfl ?_
  refine rf_icmp_ne C (tgt := 73) (n := 66) dX8_runToEnd_63 (by decide) rfl (fun h8 => ?_) (fun h8 => ?_)
  · refine rf_bipush C (n := 75) (v := (-2)) dX8_runToEnd_73 rfl (by decide) ?_
    exact rf_iret C K dX8_runToEnd_75
  · refine rf_aload_n C (n := 67) (q := 0) dX8_runToEnd_66 rfl rfl rfl ?_
    refine rf_getI C (n := 70) fl_RX8_54 (pS_l ha1) rfl dX8_runToEnd_67 rfl ?_
    refine rf_goto C (n := 75) dX8_runToEnd_70 (by decide) ?_
    exact rf_iret C K dX8_runToEnd_75
noncomputable def s_X8_runToEnd_25 (fu : Nat) (ih : Nat → Int32 → Int32 → Int32 → hM → Option (Int32 × hM)) (a1 : Nat) (x2 : Int32) (x3 : Int32) (x4 : Int32) (m : hM) : Option (Int32 × hM) :=
  if x2 ≤ x4 then (
f_X8_runToEnd_58 fu a1 x3 m) else (
if 2399 ≤ x4 then (
f_X8_runToEnd_58 fu a1 x3 m) else (
if (gI m a1 1) = x3 then (
f_X8_runToEnd_58 fu a1 x3 m) else (
hBd (f_X8_hourGoesBy fu a1 m) fun _ m11 =>
hLet (x4 + 1) fun y12 =>
ih a1 x2 x3 y12 m11)))
noncomputable def f_X8_runToEnd_25 (fu : Nat) (n : Nat) : Nat → Int32 → Int32 → Int32 → hM → Option (Int32 × hM) :=
  Nat.rec (motive := fun _ => Nat → Int32 → Int32 → Int32 → hM → Option (Int32 × hM)) (fun _ _ _ _ _ => none) (fun _ ih => s_X8_runToEnd_25 fu ih) n
theorem f_X8_runToEnd_25_s (fu : Nat) (n : Nat) (a1 : Nat) (x2 : Int32) (x3 : Int32) (x4 : Int32) (m : hM) : f_X8_runToEnd_25 fu (n + 1) a1 x2 x3 x4 m = s_X8_runToEnd_25 fu (f_X8_runToEnd_25 fu n) a1 x2 x3 x4 m := rfl
set_option maxRecDepth 100000 in
set_option maxHeartbeats 4000000 in
theorem r_X8_runToEnd_25 {G : hG} {X : hX} (C : Cx G X 7 cX8_runToEnd 5 RX8 (some .int)) (K : Cr G X) (fu : Nat) (n : Nat) : ∀ (a1 : Nat) (ha1 : a1 ∈ stL) (x2 : Int32) (x3 : Int32) (x4 : Int32) (m : hM), Rf vI G X 25 [(0, hA G 32), (1, hA G a1), (2, .int x2), (3, .int x3), (4, .int x4)] [] m (f_X8_runToEnd_25 fu n a1 x2 x3 x4 m) := by
  induction n with
  | zero => intros; exact rf_none
  | succ n ih =>
    intro a1 ha1 x2 x3 x4 m
    show Rf vI G X 25 [(0, hA G 32), (1, hA G a1), (2, .int x2), (3, .int x3), (4, .int x4)] [] m (s_X8_runToEnd_25 fu (f_X8_runToEnd_25 fu n) a1 x2 x3 x4 m)
    unfold s_X8_runToEnd_25
    refine rf_iload C (n := 27) (q := 4) dX8_runToEnd_25 rfl rfl ?_
    refine rf_iload_n C (n := 28) (q := 2) dX8_runToEnd_27 rfl rfl rfl ?_
    refine rf_icmp_ge C (tgt := 58) (n := 31) dX8_runToEnd_28 (by decide) rfl (fun h7 => ?_) (fun h7 => ?_)
    · exact rf_lv _ [1, 3] rfl (r_X8_runToEnd_58 C K fu _ ha1 _ _)
    · refine rf_iload C (n := 33) (q := 4) dX8_runToEnd_31 rfl rfl ?_
      refine rf_sipush C (n := 36) (v := 2399) dX8_runToEnd_33 rfl (by decide) ?_
      refine rf_icmp_ge C (tgt := 58) (n := 39) dX8_runToEnd_36 (by decide) rfl (fun h9 => ?_) (fun h9 => ?_)
      · exact rf_lv _ [1, 3] rfl (r_X8_runToEnd_58 C K fu _ ha1 _ _)
      · refine rf_aload_n C (n := 40) (q := 1) dX8_runToEnd_39 rfl rfl rfl ?_
        refine rf_getI C (n := 43) fl_RX8_46 (pS_l ha1) rfl dX8_runToEnd_40 rfl ?_
        refine rf_iload_n C (n := 44) (q := 3) dX8_runToEnd_43 rfl rfl rfl ?_
        refine rf_icmp_eq C (tgt := 58) (n := 47) dX8_runToEnd_44 (by decide) rfl (fun h10 => ?_) (fun h10 => ?_)
        · exact rf_lv _ [1, 3] rfl (r_X8_runToEnd_58 C K fu _ ha1 _ _)
        · refine rf_aload_n C (n := 48) (q := 0) dX8_runToEnd_47 rfl rfl rfl ?_
          refine rf_aload_n C (n := 49) (q := 1) dX8_runToEnd_48 rfl rfl rfl ?_
          refine rf_callVv C (n := 52) (c_X8_hourGoesBy G fu _ _) mw_RX8_203 ly_32 rfl ⟨by decide, by decide⟩ rfl (Nat.le_of_ble_eq_true rfl) rfl dX8_runToEnd_49 rfl (fun _ m11 => ?_)
          refine rf_iinc2 C (n := 55) (q := 4) (fun y12 => [(4, .int y12), (0, hA G 32), (1, hA G a1), (2, .int x2), (3, .int x3)]) dX8_runToEnd_52 rfl rfl (by decide) (by decide) (fun _ => rfl) (fun y12 => ?_)
          refine rf_goto C (n := 25) dX8_runToEnd_55 (by decide) ?_
          exact rf_lv _ [1, 2, 3, 4, 0] rfl (ih _ ha1 _ _ _ _)
noncomputable def f_X8_runToEnd (fu : Nat) (a1 : Nat) (x2 : Int32) (m : hM) : Option (Int32 × hM) :=
  if a1 ∈ stL then (hBd (f_X4_all fu m) fun y1 m2 =>
hBd (f_X8_isHopeless fu a1 m2) fun y3 m4 =>
if y3 = 0 then (
hLet (gI m4 a1 0) fun y6 =>
f_X8_runToEnd_25 fu fu a1 x2 y1 y6 m4) else (
some ((-2), m4))) else none
set_option maxRecDepth 100000 in
set_option maxHeartbeats 4000000 in
theorem c_X8_runToEnd (G : hG) (fu : Nat) (a1 : Nat) (x2 : Int32) (m : hM) : Mt vI G 7 yX8_runToEnd cX8_runToEnd 5 (some .int) [hA G 32, hA G a1, .int x2] m (f_X8_runToEnd fu a1 x2 m) := by
  refine mt_of (by decide +kernel) (Nat.le_of_ble_eq_true rfl) (fun X C K => ?_)
  have C : Cx G X 7 cX8_runToEnd 5 RX8 (some .int) := C
  show Rf vI G X 0 [(0, hA G 32), (1, hA G a1), (2, .int x2)] [] m _
  unfold f_X8_runToEnd
  refine rf_guard (fun ha1 => ?_)
  refine rf_aload_n C (n := 1) (q := 0) dX8_runToEnd_0 rfl rfl rfl ?_
  refine rf_getS C (n := 4) fl_RX8_33 ly_32 rfl dX8_runToEnd_1 rfl ?_
  refine rf_callVi C (n := 7) (c_X4_all G fu _) mw_RX8_196 ly_18 rfl ⟨by decide, by decide⟩ rfl (Nat.le_of_ble_eq_true rfl) rfl dX8_runToEnd_4 rfl (fun y1 m2 => ?_)
  refine rf_istore_n C (n := 8) [(3, .int y1), (0, hA G 32), (1, hA G a1), (2, .int x2)] dX8_runToEnd_7 rfl rfl (by decide) rfl ?_
  refine rf_aload_n C (n := 9) (q := 1) dX8_runToEnd_8 rfl rfl rfl ?_
  refine rf_aload_n C (n := 10) (q := 2) dX8_runToEnd_9 rfl rfl rfl ?_
  refine rf_callVi C (n := 13) (c_X8_isHopeless G fu _ _) mw_RX8_199 ly_32 rfl ⟨by decide, by decide⟩ rfl (Nat.le_of_ble_eq_true rfl) rfl dX8_runToEnd_10 rfl (fun y3 m4 => ?_)
  refine rf_if_eq C (tgt := 19) (n := 16) dX8_runToEnd_13 (by decide) rfl (fun h5 => ?_) (fun h5 => ?_)
  · refine rf_aload_n C (n := 20) (q := 2) dX8_runToEnd_19 rfl rfl rfl ?_
    refine rf_getI C (n := 23) fl_RX8_54 (pS_l ha1) rfl dX8_runToEnd_20 rfl ?_
    refine rf_letI (fun y6 => ?_)
    refine rf_istore C (n := 25) [(4, .int y6), (3, .int y1), (0, hA G 32), (1, hA G a1), (2, .int x2)] dX8_runToEnd_23 rfl (by decide) rfl ?_
    exact rf_lv _ [2, 3, 4, 1, 0] rfl (r_X8_runToEnd_25 C K fu fu _ ha1 _ _ _ _)
  · refine rf_bipush C (n := 18) (v := (-2)) dX8_runToEnd_16 rfl (by decide) ?_
    exact rf_iret C K dX8_runToEnd_18
noncomputable def f_X8_idleThough_114 (fu : Nat) (k2 : Int32 → Int32 → Int32 → hM → Option (Int32 × hM)) (x1 : Int32) (x2 : Int32) (x3 : Int32) (m : hM) : Option (Int32 × hM) :=
  hLet (x3 + 1) fun y3 =>
k2 x1 x2 y3 m
set_option maxRecDepth 100000 in
set_option maxHeartbeats 4000000 in
theorem r_X8_idleThough_114 {G : hG} {X : hX} (C : Cx G X 2 cX8_idleThough 6 RX8 (some .int)) (K : Cr G X) (fu : Nat) (k2 : Int32 → Int32 → Int32 → hM → Option (Int32 × hM)) (hk2 : ∀ (x1 : Int32) (x2 : Int32) (x3 : Int32) (m : hM), Rf vI G X 2 [(0, hA G 32), (1, .int x1), (2, .int x2), (3, .int x3)] [] m (k2 x1 x2 x3 m)) (x1 : Int32) (x2 : Int32) (x3 : Int32) (m : hM) : Rf vI G X 114 [(0, hA G 32), (1, .int x1), (2, .int x2), (3, .int x3)] [] m (f_X8_idleThough_114 fu k2 x1 x2 x3 m) := by
  unfold f_X8_idleThough_114
  refine rf_iinc2 C (n := 117) (q := 3) (fun y3 => [(3, .int y3), (0, hA G 32), (1, .int x1), (2, .int x2)]) dX8_idleThough_114 rfl rfl (by decide) (by decide) (fun _ => rfl) (fun y3 => ?_)
  refine rf_goto C (n := 2) dX8_idleThough_117 (by decide) ?_
  exact rf_lv _ [1, 2, 3, 0] rfl (hk2 _ _ _ _)
noncomputable def f_X8_idleThough_108 (fu : Nat) (k2 : Int32 → Int32 → Int32 → hM → Option (Int32 × hM)) (k16 : Int32 → Int32 → Int32 → Int32 → hM → Option (Int32 × hM)) (x1 : Int32) (x2 : Int32) (x3 : Int32) (x4 : Int32) (m : hM) : Option (Int32 × hM) :=
  hLet (x4 + 1) fun y8 =>
k16 x1 x2 x3 y8 m
set_option maxRecDepth 100000 in
set_option maxHeartbeats 4000000 in
theorem r_X8_idleThough_108 {G : hG} {X : hX} (C : Cx G X 2 cX8_idleThough 6 RX8 (some .int)) (K : Cr G X) (fu : Nat) (k2 : Int32 → Int32 → Int32 → hM → Option (Int32 × hM)) (hk2 : ∀ (x1 : Int32) (x2 : Int32) (x3 : Int32) (m : hM), Rf vI G X 2 [(0, hA G 32), (1, .int x1), (2, .int x2), (3, .int x3)] [] m (k2 x1 x2 x3 m)) (k16 : Int32 → Int32 → Int32 → Int32 → hM → Option (Int32 × hM)) (hk16 : ∀ (x1 : Int32) (x2 : Int32) (x3 : Int32) (x4 : Int32) (m : hM), Rf vI G X 16 [(0, hA G 32), (1, .int x1), (2, .int x2), (3, .int x3), (4, .int x4)] [] m (k16 x1 x2 x3 x4 m)) (x1 : Int32) (x2 : Int32) (x3 : Int32) (x4 : Int32) (m : hM) : Rf vI G X 108 [(0, hA G 32), (1, .int x1), (2, .int x2), (3, .int x3), (4, .int x4)] [] m (f_X8_idleThough_108 fu k2 k16 x1 x2 x3 x4 m) := by
  unfold f_X8_idleThough_108
  refine rf_iinc2 C (n := 111) (q := 4) (fun y8 => [(4, .int y8), (0, hA G 32), (1, .int x1), (2, .int x2), (3, .int x3)]) dX8_idleThough_108 rfl rfl (by decide) (by decide) (fun _ => rfl) (fun y8 => ?_)
  refine rf_goto C (n := 16) dX8_idleThough_111 (by decide) ?_
  exact rf_lv _ [1, 2, 3, 4, 0] rfl (hk16 _ _ _ _ _)
noncomputable def f_X8_idleThough_100 (fu : Nat) (x3 : Int32) (x4 : Int32) (m : hM) : Option (Int32 × hM) :=
  some ((x3 * 6) + x4, m)
set_option maxRecDepth 100000 in
set_option maxHeartbeats 4000000 in
theorem r_X8_idleThough_100 {G : hG} {X : hX} (C : Cx G X 2 cX8_idleThough 6 RX8 (some .int)) (K : Cr G X) (fu : Nat) (x3 : Int32) (x4 : Int32) (m : hM) : Rf vI G X 100 [(3, .int x3), (4, .int x4)] [] m (f_X8_idleThough_100 fu x3 x4 m) := by
  unfold f_X8_idleThough_100
  refine rf_iload_n C (n := 101) (q := 0) dX8_idleThough_100 rfl rfl rfl ?_
  refine rf_bipush C (n := 103) (v := 6) dX8_idleThough_101 rfl (by decide) ?_
  refine rf_imul C (n := 104) dX8_idleThough_103 rfl ?_
  refine rf_iload C (n := 106) (q := 1) dX8_idleThough_104 rfl rfl ?_
  refine rf_iadd C (n := 107) dX8_idleThough_106 rfl ?_
  exact rf_iret C K dX8_idleThough_107
noncomputable def f_X8_idleThough_60 (fu : Nat) (k2 : Int32 → Int32 → Int32 → hM → Option (Int32 × hM)) (k16 : Int32 → Int32 → Int32 → Int32 → hM → Option (Int32 × hM)) (x1 : Int32) (x2 : Int32) (x3 : Int32) (x4 : Int32) (s0 : Int32) (m : hM) : Option (Int32 × hM) :=
  if s0 = 0 then (
f_X8_idleThough_108 fu k2 k16 x1 x2 x3 x4 m) else (
hBd (f_X8_canWork fu x3 x4 m) fun y9 m10 =>
if y9 = 0 then (
f_X8_idleThough_108 fu k2 k16 x1 x2 x3 x4 m10) else (
if hIn x4 6 then (
if hIn x4 6 then (
if (gI m10 (6 + 2 * (Int32.toNatClampNeg x4)) 4) ≤ (gI m10 33 (Int32.toNatClampNeg x4)) then (
f_X8_idleThough_108 fu k2 k16 x1 x2 x3 x4 m10) else (
f_X8_idleThough_100 fu x3 x4 m10)) else none) else none))
set_option maxRecDepth 100000 in
set_option maxHeartbeats 4000000 in
theorem r_X8_idleThough_60 {G : hG} {X : hX} (C : Cx G X 2 cX8_idleThough 6 RX8 (some .int)) (K : Cr G X) (fu : Nat) (k2 : Int32 → Int32 → Int32 → hM → Option (Int32 × hM)) (hk2 : ∀ (x1 : Int32) (x2 : Int32) (x3 : Int32) (m : hM), Rf vI G X 2 [(0, hA G 32), (1, .int x1), (2, .int x2), (3, .int x3)] [] m (k2 x1 x2 x3 m)) (k16 : Int32 → Int32 → Int32 → Int32 → hM → Option (Int32 × hM)) (hk16 : ∀ (x1 : Int32) (x2 : Int32) (x3 : Int32) (x4 : Int32) (m : hM), Rf vI G X 16 [(0, hA G 32), (1, .int x1), (2, .int x2), (3, .int x3), (4, .int x4)] [] m (k16 x1 x2 x3 x4 m)) (x1 : Int32) (x2 : Int32) (x3 : Int32) (x4 : Int32) (s0 : Int32) (m : hM) : Rf vI G X 60 [(0, hA G 32), (1, .int x1), (2, .int x2), (3, .int x3), (4, .int x4)] [.int s0] m (f_X8_idleThough_60 fu k2 k16 x1 x2 x3 x4 s0 m) := by
  unfold f_X8_idleThough_60
  refine rf_istore C (n := 62) [(5, .int s0), (0, hA G 32), (1, .int x1), (2, .int x2), (3, .int x3), (4, .int x4)] dX8_idleThough_60 rfl (by decide) rfl ?_
  refine rf_iload C (n := 64) (q := 0) dX8_idleThough_62 rfl rfl ?_
  refine rf_if_eq C (tgt := 108) (n := 67) dX8_idleThough_64 (by decide) rfl (fun h7 => ?_) (fun h7 => ?_)
  · exact rf_lv _ [1, 2, 3, 4, 5] rfl (r_X8_idleThough_108 C K fu _ hk2 _ hk16 _ _ _ _ _)
  · refine rf_aload_n C (n := 68) (q := 1) dX8_idleThough_67 rfl rfl rfl ?_
    refine rf_iload_n C (n := 69) (q := 4) dX8_idleThough_68 rfl rfl rfl ?_
    refine rf_iload C (n := 71) (q := 5) dX8_idleThough_69 rfl rfl ?_
    refine rf_callVi C (n := 74) (c_X8_canWork G fu _ _ _) mw_RX8_93 ly_32 rfl ⟨by decide, by decide⟩ rfl (Nat.le_of_ble_eq_true rfl) rfl dX8_idleThough_71 rfl (fun y9 m10 => ?_)
    refine rf_if_eq C (tgt := 108) (n := 77) dX8_idleThough_74 (by decide) rfl (fun h11 => ?_) (fun h11 => ?_)
    · exact rf_lv _ [1, 2, 3, 4, 5] rfl (r_X8_idleThough_108 C K fu _ hk2 _ hk16 _ _ _ _ _)
    · refine rf_aload_n C (n := 78) (q := 1) dX8_idleThough_77 rfl rfl rfl ?_
      refine rf_getS C (n := 81) fl_RX8_22 ly_32 rfl dX8_idleThough_78 rfl ?_
      refine rf_iload C (n := 83) (q := 5) dX8_idleThough_81 rfl rfl ?_
      refine rf_guard (fun h12 => ?_)
      refine rf_iald C (n := 84) ly_33 h12 rfl dX8_idleThough_83 rfl ?_
      refine rf_aload_n C (n := 85) (q := 1) dX8_idleThough_84 rfl rfl rfl ?_
      refine rf_getS C (n := 88) fl_RX8_29 ly_32 rfl dX8_idleThough_85 rfl ?_
      refine rf_getS C (n := 91) fl_RX8_97 ly_1 rfl dX8_idleThough_88 rfl ?_
      refine rf_iload C (n := 93) (q := 5) dX8_idleThough_91 rfl rfl ?_
      refine rf_guard (fun h13 => ?_)
      refine rf_aaldO C (n := 94) ly_2 h13 (of_r h13) dX8_idleThough_93 rfl ?_
      refine rf_getI C (n := 97) fl_RX8_101 (pO_l (of_o h13)) rfl dX8_idleThough_94 rfl ?_
      refine rf_icmp_ge C (tgt := 108) (n := 100) dX8_idleThough_97 (by decide) rfl (fun h14 => ?_) (fun h14 => ?_)
      · exact rf_lv _ [1, 2, 3, 4, 5] rfl (r_X8_idleThough_108 C K fu _ hk2 _ hk16 _ _ _ _ _)
      · exact rf_lv _ [4, 5] rfl (r_X8_idleThough_100 C K fu _ _ _)
noncomputable def s_X8_idleThough_16 (fu : Nat) (k2 : Int32 → Int32 → Int32 → hM → Option (Int32 × hM)) (ih : Int32 → Int32 → Int32 → Int32 → hM → Option (Int32 × hM)) (x1 : Int32) (x2 : Int32) (x3 : Int32) (x4 : Int32) (m : hM) : Option (Int32 × hM) :=
  if (gI m 1 4) ≤ x4 then (
f_X8_idleThough_114 fu k2 x1 x2 x3 m) else (
if ¬ ((x1 >>> (x3 &&& 31)) &&& 1) = 1 then (
f_X8_idleThough_114 fu k2 x1 x2 x3 m) else (
if hIn x2 2500 then (
if ¬ (((gI m 4 (Int32.toNatClampNeg x2)) >>> (x4 &&& 31)) &&& 1) = 1 then (
f_X8_idleThough_60 fu k2 ih x1 x2 x3 x4 0 m) else (
f_X8_idleThough_60 fu k2 ih x1 x2 x3 x4 1 m)) else none))
noncomputable def f_X8_idleThough_16 (fu : Nat) (k2 : Int32 → Int32 → Int32 → hM → Option (Int32 × hM)) (n : Nat) : Int32 → Int32 → Int32 → Int32 → hM → Option (Int32 × hM) :=
  Nat.rec (motive := fun _ => Int32 → Int32 → Int32 → Int32 → hM → Option (Int32 × hM)) (fun _ _ _ _ _ => none) (fun _ ih => s_X8_idleThough_16 fu k2 ih) n
theorem f_X8_idleThough_16_s (fu : Nat) (k2 : Int32 → Int32 → Int32 → hM → Option (Int32 × hM)) (n : Nat) (x1 : Int32) (x2 : Int32) (x3 : Int32) (x4 : Int32) (m : hM) : f_X8_idleThough_16 fu k2 (n + 1) x1 x2 x3 x4 m = s_X8_idleThough_16 fu k2 (f_X8_idleThough_16 fu k2 n) x1 x2 x3 x4 m := rfl
set_option maxRecDepth 100000 in
set_option maxHeartbeats 4000000 in
theorem r_X8_idleThough_16 {G : hG} {X : hX} (C : Cx G X 2 cX8_idleThough 6 RX8 (some .int)) (K : Cr G X) (fu : Nat) (k2 : Int32 → Int32 → Int32 → hM → Option (Int32 × hM)) (hk2 : ∀ (x1 : Int32) (x2 : Int32) (x3 : Int32) (m : hM), Rf vI G X 2 [(0, hA G 32), (1, .int x1), (2, .int x2), (3, .int x3)] [] m (k2 x1 x2 x3 m)) (n : Nat) : ∀ (x1 : Int32) (x2 : Int32) (x3 : Int32) (x4 : Int32) (m : hM), Rf vI G X 16 [(0, hA G 32), (1, .int x1), (2, .int x2), (3, .int x3), (4, .int x4)] [] m (f_X8_idleThough_16 fu k2 n x1 x2 x3 x4 m) := by
  induction n with
  | zero => intros; exact rf_none
  | succ n ih =>
    intro x1 x2 x3 x4 m
    show Rf vI G X 16 [(0, hA G 32), (1, .int x1), (2, .int x2), (3, .int x3), (4, .int x4)] [] m (s_X8_idleThough_16 fu k2 (f_X8_idleThough_16 fu k2 n) x1 x2 x3 x4 m)
    unfold s_X8_idleThough_16
    refine rf_iload C (n := 18) (q := 4) dX8_idleThough_16 rfl rfl ?_
    refine rf_aload_n C (n := 19) (q := 0) dX8_idleThough_18 rfl rfl rfl ?_
    refine rf_getS C (n := 22) fl_RX8_29 ly_32 rfl dX8_idleThough_19 rfl ?_
    refine rf_getI C (n := 25) fl_RX8_139 ly_1 rfl dX8_idleThough_22 rfl ?_
    refine rf_icmp_ge C (tgt := 114) (n := 28) dX8_idleThough_25 (by decide) rfl (fun h2 => ?_) (fun h2 => ?_)
    · exact rf_lv _ [0, 1, 2, 3] rfl (r_X8_idleThough_114 C K fu _ hk2 _ _ _ _)
    · refine rf_iload_n C (n := 29) (q := 1) dX8_idleThough_28 rfl rfl rfl ?_
      refine rf_iload_n C (n := 30) (q := 3) dX8_idleThough_29 rfl rfl rfl ?_
      refine rf_ishr C (n := 31) dX8_idleThough_30 rfl ?_
      refine rf_iconst C (n := 32) (v := 1) dX8_idleThough_31 rfl (by decide) ?_
      refine rf_iand C (n := 33) dX8_idleThough_32 rfl ?_
      refine rf_iconst C (n := 34) (v := 1) dX8_idleThough_33 rfl (by decide) ?_
      refine rf_icmp_ne C (tgt := 114) (n := 37) dX8_idleThough_34 (by decide) rfl (fun h4 => ?_) (fun h4 => ?_)
      · exact rf_lv _ [0, 1, 2, 3] rfl (r_X8_idleThough_114 C K fu _ hk2 _ _ _ _)
      · refine rf_aload_n C (n := 38) (q := 0) dX8_idleThough_37 rfl rfl rfl ?_
        refine rf_getS C (n := 41) fl_RX8_29 ly_32 rfl dX8_idleThough_38 rfl ?_
        refine rf_getS C (n := 44) fl_RX8_61 ly_1 rfl dX8_idleThough_41 rfl ?_
        refine rf_iload_n C (n := 45) (q := 2) dX8_idleThough_44 rfl rfl rfl ?_
        refine rf_guard (fun h5 => ?_)
        refine rf_iald C (n := 46) ly_4 h5 rfl dX8_idleThough_45 rfl ?_
        refine rf_iload C (n := 48) (q := 4) dX8_idleThough_46 rfl rfl ?_
        refine rf_ishr C (n := 49) dX8_idleThough_48 rfl ?_
        refine rf_iconst C (n := 50) (v := 1) dX8_idleThough_49 rfl (by decide) ?_
        refine rf_iand C (n := 51) dX8_idleThough_50 rfl ?_
        refine rf_iconst C (n := 52) (v := 1) dX8_idleThough_51 rfl (by decide) ?_
        refine rf_icmp_ne C (tgt := 59) (n := 55) dX8_idleThough_52 (by decide) rfl (fun h6 => ?_) (fun h6 => ?_)
        · refine rf_iconst C (n := 60) (v := 0) dX8_idleThough_59 rfl (by decide) ?_
          exact rf_lv _ [0, 1, 2, 3, 4] rfl (r_X8_idleThough_60 C K fu _ hk2 _ ih _ _ _ _ _ _)
        · refine rf_iconst C (n := 56) (v := 1) dX8_idleThough_55 rfl (by decide) ?_
          refine rf_goto C (n := 60) dX8_idleThough_56 (by decide) ?_
          exact rf_lv _ [0, 1, 2, 3, 4] rfl (r_X8_idleThough_60 C K fu _ hk2 _ ih _ _ _ _ _ _)
noncomputable def s_X8_idleThough_2 (fu : Nat) (ih : Int32 → Int32 → Int32 → hM → Option (Int32 × hM)) (x1 : Int32) (x2 : Int32) (x3 : Int32) (m : hM) : Option (Int32 × hM) :=
  if (gI m 18 6) ≤ x3 then (
some ((-1), m)) else (
f_X8_idleThough_16 fu ih fu x1 x2 x3 0 m)
noncomputable def f_X8_idleThough_2 (fu : Nat) (n : Nat) : Int32 → Int32 → Int32 → hM → Option (Int32 × hM) :=
  Nat.rec (motive := fun _ => Int32 → Int32 → Int32 → hM → Option (Int32 × hM)) (fun _ _ _ _ => none) (fun _ ih => s_X8_idleThough_2 fu ih) n
theorem f_X8_idleThough_2_s (fu : Nat) (n : Nat) (x1 : Int32) (x2 : Int32) (x3 : Int32) (m : hM) : f_X8_idleThough_2 fu (n + 1) x1 x2 x3 m = s_X8_idleThough_2 fu (f_X8_idleThough_2 fu n) x1 x2 x3 m := rfl
set_option maxRecDepth 100000 in
set_option maxHeartbeats 4000000 in
theorem r_X8_idleThough_2 {G : hG} {X : hX} (C : Cx G X 2 cX8_idleThough 6 RX8 (some .int)) (K : Cr G X) (fu : Nat) (n : Nat) : ∀ (x1 : Int32) (x2 : Int32) (x3 : Int32) (m : hM), Rf vI G X 2 [(0, hA G 32), (1, .int x1), (2, .int x2), (3, .int x3)] [] m (f_X8_idleThough_2 fu n x1 x2 x3 m) := by
  induction n with
  | zero => intros; exact rf_none
  | succ n ih =>
    intro x1 x2 x3 m
    show Rf vI G X 2 [(0, hA G 32), (1, .int x1), (2, .int x2), (3, .int x3)] [] m (s_X8_idleThough_2 fu (f_X8_idleThough_2 fu n) x1 x2 x3 m)
    unfold s_X8_idleThough_2
    refine rf_iload_n C (n := 3) (q := 3) dX8_idleThough_2 rfl rfl rfl ?_
    refine rf_aload_n C (n := 4) (q := 0) dX8_idleThough_3 rfl rfl rfl ?_
    refine rf_getS C (n := 7) fl_RX8_33 ly_32 rfl dX8_idleThough_4 rfl ?_
    refine rf_getI C (n := 10) fl_RX8_41 ly_18 rfl dX8_idleThough_7 rfl ?_
    refine rf_icmp_ge C (tgt := 120) (n := 13) dX8_idleThough_10 (by decide) rfl (fun h1 => ?_) (fun h1 => ?_)
    · refine rf_iconst C (n := 121) (v := (-1)) dX8_idleThough_120 rfl (by decide) ?_
      exact rf_iret C K dX8_idleThough_121
    · refine rf_iconst C (n := 14) (v := 0) dX8_idleThough_13 rfl (by decide) ?_
      refine rf_istore C (n := 16) [(4, .int 0), (0, hA G 32), (1, .int x1), (2, .int x2), (3, .int x3)] dX8_idleThough_14 rfl (by decide) rfl ?_
      exact rf_lv _ [1, 2, 3, 4, 0] rfl (r_X8_idleThough_16 C K fu _ ih fu _ _ _ _ _)
noncomputable def f_X8_idleThough (fu : Nat) (x1 : Int32) (x2 : Int32) (m : hM) : Option (Int32 × hM) :=
  f_X8_idleThough_2 fu fu x1 x2 0 m
set_option maxRecDepth 100000 in
set_option maxHeartbeats 4000000 in
theorem c_X8_idleThough (G : hG) (fu : Nat) (x1 : Int32) (x2 : Int32) (m : hM) : Mt vI G 2 yX8_idleThough cX8_idleThough 6 (some .int) [hA G 32, .int x1, .int x2] m (f_X8_idleThough fu x1 x2 m) := by
  refine mt_of (by decide +kernel) (Nat.le_of_ble_eq_true rfl) (fun X C K => ?_)
  have C : Cx G X 2 cX8_idleThough 6 RX8 (some .int) := C
  show Rf vI G X 0 [(0, hA G 32), (1, .int x1), (2, .int x2)] [] m _
  unfold f_X8_idleThough
  refine rf_iconst C (n := 1) (v := 0) dX8_idleThough_0 rfl (by decide) ?_
  refine rf_istore_n C (n := 2) [(3, .int 0), (0, hA G 32), (1, .int x1), (2, .int x2)] dX8_idleThough_1 rfl rfl (by decide) rfl ?_
  exact rf_lv _ [1, 2, 3, 0] rfl (r_X8_idleThough_2 C K fu fu _ _ _ _)
noncomputable def f_X8_doneAlone_195 (fu : Nat) (k48 : Int32 → Int32 → Int32 → Int32 → Int32 → Int32 → Int32 → Int32 → hM → Option (Int32 × hM)) (x1 : Int32) (x2 : Int32) (x4 : Int32) (x5 : Int32) (x6 : Int32) (x7 : Int32) (x8 : Int32) (x9 : Int32) (m : hM) : Option (Int32 × hM) :=
  hLet (x9 + 1) fun y14 =>
k48 x1 x2 x4 x5 x6 x7 x8 y14 m
set_option maxRecDepth 100000 in
set_option maxHeartbeats 4000000 in
theorem r_X8_doneAlone_195 {G : hG} {X : hX} (C : Cx G X 2 cX8_doneAlone 11 RX8 (some .int)) (K : Cr G X) (fu : Nat) (k48 : Int32 → Int32 → Int32 → Int32 → Int32 → Int32 → Int32 → Int32 → hM → Option (Int32 × hM)) (hk48 : ∀ (x1 : Int32) (x2 : Int32) (x4 : Int32) (x5 : Int32) (x6 : Int32) (x7 : Int32) (x8 : Int32) (x9 : Int32) (m : hM), Rf vI G X 48 [(0, hA G 32), (1, .int x1), (2, .int x2), (4, .int x4), (5, .int x5), (6, .int x6), (7, .int x7), (8, .int x8), (9, .int x9)] [] m (k48 x1 x2 x4 x5 x6 x7 x8 x9 m)) (x1 : Int32) (x2 : Int32) (x4 : Int32) (x5 : Int32) (x6 : Int32) (x7 : Int32) (x8 : Int32) (x9 : Int32) (m : hM) : Rf vI G X 195 [(0, hA G 32), (1, .int x1), (2, .int x2), (4, .int x4), (5, .int x5), (6, .int x6), (7, .int x7), (8, .int x8), (9, .int x9)] [] m (f_X8_doneAlone_195 fu k48 x1 x2 x4 x5 x6 x7 x8 x9 m) := by
  unfold f_X8_doneAlone_195
  refine rf_iinc2 C (n := 198) (q := 8) (fun y14 => [(9, .int y14), (0, hA G 32), (1, .int x1), (2, .int x2), (4, .int x4), (5, .int x5), (6, .int x6), (7, .int x7), (8, .int x8)]) dX8_doneAlone_195 rfl rfl (by decide) (by decide) (fun _ => rfl) (fun y14 => ?_)
  refine rf_goto C (n := 48) dX8_doneAlone_198 (by decide) ?_
  exact rf_lv _ [1, 2, 3, 4, 5, 6, 7, 8, 0] rfl (hk48 _ _ _ _ _ _ _ _ _)
noncomputable def f_X8_doneAlone_193 (fu : Nat) (k48 : Int32 → Int32 → Int32 → Int32 → Int32 → Int32 → Int32 → Int32 → hM → Option (Int32 × hM)) (x1 : Int32) (x2 : Int32) (x4 : Int32) (x5 : Int32) (x6 : Int32) (x8 : Int32) (x9 : Int32) (s0 : Int32) (m : hM) : Option (Int32 × hM) :=
  f_X8_doneAlone_195 fu k48 x1 x2 x4 x5 x6 s0 x8 x9 m
set_option maxRecDepth 100000 in
set_option maxHeartbeats 4000000 in
theorem r_X8_doneAlone_193 {G : hG} {X : hX} (C : Cx G X 2 cX8_doneAlone 11 RX8 (some .int)) (K : Cr G X) (fu : Nat) (k48 : Int32 → Int32 → Int32 → Int32 → Int32 → Int32 → Int32 → Int32 → hM → Option (Int32 × hM)) (hk48 : ∀ (x1 : Int32) (x2 : Int32) (x4 : Int32) (x5 : Int32) (x6 : Int32) (x7 : Int32) (x8 : Int32) (x9 : Int32) (m : hM), Rf vI G X 48 [(0, hA G 32), (1, .int x1), (2, .int x2), (4, .int x4), (5, .int x5), (6, .int x6), (7, .int x7), (8, .int x8), (9, .int x9)] [] m (k48 x1 x2 x4 x5 x6 x7 x8 x9 m)) (x1 : Int32) (x2 : Int32) (x4 : Int32) (x5 : Int32) (x6 : Int32) (x8 : Int32) (x9 : Int32) (s0 : Int32) (m : hM) : Rf vI G X 193 [(0, hA G 32), (1, .int x1), (2, .int x2), (4, .int x4), (5, .int x5), (6, .int x6), (8, .int x8), (9, .int x9)] [.int s0] m (f_X8_doneAlone_193 fu k48 x1 x2 x4 x5 x6 x8 x9 s0 m) := by
  unfold f_X8_doneAlone_193
  refine rf_istore C (n := 195) [(7, .int s0), (0, hA G 32), (1, .int x1), (2, .int x2), (4, .int x4), (5, .int x5), (6, .int x6), (8, .int x8), (9, .int x9)] dX8_doneAlone_193 rfl (by decide) rfl ?_
  exact rf_lv _ [1, 2, 3, 4, 5, 6, 0, 7, 8] rfl (r_X8_doneAlone_195 C K fu _ hk48 _ _ _ _ _ _ _ _ _)
noncomputable def f_X8_doneAlone_180 (fu : Nat) (k48 : Int32 → Int32 → Int32 → Int32 → Int32 → Int32 → Int32 → Int32 → hM → Option (Int32 × hM)) (x1 : Int32) (x2 : Int32) (x4 : Int32) (x5 : Int32) (x6 : Int32) (x7 : Int32) (x9 : Int32) (s0 : Int32) (m : hM) : Option (Int32 × hM) :=
  if s0 = 0 then (
f_X8_doneAlone_193 fu k48 x1 x2 x4 x5 x6 s0 x9 x7 m) else (
f_X8_doneAlone_193 fu k48 x1 x2 x4 x5 x6 s0 x9 0 m)
set_option maxRecDepth 100000 in
set_option maxHeartbeats 4000000 in
theorem r_X8_doneAlone_180 {G : hG} {X : hX} (C : Cx G X 2 cX8_doneAlone 11 RX8 (some .int)) (K : Cr G X) (fu : Nat) (k48 : Int32 → Int32 → Int32 → Int32 → Int32 → Int32 → Int32 → Int32 → hM → Option (Int32 × hM)) (hk48 : ∀ (x1 : Int32) (x2 : Int32) (x4 : Int32) (x5 : Int32) (x6 : Int32) (x7 : Int32) (x8 : Int32) (x9 : Int32) (m : hM), Rf vI G X 48 [(0, hA G 32), (1, .int x1), (2, .int x2), (4, .int x4), (5, .int x5), (6, .int x6), (7, .int x7), (8, .int x8), (9, .int x9)] [] m (k48 x1 x2 x4 x5 x6 x7 x8 x9 m)) (x1 : Int32) (x2 : Int32) (x4 : Int32) (x5 : Int32) (x6 : Int32) (x7 : Int32) (x9 : Int32) (s0 : Int32) (m : hM) : Rf vI G X 180 [(0, hA G 32), (1, .int x1), (2, .int x2), (4, .int x4), (5, .int x5), (6, .int x6), (7, .int x7), (9, .int x9)] [.int s0] m (f_X8_doneAlone_180 fu k48 x1 x2 x4 x5 x6 x7 x9 s0 m) := by
  unfold f_X8_doneAlone_180
  refine rf_istore C (n := 182) [(8, .int s0), (0, hA G 32), (1, .int x1), (2, .int x2), (4, .int x4), (5, .int x5), (6, .int x6), (7, .int x7), (9, .int x9)] dX8_doneAlone_180 rfl (by decide) rfl ?_
  refine rf_iload C (n := 184) (q := 0) dX8_doneAlone_182 rfl rfl ?_
  refine rf_if_eq C (tgt := 191) (n := 187) dX8_doneAlone_184 (by decide) rfl (fun h19 => ?_) (fun h19 => ?_)
  · refine rf_iload C (n := 193) (q := 7) dX8_doneAlone_191 rfl rfl ?_
    exact rf_lv _ [1, 2, 3, 4, 5, 6, 0, 8] rfl (r_X8_doneAlone_193 C K fu _ hk48 _ _ _ _ _ _ _ _ _)
  · refine rf_iconst C (n := 188) (v := 0) dX8_doneAlone_187 rfl (by decide) ?_
    refine rf_goto C (n := 193) dX8_doneAlone_188 (by decide) ?_
    exact rf_lv _ [1, 2, 3, 4, 5, 6, 0, 8] rfl (r_X8_doneAlone_193 C K fu _ hk48 _ _ _ _ _ _ _ _ _)
noncomputable def f_X8_doneAlone_179 (fu : Nat) (k48 : Int32 → Int32 → Int32 → Int32 → Int32 → Int32 → Int32 → Int32 → hM → Option (Int32 × hM)) (x1 : Int32) (x2 : Int32) (x4 : Int32) (x5 : Int32) (x6 : Int32) (x7 : Int32) (x9 : Int32) (m : hM) : Option (Int32 × hM) :=
  f_X8_doneAlone_180 fu k48 x1 x2 x4 x5 x6 x7 x9 0 m
set_option maxRecDepth 100000 in
set_option maxHeartbeats 4000000 in
theorem r_X8_doneAlone_179 {G : hG} {X : hX} (C : Cx G X 2 cX8_doneAlone 11 RX8 (some .int)) (K : Cr G X) (fu : Nat) (k48 : Int32 → Int32 → Int32 → Int32 → Int32 → Int32 → Int32 → Int32 → hM → Option (Int32 × hM)) (hk48 : ∀ (x1 : Int32) (x2 : Int32) (x4 : Int32) (x5 : Int32) (x6 : Int32) (x7 : Int32) (x8 : Int32) (x9 : Int32) (m : hM), Rf vI G X 48 [(0, hA G 32), (1, .int x1), (2, .int x2), (4, .int x4), (5, .int x5), (6, .int x6), (7, .int x7), (8, .int x8), (9, .int x9)] [] m (k48 x1 x2 x4 x5 x6 x7 x8 x9 m)) (x1 : Int32) (x2 : Int32) (x4 : Int32) (x5 : Int32) (x6 : Int32) (x7 : Int32) (x9 : Int32) (m : hM) : Rf vI G X 179 [(0, hA G 32), (1, .int x1), (2, .int x2), (4, .int x4), (5, .int x5), (6, .int x6), (7, .int x7), (9, .int x9)] [] m (f_X8_doneAlone_179 fu k48 x1 x2 x4 x5 x6 x7 x9 m) := by
  unfold f_X8_doneAlone_179
  refine rf_iconst C (n := 180) (v := 0) dX8_doneAlone_179 rfl (by decide) ?_
  exact rf_lv _ [0, 1, 2, 3, 4, 5, 6, 7] rfl (r_X8_doneAlone_180 C K fu _ hk48 _ _ _ _ _ _ _ _ _)
noncomputable def f_X8_doneAlone_129 (fu : Nat) (k48 : Int32 → Int32 → Int32 → Int32 → Int32 → Int32 → Int32 → Int32 → hM → Option (Int32 × hM)) (x1 : Int32) (x2 : Int32) (x4 : Int32) (x5 : Int32) (x6 : Int32) (x7 : Int32) (x9 : Int32) (s0 : Int32) (m : hM) : Option (Int32 × hM) :=
  f_X8_doneAlone_195 fu k48 x1 x2 x4 x5 x6 x7 s0 x9 m
set_option maxRecDepth 100000 in
set_option maxHeartbeats 4000000 in
theorem r_X8_doneAlone_129 {G : hG} {X : hX} (C : Cx G X 2 cX8_doneAlone 11 RX8 (some .int)) (K : Cr G X) (fu : Nat) (k48 : Int32 → Int32 → Int32 → Int32 → Int32 → Int32 → Int32 → Int32 → hM → Option (Int32 × hM)) (hk48 : ∀ (x1 : Int32) (x2 : Int32) (x4 : Int32) (x5 : Int32) (x6 : Int32) (x7 : Int32) (x8 : Int32) (x9 : Int32) (m : hM), Rf vI G X 48 [(0, hA G 32), (1, .int x1), (2, .int x2), (4, .int x4), (5, .int x5), (6, .int x6), (7, .int x7), (8, .int x8), (9, .int x9)] [] m (k48 x1 x2 x4 x5 x6 x7 x8 x9 m)) (x1 : Int32) (x2 : Int32) (x4 : Int32) (x5 : Int32) (x6 : Int32) (x7 : Int32) (x9 : Int32) (s0 : Int32) (m : hM) : Rf vI G X 129 [(0, hA G 32), (1, .int x1), (2, .int x2), (4, .int x4), (5, .int x5), (6, .int x6), (7, .int x7), (9, .int x9)] [.int s0] m (f_X8_doneAlone_129 fu k48 x1 x2 x4 x5 x6 x7 x9 s0 m) := by
  unfold f_X8_doneAlone_129
  refine rf_istore C (n := 131) [(8, .int s0), (0, hA G 32), (1, .int x1), (2, .int x2), (4, .int x4), (5, .int x5), (6, .int x6), (7, .int x7), (9, .int x9)] dX8_doneAlone_129 rfl (by decide) rfl ?_
  refine rf_goto C (n := 195) dX8_doneAlone_131 (by decide) ?_
  exact rf_lv _ [1, 2, 3, 4, 5, 6, 7, 0, 8] rfl (r_X8_doneAlone_195 C K fu _ hk48 _ _ _ _ _ _ _ _ _)
noncomputable def f_X8_doneAlone_124 (fu : Nat) (k48 : Int32 → Int32 → Int32 → Int32 → Int32 → Int32 → Int32 → Int32 → hM → Option (Int32 × hM)) (x1 : Int32) (x2 : Int32) (x4 : Int32) (x5 : Int32) (x6 : Int32) (x7 : Int32) (x9 : Int32) (m : hM) : Option (Int32 × hM) :=
  f_X8_doneAlone_129 fu k48 x1 x2 x4 x5 x6 x7 x9 1 m
set_option maxRecDepth 100000 in
set_option maxHeartbeats 4000000 in
theorem r_X8_doneAlone_124 {G : hG} {X : hX} (C : Cx G X 2 cX8_doneAlone 11 RX8 (some .int)) (K : Cr G X) (fu : Nat) (k48 : Int32 → Int32 → Int32 → Int32 → Int32 → Int32 → Int32 → Int32 → hM → Option (Int32 × hM)) (hk48 : ∀ (x1 : Int32) (x2 : Int32) (x4 : Int32) (x5 : Int32) (x6 : Int32) (x7 : Int32) (x8 : Int32) (x9 : Int32) (m : hM), Rf vI G X 48 [(0, hA G 32), (1, .int x1), (2, .int x2), (4, .int x4), (5, .int x5), (6, .int x6), (7, .int x7), (8, .int x8), (9, .int x9)] [] m (k48 x1 x2 x4 x5 x6 x7 x8 x9 m)) (x1 : Int32) (x2 : Int32) (x4 : Int32) (x5 : Int32) (x6 : Int32) (x7 : Int32) (x9 : Int32) (m : hM) : Rf vI G X 124 [(0, hA G 32), (1, .int x1), (2, .int x2), (4, .int x4), (5, .int x5), (6, .int x6), (7, .int x7), (9, .int x9)] [] m (f_X8_doneAlone_124 fu k48 x1 x2 x4 x5 x6 x7 x9 m) := by
  unfold f_X8_doneAlone_124
  refine rf_iconst C (n := 125) (v := 1) dX8_doneAlone_124 rfl (by decide) ?_
  refine rf_goto C (n := 129) dX8_doneAlone_125 (by decide) ?_
  exact rf_lv _ [0, 1, 2, 3, 4, 5, 6, 7] rfl (r_X8_doneAlone_129 C K fu _ hk48 _ _ _ _ _ _ _ _ _)
noncomputable def f_X8_doneAlone_78 (fu : Nat) (k48 : Int32 → Int32 → Int32 → Int32 → Int32 → Int32 → Int32 → Int32 → hM → Option (Int32 × hM)) (x1 : Int32) (x2 : Int32) (x4 : Int32) (x5 : Int32) (x6 : Int32) (x7 : Int32) (x8 : Int32) (x9 : Int32) (s0 : Int32) (m : hM) : Option (Int32 × hM) :=
  if x8 = 0 then (
if s0 = 0 then (
f_X8_doneAlone_195 fu k48 x1 x2 x4 x5 x6 x7 x8 x9 m) else (
hLet (x6 + (-1)) fun y15 =>
hLet (x7 + 1) fun y16 =>
if ¬ y15 = 0 then (
if x5 = (-1) then (
f_X8_doneAlone_179 fu k48 x1 x2 x4 x5 y15 y16 x9 m) else (
if hIn x1 8 then (
if ¬ y16 = (gI m 20 (Int32.toNatClampNeg x1)) then (
f_X8_doneAlone_179 fu k48 x1 x2 x4 x5 y15 y16 x9 m) else (
f_X8_doneAlone_180 fu k48 x1 x2 x4 x5 y15 y16 x9 1 m)) else none)) else (
some (x9 + 1, m)))) else (
hLet (sI m 32 7 ((gI m 32 7) + 1)) fun m22 =>
if s0 = 0 then (
f_X8_doneAlone_124 fu k48 x1 x2 x4 x5 x6 x7 x9 m22) else (
if x5 = (-1) then (
f_X8_doneAlone_124 fu k48 x1 x2 x4 x5 x6 x7 x9 m22) else (
if hIn x9 2500 then (
if ¬ (((gI m22 4 (Int32.toNatClampNeg x9)) >>> (x5 &&& 31)) &&& 1) = 0 then (
f_X8_doneAlone_129 fu k48 x1 x2 x4 x5 x6 x7 x9 0 m22) else (
f_X8_doneAlone_124 fu k48 x1 x2 x4 x5 x6 x7 x9 m22)) else none)))
set_option maxRecDepth 100000 in
set_option maxHeartbeats 4000000 in
theorem r_X8_doneAlone_78 {G : hG} {X : hX} (C : Cx G X 2 cX8_doneAlone 11 RX8 (some .int)) (K : Cr G X) (fu : Nat) (k48 : Int32 → Int32 → Int32 → Int32 → Int32 → Int32 → Int32 → Int32 → hM → Option (Int32 × hM)) (hk48 : ∀ (x1 : Int32) (x2 : Int32) (x4 : Int32) (x5 : Int32) (x6 : Int32) (x7 : Int32) (x8 : Int32) (x9 : Int32) (m : hM), Rf vI G X 48 [(0, hA G 32), (1, .int x1), (2, .int x2), (4, .int x4), (5, .int x5), (6, .int x6), (7, .int x7), (8, .int x8), (9, .int x9)] [] m (k48 x1 x2 x4 x5 x6 x7 x8 x9 m)) (x1 : Int32) (x2 : Int32) (x4 : Int32) (x5 : Int32) (x6 : Int32) (x7 : Int32) (x8 : Int32) (x9 : Int32) (s0 : Int32) (m : hM) : Rf vI G X 78 [(0, hA G 32), (1, .int x1), (2, .int x2), (4, .int x4), (5, .int x5), (6, .int x6), (7, .int x7), (8, .int x8), (9, .int x9)] [.int s0] m (f_X8_doneAlone_78 fu k48 x1 x2 x4 x5 x6 x7 x8 x9 s0 m) := by
  unfold f_X8_doneAlone_78
  refine rf_istore C (n := 80) [(10, .int s0), (0, hA G 32), (1, .int x1), (2, .int x2), (4, .int x4), (5, .int x5), (6, .int x6), (7, .int x7), (8, .int x8), (9, .int x9)] dX8_doneAlone_78 rfl (by decide) rfl ?_
  refine rf_iload C (n := 82) (q := 8) dX8_doneAlone_80 rfl rfl ?_
  refine rf_if_eq C (tgt := 134) (n := 85) dX8_doneAlone_82 (by decide) rfl (fun h12 => ?_) (fun h12 => ?_)
  · refine rf_iload C (n := 136) (q := 0) dX8_doneAlone_134 rfl rfl ?_
    refine rf_if_eq C (tgt := 195) (n := 139) dX8_doneAlone_136 (by decide) rfl (fun h13 => ?_) (fun h13 => ?_)
    · exact rf_lv _ [1, 2, 3, 4, 5, 6, 7, 8, 9] rfl (r_X8_doneAlone_195 C K fu _ hk48 _ _ _ _ _ _ _ _ _)
    · refine rf_iinc2 C (n := 142) (q := 6) (fun y15 => [(6, .int y15), (10, .int s0), (0, hA G 32), (1, .int x1), (2, .int x2), (4, .int x4), (5, .int x5), (7, .int x7), (8, .int x8), (9, .int x9)]) dX8_doneAlone_139 rfl rfl (by decide) (by decide) (fun _ => rfl) (fun y15 => ?_)
      refine rf_iinc2 C (n := 145) (q := 7) (fun y16 => [(7, .int y16), (6, .int y15), (10, .int s0), (0, hA G 32), (1, .int x1), (2, .int x2), (4, .int x4), (5, .int x5), (8, .int x8), (9, .int x9)]) dX8_doneAlone_142 rfl rfl (by decide) (by decide) (fun _ => rfl) (fun y16 => ?_)
      refine rf_iload C (n := 147) (q := 1) dX8_doneAlone_145 rfl rfl ?_
      refine rf_if_ne C (tgt := 155) (n := 150) dX8_doneAlone_147 (by decide) rfl (fun h17 => ?_) (fun h17 => ?_)
      · refine rf_iload C (n := 157) (q := 7) dX8_doneAlone_155 rfl rfl ?_
        refine rf_iconst C (n := 158) (v := (-1)) dX8_doneAlone_157 rfl (by decide) ?_
        refine rf_icmp_eq C (tgt := 179) (n := 161) dX8_doneAlone_158 (by decide) rfl (fun h18 => ?_) (fun h18 => ?_)
        · exact rf_lv _ [3, 4, 5, 6, 7, 1, 0, 9] rfl (r_X8_doneAlone_179 C K fu _ hk48 _ _ _ _ _ _ _ _)
        · refine rf_iload C (n := 163) (q := 0) dX8_doneAlone_161 rfl rfl ?_
          refine rf_aload_n C (n := 164) (q := 3) dX8_doneAlone_163 rfl rfl rfl ?_
          refine rf_getS C (n := 167) fl_RX8_33 ly_32 rfl dX8_doneAlone_164 rfl ?_
          refine rf_getS C (n := 170) fl_RX8_132 ly_18 rfl dX8_doneAlone_167 rfl ?_
          refine rf_iload_n C (n := 171) (q := 4) dX8_doneAlone_170 rfl rfl rfl ?_
          refine rf_guard (fun h20 => ?_)
          refine rf_iald C (n := 172) ly_20 h20 rfl dX8_doneAlone_171 rfl ?_
          refine rf_icmp_ne C (tgt := 179) (n := 175) dX8_doneAlone_172 (by decide) rfl (fun h21 => ?_) (fun h21 => ?_)
          · exact rf_lv _ [3, 4, 5, 6, 7, 1, 0, 9] rfl (r_X8_doneAlone_179 C K fu _ hk48 _ _ _ _ _ _ _ _)
          · refine rf_iconst C (n := 176) (v := 1) dX8_doneAlone_175 rfl (by decide) ?_
            refine rf_goto C (n := 180) dX8_doneAlone_176 (by decide) ?_
            exact rf_lv _ [3, 4, 5, 6, 7, 1, 0, 9] rfl (r_X8_doneAlone_180 C K fu _ hk48 _ _ _ _ _ _ _ _ _)
      · refine rf_iload C (n := 152) (q := 9) dX8_doneAlone_150 rfl rfl ?_
        refine rf_iconst C (n := 153) (v := 1) dX8_doneAlone_152 rfl (by decide) ?_
        refine rf_iadd C (n := 154) dX8_doneAlone_153 rfl ?_
        exact rf_iret C K dX8_doneAlone_154
  · refine rf_aload_n C (n := 86) (q := 1) dX8_doneAlone_85 rfl rfl rfl ?_
    refine rf_dup C (n := 87) dX8_doneAlone_86 rfl rfl ?_
    refine rf_getI C (n := 90) fl_RX8_26 ly_32 rfl dX8_doneAlone_87 rfl ?_
    refine rf_iconst C (n := 91) (v := 1) dX8_doneAlone_90 rfl (by decide) ?_
    refine rf_iadd C (n := 92) dX8_doneAlone_91 rfl ?_
    refine rf_putI C (n := 95) pl_RX8_26 ly_32 rfl ⟨rfl, rfl⟩ dX8_doneAlone_92 rfl ?_
    refine rf_letM (fun m22 => ?_)
    refine rf_iload C (n := 97) (q := 0) dX8_doneAlone_95 rfl rfl ?_
    refine rf_if_eq C (tgt := 124) (n := 100) dX8_doneAlone_97 (by decide) rfl (fun h23 => ?_) (fun h23 => ?_)
    · exact rf_lv _ [1, 2, 3, 4, 5, 6, 7, 9] rfl (r_X8_doneAlone_124 C K fu _ hk48 _ _ _ _ _ _ _ _)
    · refine rf_iload C (n := 102) (q := 5) dX8_doneAlone_100 rfl rfl ?_
      refine rf_iconst C (n := 103) (v := (-1)) dX8_doneAlone_102 rfl (by decide) ?_
      refine rf_icmp_eq C (tgt := 124) (n := 106) dX8_doneAlone_103 (by decide) rfl (fun h24 => ?_) (fun h24 => ?_)
      · exact rf_lv _ [1, 2, 3, 4, 5, 6, 7, 9] rfl (r_X8_doneAlone_124 C K fu _ hk48 _ _ _ _ _ _ _ _)
      · refine rf_aload_n C (n := 107) (q := 1) dX8_doneAlone_106 rfl rfl rfl ?_
        refine rf_getS C (n := 110) fl_RX8_29 ly_32 rfl dX8_doneAlone_107 rfl ?_
        refine rf_getS C (n := 113) fl_RX8_61 ly_1 rfl dX8_doneAlone_110 rfl ?_
        refine rf_iload C (n := 115) (q := 9) dX8_doneAlone_113 rfl rfl ?_
        refine rf_guard (fun h25 => ?_)
        refine rf_iald C (n := 116) ly_4 h25 rfl dX8_doneAlone_115 rfl ?_
        refine rf_iload C (n := 118) (q := 5) dX8_doneAlone_116 rfl rfl ?_
        refine rf_ishr C (n := 119) dX8_doneAlone_118 rfl ?_
        refine rf_iconst C (n := 120) (v := 1) dX8_doneAlone_119 rfl (by decide) ?_
        refine rf_iand C (n := 121) dX8_doneAlone_120 rfl ?_
        refine rf_if_ne C (tgt := 128) (n := 124) dX8_doneAlone_121 (by decide) rfl (fun h26 => ?_) (fun h26 => ?_)
        · refine rf_iconst C (n := 129) (v := 0) dX8_doneAlone_128 rfl (by decide) ?_
          exact rf_lv _ [1, 2, 3, 4, 5, 6, 7, 9] rfl (r_X8_doneAlone_129 C K fu _ hk48 _ _ _ _ _ _ _ _ _)
        · exact rf_lv _ [1, 2, 3, 4, 5, 6, 7, 9] rfl (r_X8_doneAlone_124 C K fu _ hk48 _ _ _ _ _ _ _ _)
noncomputable def s_X8_doneAlone_48 (fu : Nat) (ih : Int32 → Int32 → Int32 → Int32 → Int32 → Int32 → Int32 → Int32 → hM → Option (Int32 × hM)) (x1 : Int32) (x2 : Int32) (x4 : Int32) (x5 : Int32) (x6 : Int32) (x7 : Int32) (x8 : Int32) (x9 : Int32) (m : hM) : Option (Int32 × hM) :=
  if x4 ≤ x9 then (
some ((-2), m)) else (
if hIn x9 2500 then (
if ¬ (((gI m 4 (Int32.toNatClampNeg x9)) >>> (x2 &&& 31)) &&& 1) = 1 then (
f_X8_doneAlone_78 fu ih x1 x2 x4 x5 x6 x7 x8 x9 0 m) else (
f_X8_doneAlone_78 fu ih x1 x2 x4 x5 x6 x7 x8 x9 1 m)) else none)
noncomputable def f_X8_doneAlone_48 (fu : Nat) (n : Nat) : Int32 → Int32 → Int32 → Int32 → Int32 → Int32 → Int32 → Int32 → hM → Option (Int32 × hM) :=
  Nat.rec (motive := fun _ => Int32 → Int32 → Int32 → Int32 → Int32 → Int32 → Int32 → Int32 → hM → Option (Int32 × hM)) (fun _ _ _ _ _ _ _ _ _ => none) (fun _ ih => s_X8_doneAlone_48 fu ih) n
theorem f_X8_doneAlone_48_s (fu : Nat) (n : Nat) (x1 : Int32) (x2 : Int32) (x4 : Int32) (x5 : Int32) (x6 : Int32) (x7 : Int32) (x8 : Int32) (x9 : Int32) (m : hM) : f_X8_doneAlone_48 fu (n + 1) x1 x2 x4 x5 x6 x7 x8 x9 m = s_X8_doneAlone_48 fu (f_X8_doneAlone_48 fu n) x1 x2 x4 x5 x6 x7 x8 x9 m := rfl
set_option maxRecDepth 100000 in
set_option maxHeartbeats 4000000 in
theorem r_X8_doneAlone_48 {G : hG} {X : hX} (C : Cx G X 2 cX8_doneAlone 11 RX8 (some .int)) (K : Cr G X) (fu : Nat) (n : Nat) : ∀ (x1 : Int32) (x2 : Int32) (x4 : Int32) (x5 : Int32) (x6 : Int32) (x7 : Int32) (x8 : Int32) (x9 : Int32) (m : hM), Rf vI G X 48 [(0, hA G 32), (1, .int x1), (2, .int x2), (4, .int x4), (5, .int x5), (6, .int x6), (7, .int x7), (8, .int x8), (9, .int x9)] [] m (f_X8_doneAlone_48 fu n x1 x2 x4 x5 x6 x7 x8 x9 m) := by
  induction n with
  | zero => intros; exact rf_none
  | succ n ih =>
    intro x1 x2 x4 x5 x6 x7 x8 x9 m
    show Rf vI G X 48 [(0, hA G 32), (1, .int x1), (2, .int x2), (4, .int x4), (5, .int x5), (6, .int x6), (7, .int x7), (8, .int x8), (9, .int x9)] [] m (s_X8_doneAlone_48 fu (f_X8_doneAlone_48 fu n) x1 x2 x4 x5 x6 x7 x8 x9 m)
    unfold s_X8_doneAlone_48
    refine rf_iload C (n := 50) (q := 8) dX8_doneAlone_48 rfl rfl ?_
    refine rf_iload C (n := 52) (q := 3) dX8_doneAlone_50 rfl rfl ?_
    refine rf_icmp_ge C (tgt := 201) (n := 55) dX8_doneAlone_52 (by decide) rfl (fun h9 => ?_) (fun h9 => ?_)
    · refine rf_bipush C (n := 203) (v := (-2)) dX8_doneAlone_201 rfl (by decide) ?_
      exact rf_iret C K dX8_doneAlone_203
    · refine rf_aload_n C (n := 56) (q := 0) dX8_doneAlone_55 rfl rfl rfl ?_
      refine rf_getS C (n := 59) fl_RX8_29 ly_32 rfl dX8_doneAlone_56 rfl ?_
      refine rf_getS C (n := 62) fl_RX8_61 ly_1 rfl dX8_doneAlone_59 rfl ?_
      refine rf_iload C (n := 64) (q := 8) dX8_doneAlone_62 rfl rfl ?_
      refine rf_guard (fun h10 => ?_)
      refine rf_iald C (n := 65) ly_4 h10 rfl dX8_doneAlone_64 rfl ?_
      refine rf_iload_n C (n := 66) (q := 2) dX8_doneAlone_65 rfl rfl rfl ?_
      refine rf_ishr C (n := 67) dX8_doneAlone_66 rfl ?_
      refine rf_iconst C (n := 68) (v := 1) dX8_doneAlone_67 rfl (by decide) ?_
      refine rf_iand C (n := 69) dX8_doneAlone_68 rfl ?_
      refine rf_iconst C (n := 70) (v := 1) dX8_doneAlone_69 rfl (by decide) ?_
      refine rf_icmp_ne C (tgt := 77) (n := 73) dX8_doneAlone_70 (by decide) rfl (fun h11 => ?_) (fun h11 => ?_)
      · refine rf_iconst C (n := 78) (v := 0) dX8_doneAlone_77 rfl (by decide) ?_
        exact rf_lv _ [0, 1, 2, 3, 4, 5, 6, 7, 8] rfl (r_X8_doneAlone_78 C K fu _ ih _ _ _ _ _ _ _ _ _ _)
      · refine rf_iconst C (n := 74) (v := 1) dX8_doneAlone_73 rfl (by decide) ?_
        refine rf_goto C (n := 78) dX8_doneAlone_74 (by decide) ?_
        exact rf_lv _ [0, 1, 2, 3, 4, 5, 6, 7, 8] rfl (r_X8_doneAlone_78 C K fu _ ih _ _ _ _ _ _ _ _ _ _)
noncomputable def f_X8_doneAlone (fu : Nat) (x1 : Int32) (x2 : Int32) (x3 : Int32) (x4 : Int32) (m : hM) : Option (Int32 × hM) :=
  hLet (sI m 32 7 0) fun m1 =>
hBd (f_X8_canWork fu x1 x2 m1) fun y2 m3 =>
if ¬ y2 = 0 then (
if hIn x1 8 then (
hLet (gI m3 24 (Int32.toNatClampNeg x1)) fun y6 =>
if hIn x1 8 then (
hLet (gI m3 21 (Int32.toNatClampNeg x1)) fun y8 =>
f_X8_doneAlone_48 fu fu x1 x2 x4 y6 y8 0 0 x3 m3) else none) else none) else (
some ((-2), m3))
set_option maxRecDepth 100000 in
set_option maxHeartbeats 4000000 in
theorem c_X8_doneAlone (G : hG) (fu : Nat) (x1 : Int32) (x2 : Int32) (x3 : Int32) (x4 : Int32) (m : hM) : Mt vI G 2 yX8_doneAlone cX8_doneAlone 11 (some .int) [hA G 32, .int x1, .int x2, .int x3, .int x4] m (f_X8_doneAlone fu x1 x2 x3 x4 m) := by
  refine mt_of (by decide +kernel) (Nat.le_of_ble_eq_true rfl) (fun X C K => ?_)
  have C : Cx G X 2 cX8_doneAlone 11 RX8 (some .int) := C
  show Rf vI G X 0 [(0, hA G 32), (1, .int x1), (2, .int x2), (3, .int x3), (4, .int x4)] [] m _
  unfold f_X8_doneAlone
  refine rf_aload_n C (n := 1) (q := 0) dX8_doneAlone_0 rfl rfl rfl ?_
  refine rf_iconst C (n := 2) (v := 0) dX8_doneAlone_1 rfl (by decide) ?_
  refine rf_putI C (n := 5) pl_RX8_26 ly_32 rfl ⟨rfl, rfl⟩ dX8_doneAlone_2 rfl ?_
  refine rf_letM (fun m1 => ?_)
  refine rf_aload_n C (n := 6) (q := 0) dX8_doneAlone_5 rfl rfl rfl ?_
  refine rf_iload_n C (n := 7) (q := 1) dX8_doneAlone_6 rfl rfl rfl ?_
  refine rf_iload_n C (n := 8) (q := 2) dX8_doneAlone_7 rfl rfl rfl ?_
  refine rf_callVi C (n := 11) (c_X8_canWork G fu _ _ _) mw_RX8_93 ly_32 rfl ⟨by decide, by decide⟩ rfl (Nat.le_of_ble_eq_true rfl) rfl dX8_doneAlone_8 rfl (fun y2 m3 => ?_)
  refine rf_if_ne C (tgt := 17) (n := 14) dX8_doneAlone_11 (by decide) rfl (fun h4 => ?_) (fun h4 => ?_)
  · refine rf_aload_n C (n := 18) (q := 0) dX8_doneAlone_17 rfl rfl rfl ?_
    refine rf_getS C (n := 21) fl_RX8_33 ly_32 rfl dX8_doneAlone_18 rfl ?_
    refine rf_getS C (n := 24) fl_RX8_90 ly_18 rfl dX8_doneAlone_21 rfl ?_
    refine rf_iload_n C (n := 25) (q := 1) dX8_doneAlone_24 rfl rfl rfl ?_
    refine rf_guard (fun h5 => ?_)
    refine rf_iald C (n := 26) ly_24 h5 rfl dX8_doneAlone_25 rfl ?_
    refine rf_letI (fun y6 => ?_)
    refine rf_istore C (n := 28) [(5, .int y6), (0, hA G 32), (1, .int x1), (2, .int x2), (3, .int x3), (4, .int x4)] dX8_doneAlone_26 rfl (by decide) rfl ?_
    refine rf_aload_n C (n := 29) (q := 1) dX8_doneAlone_28 rfl rfl rfl ?_
    refine rf_getS C (n := 32) fl_RX8_33 ly_32 rfl dX8_doneAlone_29 rfl ?_
    refine rf_getS C (n := 35) fl_RX8_211 ly_18 rfl dX8_doneAlone_32 rfl ?_
    refine rf_iload_n C (n := 36) (q := 2) dX8_doneAlone_35 rfl rfl rfl ?_
    refine rf_guard (fun h7 => ?_)
    refine rf_iald C (n := 37) ly_21 h7 rfl dX8_doneAlone_36 rfl ?_
    refine rf_letI (fun y8 => ?_)
    refine rf_istore C (n := 39) [(6, .int y8), (5, .int y6), (0, hA G 32), (1, .int x1), (2, .int x2), (3, .int x3), (4, .int x4)] dX8_doneAlone_37 rfl (by decide) rfl ?_
    refine rf_iconst C (n := 40) (v := 0) dX8_doneAlone_39 rfl (by decide) ?_
    refine rf_istore C (n := 42) [(7, .int 0), (6, .int y8), (5, .int y6), (0, hA G 32), (1, .int x1), (2, .int x2), (3, .int x3), (4, .int x4)] dX8_doneAlone_40 rfl (by decide) rfl ?_
    refine rf_iconst C (n := 43) (v := 0) dX8_doneAlone_42 rfl (by decide) ?_
    refine rf_istore C (n := 45) [(8, .int 0), (7, .int 0), (6, .int y8), (5, .int y6), (0, hA G 32), (1, .int x1), (2, .int x2), (3, .int x3), (4, .int x4)] dX8_doneAlone_43 rfl (by decide) rfl ?_
    refine rf_iload_n C (n := 46) (q := 7) dX8_doneAlone_45 rfl rfl rfl ?_
    refine rf_istore C (n := 48) [(9, .int x3), (8, .int 0), (7, .int 0), (6, .int y8), (5, .int y6), (0, hA G 32), (1, .int x1), (2, .int x2), (3, .int x3), (4, .int x4)] dX8_doneAlone_46 rfl (by decide) rfl ?_
    exact rf_lv _ [5, 6, 7, 9, 4, 3, 2, 1, 0] rfl (r_X8_doneAlone_48 C K fu fu _ _ _ _ _ _ _ _ _)
  · refine rf_bipush C (n := 16) (v := (-2)) dX8_doneAlone_14 rfl (by decide) ?_
    exact rf_iret C K dX8_doneAlone_16
noncomputable def f_X9_branch_73 (fu : Nat) (k2 : Int32 → Int32 → Int32 → hM → Option (Unit × hM)) (x1 : Int32) (x2 : Int32) (x3 : Int32) (m : hM) : Option (Unit × hM) :=
  hLet (x3 + 1) fun y5 =>
k2 x1 x2 y5 m
set_option maxRecDepth 100000 in
set_option maxHeartbeats 4000000 in
theorem r_X9_branch_73 {G : hG} {X : hX} (C : Cx G X 1 cX9_branch 4 RX9 none) (K : Cr G X) (fu : Nat) (k2 : Int32 → Int32 → Int32 → hM → Option (Unit × hM)) (hk2 : ∀ (x1 : Int32) (x2 : Int32) (x3 : Int32) (m : hM), Rf vU G X 2 [(0, hA G 34), (1, .int x1), (2, .int x2), (3, .int x3)] [] m (k2 x1 x2 x3 m)) (x1 : Int32) (x2 : Int32) (x3 : Int32) (m : hM) : Rf vU G X 73 [(0, hA G 34), (1, .int x1), (2, .int x2), (3, .int x3)] [] m (f_X9_branch_73 fu k2 x1 x2 x3 m) := by
  unfold f_X9_branch_73
  refine rf_iinc2 C (n := 76) (q := 3) (fun y5 => [(3, .int y5), (0, hA G 34), (1, .int x1), (2, .int x2)]) dX9_branch_73 rfl rfl (by decide) (by decide) (fun _ => rfl) (fun y5 => ?_)
  refine rf_goto C (n := 2) dX9_branch_76 (by decide) ?_
  exact rf_lv _ [1, 2, 3, 0] rfl (hk2 _ _ _ _)
noncomputable def s_X9_branch_2 (fu : Nat) (ih : Int32 → Int32 → Int32 → hM → Option (Unit × hM)) (x1 : Int32) (x2 : Int32) (x3 : Int32) (m : hM) : Option (Unit × hM) :=
  if (gI m 1 4) ≤ x3 then (
some ((), m)) else (
if 156 ≤ (gI m 34 4) then (
some ((), m)) else (
if hIn x1 156 then (
if x3 = (gI m 36 (Int32.toNatClampNeg x1)) then (
f_X9_branch_73 fu ih x1 x2 x3 m) else (
if hIn (gI m 34 4) 156 then (
hLet (sI m 35 (Int32.toNatClampNeg (gI m 34 4)) x1) fun m7 =>
if hIn (gI m7 34 4) 156 then (
hLet (sI m7 36 (Int32.toNatClampNeg (gI m7 34 4)) x3) fun m9 =>
if hIn (gI m9 34 4) 156 then (
hLet (sI m9 37 (Int32.toNatClampNeg (gI m9 34 4)) x2) fun m11 =>
hLet (sI m11 34 4 ((gI m11 34 4) + 1)) fun m12 =>
f_X9_branch_73 fu ih x1 x2 x3 m12) else none) else none) else none)) else none))
noncomputable def f_X9_branch_2 (fu : Nat) (n : Nat) : Int32 → Int32 → Int32 → hM → Option (Unit × hM) :=
  Nat.rec (motive := fun _ => Int32 → Int32 → Int32 → hM → Option (Unit × hM)) (fun _ _ _ _ => none) (fun _ ih => s_X9_branch_2 fu ih) n
theorem f_X9_branch_2_s (fu : Nat) (n : Nat) (x1 : Int32) (x2 : Int32) (x3 : Int32) (m : hM) : f_X9_branch_2 fu (n + 1) x1 x2 x3 m = s_X9_branch_2 fu (f_X9_branch_2 fu n) x1 x2 x3 m := rfl
set_option maxRecDepth 100000 in
set_option maxHeartbeats 4000000 in
theorem r_X9_branch_2 {G : hG} {X : hX} (C : Cx G X 1 cX9_branch 4 RX9 none) (K : Cr G X) (fu : Nat) (n : Nat) : ∀ (x1 : Int32) (x2 : Int32) (x3 : Int32) (m : hM), Rf vU G X 2 [(0, hA G 34), (1, .int x1), (2, .int x2), (3, .int x3)] [] m (f_X9_branch_2 fu n x1 x2 x3 m) := by
  induction n with
  | zero => intros; exact rf_none
  | succ n ih =>
    intro x1 x2 x3 m
    show Rf vU G X 2 [(0, hA G 34), (1, .int x1), (2, .int x2), (3, .int x3)] [] m (s_X9_branch_2 fu (f_X9_branch_2 fu n) x1 x2 x3 m)
    unfold s_X9_branch_2
    refine rf_iload_n C (n := 3) (q := 3) dX9_branch_2 rfl rfl rfl ?_
    refine rf_aload_n C (n := 4) (q := 0) dX9_branch_3 rfl rfl rfl ?_
    refine rf_getS C (n := 7) fl_RX9_37 ly_34 rfl dX9_branch_4 rfl ?_
    refine rf_getI C (n := 10) fl_RX9_45 ly_1 rfl dX9_branch_7 rfl ?_
    refine rf_icmp_ge C (tgt := 79) (n := 13) dX9_branch_10 (by decide) rfl (fun h1 => ?_) (fun h1 => ?_)
    · exact rf_vret C K dX9_branch_79
    · refine rf_aload_n C (n := 14) (q := 0) dX9_branch_13 rfl rfl rfl ?_
      refine rf_getI C (n := 17) fl_RX9_21 ly_34 rfl dX9_branch_14 rfl ?_
      refine rf_sipush C (n := 20) (v := 156) dX9_branch_17 rfl (by decide) ?_
      refine rf_icmp_ge C (tgt := 79) (n := 23) dX9_branch_20 (by decide) rfl (fun h2 => ?_) (fun h2 => ?_)
      · exact rf_vret C K dX9_branch_79
      · refine rf_iload_n C (n := 24) (q := 3) dX9_branch_23 rfl rfl rfl ?_
        refine rf_aload_n C (n := 25) (q := 0) dX9_branch_24 rfl rfl rfl ?_
        refine rf_getS C (n := 28) fl_RX9_15 ly_34 rfl dX9_branch_25 rfl ?_
        refine rf_iload_n C (n := 29) (q := 1) dX9_branch_28 rfl rfl rfl ?_
        refine rf_guard (fun h3 => ?_)
        refine rf_iald C (n := 30) ly_36 h3 rfl dX9_branch_29 rfl ?_
        refine rf_icmp_eq C (tgt := 73) (n := 33) dX9_branch_30 (by decide) rfl (fun h4 => ?_) (fun h4 => ?_)
        · exact rf_lv _ [0, 1, 2, 3] rfl (r_X9_branch_73 C K fu _ ih _ _ _ _)
        · refine rf_aload_n C (n := 34) (q := 0) dX9_branch_33 rfl rfl rfl ?_
          refine rf_getS C (n := 37) fl_RX9_9 ly_34 rfl dX9_branch_34 rfl ?_
          refine rf_aload_n C (n := 38) (q := 0) dX9_branch_37 rfl rfl rfl ?_
          refine rf_getI C (n := 41) fl_RX9_21 ly_34 rfl dX9_branch_38 rfl ?_
          refine rf_iload_n C (n := 42) (q := 1) dX9_branch_41 rfl rfl rfl ?_
          refine rf_guard (fun h6 => ?_)
          refine rf_iast C (n := 43) ly_35 h6 rfl dX9_branch_42 rfl ?_
          refine rf_letM (fun m7 => ?_)
          refine rf_aload_n C (n := 44) (q := 0) dX9_branch_43 rfl rfl rfl ?_
          refine rf_getS C (n := 47) fl_RX9_15 ly_34 rfl dX9_branch_44 rfl ?_
          refine rf_aload_n C (n := 48) (q := 0) dX9_branch_47 rfl rfl rfl ?_
          refine rf_getI C (n := 51) fl_RX9_21 ly_34 rfl dX9_branch_48 rfl ?_
          refine rf_iload_n C (n := 52) (q := 3) dX9_branch_51 rfl rfl rfl ?_
          refine rf_guard (fun h8 => ?_)
          refine rf_iast C (n := 53) ly_36 h8 rfl dX9_branch_52 rfl ?_
          refine rf_letM (fun m9 => ?_)
          refine rf_aload_n C (n := 54) (q := 0) dX9_branch_53 rfl rfl rfl ?_
          refine rf_getS C (n := 57) fl_RX9_18 ly_34 rfl dX9_branch_54 rfl ?_
          refine rf_aload_n C (n := 58) (q := 0) dX9_branch_57 rfl rfl rfl ?_
          refine rf_getI C (n := 61) fl_RX9_21 ly_34 rfl dX9_branch_58 rfl ?_
          refine rf_iload_n C (n := 62) (q := 2) dX9_branch_61 rfl rfl rfl ?_
          refine rf_guard (fun h10 => ?_)
          refine rf_iast C (n := 63) ly_37 h10 rfl dX9_branch_62 rfl ?_
          refine rf_letM (fun m11 => ?_)
          refine rf_aload_n C (n := 64) (q := 0) dX9_branch_63 rfl rfl rfl ?_
          refine rf_dup C (n := 65) dX9_branch_64 rfl rfl ?_
          refine rf_getI C (n := 68) fl_RX9_21 ly_34 rfl dX9_branch_65 rfl ?_
          refine rf_iconst C (n := 69) (v := 1) dX9_branch_68 rfl (by decide) ?_
          refine rf_iadd C (n := 70) dX9_branch_69 rfl ?_
          refine rf_putI C (n := 73) pl_RX9_21 ly_34 rfl ⟨rfl, rfl⟩ dX9_branch_70 rfl ?_
          refine rf_letM (fun m12 => ?_)
          exact rf_lv _ [0, 1, 2, 3] rfl (r_X9_branch_73 C K fu _ ih _ _ _ _)
noncomputable def f_X9_branch (fu : Nat) (x1 : Int32) (x2 : Int32) (m : hM) : Option (Unit × hM) :=
  f_X9_branch_2 fu fu x1 x2 0 m
set_option maxRecDepth 100000 in
set_option maxHeartbeats 4000000 in
theorem c_X9_branch (G : hG) (fu : Nat) (x1 : Int32) (x2 : Int32) (m : hM) : Mt vU G 1 yX9_branch cX9_branch 4 none [hA G 34, .int x1, .int x2] m (f_X9_branch fu x1 x2 m) := by
  refine mt_of (by decide +kernel) (Nat.le_of_ble_eq_true rfl) (fun X C K => ?_)
  have C : Cx G X 1 cX9_branch 4 RX9 none := C
  show Rf vU G X 0 [(0, hA G 34), (1, .int x1), (2, .int x2)] [] m _
  unfold f_X9_branch
  refine rf_iconst C (n := 1) (v := 0) dX9_branch_0 rfl (by decide) ?_
  refine rf_istore_n C (n := 2) [(3, .int 0), (0, hA G 34), (1, .int x1), (2, .int x2)] dX9_branch_1 rfl rfl (by decide) rfl ?_
  exact rf_lv _ [1, 2, 3, 0] rfl (r_X9_branch_2 C K fu fu _ _ _ _)
noncomputable def f_X9_grow_67 (fu : Nat) (k31 : Int32 → Int32 → Int32 → hM → Option (Unit × hM)) (x2 : Int32) (x4 : Int32) (x5 : Int32) (m : hM) : Option (Unit × hM) :=
  hLet (x4 + 1) fun y8 =>
k31 x2 x5 y8 m
set_option maxRecDepth 100000 in
set_option maxHeartbeats 4000000 in
theorem r_X9_grow_67 {G : hG} {X : hX} (C : Cx G X 2 cX9_grow 7 RX9 none) (K : Cr G X) (fu : Nat) (k31 : Int32 → Int32 → Int32 → hM → Option (Unit × hM)) (hk31 : ∀ (x2 : Int32) (x3 : Int32) (x4 : Int32) (m : hM), Rf vU G X 31 [(0, hA G 34), (2, .int x2), (3, .int x3), (4, .int x4)] [] m (k31 x2 x3 x4 m)) (x2 : Int32) (x4 : Int32) (x5 : Int32) (m : hM) : Rf vU G X 67 [(0, hA G 34), (2, .int x2), (4, .int x4), (5, .int x5)] [] m (f_X9_grow_67 fu k31 x2 x4 x5 m) := by
  unfold f_X9_grow_67
  refine rf_iload C (n := 69) (q := 3) dX9_grow_67 rfl rfl ?_
  refine rf_istore_n C (n := 70) [(3, .int x5), (0, hA G 34), (2, .int x2), (4, .int x4), (5, .int x5)] dX9_grow_69 rfl rfl (by decide) rfl ?_
  refine rf_iinc2 C (n := 73) (q := 3) (fun y8 => [(4, .int y8), (3, .int x5), (0, hA G 34), (2, .int x2), (5, .int x5)]) dX9_grow_70 rfl rfl (by decide) (by decide) (fun _ => rfl) (fun y8 => ?_)
  refine rf_goto C (n := 31) dX9_grow_73 (by decide) ?_
  exact rf_lv _ [2, 3, 1, 0] rfl (hk31 _ _ _ _)
noncomputable def s_X9_grow_46 (fu : Nat) (k31 : Int32 → Int32 → Int32 → hM → Option (Unit × hM)) (ih : Int32 → Int32 → Int32 → Int32 → hM → Option (Unit × hM)) (x2 : Int32) (x4 : Int32) (x5 : Int32) (x6 : Int32) (m : hM) : Option (Unit × hM) :=
  if x5 ≤ x6 then (
f_X9_grow_67 fu k31 x2 x4 x5 m) else (
hBd (f_X9_branch fu x6 x4 m) fun _ m9 =>
hLet (x6 + 1) fun y10 =>
ih x2 x4 x5 y10 m9)
noncomputable def f_X9_grow_46 (fu : Nat) (k31 : Int32 → Int32 → Int32 → hM → Option (Unit × hM)) (n : Nat) : Int32 → Int32 → Int32 → Int32 → hM → Option (Unit × hM) :=
  Nat.rec (motive := fun _ => Int32 → Int32 → Int32 → Int32 → hM → Option (Unit × hM)) (fun _ _ _ _ _ => none) (fun _ ih => s_X9_grow_46 fu k31 ih) n
theorem f_X9_grow_46_s (fu : Nat) (k31 : Int32 → Int32 → Int32 → hM → Option (Unit × hM)) (n : Nat) (x2 : Int32) (x4 : Int32) (x5 : Int32) (x6 : Int32) (m : hM) : f_X9_grow_46 fu k31 (n + 1) x2 x4 x5 x6 m = s_X9_grow_46 fu k31 (f_X9_grow_46 fu k31 n) x2 x4 x5 x6 m := rfl
set_option maxRecDepth 100000 in
set_option maxHeartbeats 4000000 in
theorem r_X9_grow_46 {G : hG} {X : hX} (C : Cx G X 2 cX9_grow 7 RX9 none) (K : Cr G X) (fu : Nat) (k31 : Int32 → Int32 → Int32 → hM → Option (Unit × hM)) (hk31 : ∀ (x2 : Int32) (x3 : Int32) (x4 : Int32) (m : hM), Rf vU G X 31 [(0, hA G 34), (2, .int x2), (3, .int x3), (4, .int x4)] [] m (k31 x2 x3 x4 m)) (n : Nat) : ∀ (x2 : Int32) (x4 : Int32) (x5 : Int32) (x6 : Int32) (m : hM), Rf vU G X 46 [(0, hA G 34), (2, .int x2), (4, .int x4), (5, .int x5), (6, .int x6)] [] m (f_X9_grow_46 fu k31 n x2 x4 x5 x6 m) := by
  induction n with
  | zero => intros; exact rf_none
  | succ n ih =>
    intro x2 x4 x5 x6 m
    show Rf vU G X 46 [(0, hA G 34), (2, .int x2), (4, .int x4), (5, .int x5), (6, .int x6)] [] m (s_X9_grow_46 fu k31 (f_X9_grow_46 fu k31 n) x2 x4 x5 x6 m)
    unfold s_X9_grow_46
    refine rf_iload C (n := 48) (q := 4) dX9_grow_46 rfl rfl ?_
    refine rf_iload C (n := 50) (q := 3) dX9_grow_48 rfl rfl ?_
    refine rf_icmp_ge C (tgt := 67) (n := 53) dX9_grow_50 (by decide) rfl (fun h7 => ?_) (fun h7 => ?_)
    · exact rf_lv _ [0, 1, 2, 3] rfl (r_X9_grow_67 C K fu _ hk31 _ _ _ _)
    · refine rf_aload_n C (n := 54) (q := 0) dX9_grow_53 rfl rfl rfl ?_
      refine rf_iload C (n := 56) (q := 4) dX9_grow_54 rfl rfl ?_
      refine rf_iload C (n := 58) (q := 2) dX9_grow_56 rfl rfl ?_
      refine rf_callVv C (n := 61) (c_X9_branch G fu _ _ _) mw_RX9_41 ly_34 rfl ⟨by decide, by decide⟩ rfl (Nat.le_of_ble_eq_true rfl) rfl dX9_grow_58 rfl (fun _ m9 => ?_)
      refine rf_iinc2 C (n := 64) (q := 4) (fun y10 => [(6, .int y10), (0, hA G 34), (2, .int x2), (4, .int x4), (5, .int x5)]) dX9_grow_61 rfl rfl (by decide) (by decide) (fun _ => rfl) (fun y10 => ?_)
      refine rf_goto C (n := 46) dX9_grow_64 (by decide) ?_
      exact rf_lv _ [1, 2, 3, 4, 0] rfl (ih _ _ _ _ _)
noncomputable def s_X9_grow_31 (fu : Nat) (ih : Int32 → Int32 → Int32 → hM → Option (Unit × hM)) (x2 : Int32) (x3 : Int32) (x4 : Int32) (m : hM) : Option (Unit × hM) :=
  if x2 < x4 then (
some ((), m)) else (
hLet (gI m 34 4) fun y6 =>
f_X9_grow_46 fu ih fu x2 x4 y6 x3 m)
noncomputable def f_X9_grow_31 (fu : Nat) (n : Nat) : Int32 → Int32 → Int32 → hM → Option (Unit × hM) :=
  Nat.rec (motive := fun _ => Int32 → Int32 → Int32 → hM → Option (Unit × hM)) (fun _ _ _ _ => none) (fun _ ih => s_X9_grow_31 fu ih) n
theorem f_X9_grow_31_s (fu : Nat) (n : Nat) (x2 : Int32) (x3 : Int32) (x4 : Int32) (m : hM) : f_X9_grow_31 fu (n + 1) x2 x3 x4 m = s_X9_grow_31 fu (f_X9_grow_31 fu n) x2 x3 x4 m := rfl
set_option maxRecDepth 100000 in
set_option maxHeartbeats 4000000 in
theorem r_X9_grow_31 {G : hG} {X : hX} (C : Cx G X 2 cX9_grow 7 RX9 none) (K : Cr G X) (fu : Nat) (n : Nat) : ∀ (x2 : Int32) (x3 : Int32) (x4 : Int32) (m : hM), Rf vU G X 31 [(0, hA G 34), (2, .int x2), (3, .int x3), (4, .int x4)] [] m (f_X9_grow_31 fu n x2 x3 x4 m) := by
  induction n with
  | zero => intros; exact rf_none
  | succ n ih =>
    intro x2 x3 x4 m
    show Rf vU G X 31 [(0, hA G 34), (2, .int x2), (3, .int x3), (4, .int x4)] [] m (s_X9_grow_31 fu (f_X9_grow_31 fu n) x2 x3 x4 m)
    unfold s_X9_grow_31
    refine rf_iload C (n := 33) (q := 3) dX9_grow_31 rfl rfl ?_
    refine rf_iload_n C (n := 34) (q := 1) dX9_grow_33 rfl rfl rfl ?_
    refine rf_icmp_gt C (tgt := 76) (n := 37) dX9_grow_34 (by decide) rfl (fun h5 => ?_) (fun h5 => ?_)
    · exact rf_vret C K dX9_grow_76
    · refine rf_aload_n C (n := 38) (q := 0) dX9_grow_37 rfl rfl rfl ?_
      refine rf_getI C (n := 41) fl_RX9_21 ly_34 rfl dX9_grow_38 rfl ?_
      refine rf_letI (fun y6 => ?_)
      refine rf_istore C (n := 43) [(5, .int y6), (0, hA G 34), (2, .int x2), (3, .int x3), (4, .int x4)] dX9_grow_41 rfl (by decide) rfl ?_
      refine rf_iload_n C (n := 44) (q := 3) dX9_grow_43 rfl rfl rfl ?_
      refine rf_istore C (n := 46) [(6, .int x3), (5, .int y6), (0, hA G 34), (2, .int x2), (3, .int x3), (4, .int x4)] dX9_grow_44 rfl (by decide) rfl ?_
      exact rf_lv _ [2, 3, 5, 1, 0] rfl (r_X9_grow_46 C K fu _ ih fu _ _ _ _ _)
noncomputable def f_X9_grow (fu : Nat) (x1 : Int32) (x2 : Int32) (m : hM) : Option (Unit × hM) :=
  hLet (sI m 35 0 (-1)) fun m1 =>
hLet (sI m1 36 0 x1) fun m2 =>
hLet (sI m2 37 0 0) fun m3 =>
hLet (sI m3 34 4 1) fun m4 =>
f_X9_grow_31 fu fu x2 0 1 m4
set_option maxRecDepth 100000 in
set_option maxHeartbeats 4000000 in
theorem c_X9_grow (G : hG) (fu : Nat) (x1 : Int32) (x2 : Int32) (m : hM) : Mt vU G 2 yX9_grow cX9_grow 7 none [hA G 34, .int x1, .int x2] m (f_X9_grow fu x1 x2 m) := by
  refine mt_of (by decide +kernel) (Nat.le_of_ble_eq_true rfl) (fun X C K => ?_)
  have C : Cx G X 2 cX9_grow 7 RX9 none := C
  show Rf vU G X 0 [(0, hA G 34), (1, .int x1), (2, .int x2)] [] m _
  unfold f_X9_grow
  refine rf_aload_n C (n := 1) (q := 0) dX9_grow_0 rfl rfl rfl ?_
  refine rf_getS C (n := 4) fl_RX9_9 ly_34 rfl dX9_grow_1 rfl ?_
  refine rf_iconst C (n := 5) (v := 0) dX9_grow_4 rfl (by decide) ?_
  refine rf_iconst C (n := 6) (v := (-1)) dX9_grow_5 rfl (by decide) ?_
  refine rf_iast C (n := 7) (j0 := 0) ly_35 (by decide) (by decide) dX9_grow_6 rfl ?_
  refine rf_letM (fun m1 => ?_)
  refine rf_aload_n C (n := 8) (q := 0) dX9_grow_7 rfl rfl rfl ?_
  refine rf_getS C (n := 11) fl_RX9_15 ly_34 rfl dX9_grow_8 rfl ?_
  refine rf_iconst C (n := 12) (v := 0) dX9_grow_11 rfl (by decide) ?_
  refine rf_iload_n C (n := 13) (q := 1) dX9_grow_12 rfl rfl rfl ?_
  refine rf_iast C (n := 14) (j0 := 0) ly_36 (by decide) (by decide) dX9_grow_13 rfl ?_
  refine rf_letM (fun m2 => ?_)
  refine rf_aload_n C (n := 15) (q := 0) dX9_grow_14 rfl rfl rfl ?_
  refine rf_getS C (n := 18) fl_RX9_18 ly_34 rfl dX9_grow_15 rfl ?_
  refine rf_iconst C (n := 19) (v := 0) dX9_grow_18 rfl (by decide) ?_
  refine rf_iconst C (n := 20) (v := 0) dX9_grow_19 rfl (by decide) ?_
  refine rf_iast C (n := 21) (j0 := 0) ly_37 (by decide) (by decide) dX9_grow_20 rfl ?_
  refine rf_letM (fun m3 => ?_)
  refine rf_aload_n C (n := 22) (q := 0) dX9_grow_21 rfl rfl rfl ?_
  refine rf_iconst C (n := 23) (v := 1) dX9_grow_22 rfl (by decide) ?_
  refine rf_putI C (n := 26) pl_RX9_21 ly_34 rfl ⟨rfl, rfl⟩ dX9_grow_23 rfl ?_
  refine rf_letM (fun m4 => ?_)
  refine rf_iconst C (n := 27) (v := 0) dX9_grow_26 rfl (by decide) ?_
  refine rf_istore_n C (n := 28) [(3, .int 0), (0, hA G 34), (1, .int x1), (2, .int x2)] dX9_grow_27 rfl rfl (by decide) rfl ?_
  refine rf_iconst C (n := 29) (v := 1) dX9_grow_28 rfl (by decide) ?_
  refine rf_istore C (n := 31) [(4, .int 1), (3, .int 0), (0, hA G 34), (1, .int x1), (2, .int x2)] dX9_grow_29 rfl (by decide) rfl ?_
  exact rf_lv _ [2, 4, 1, 0] rfl (r_X9_grow_31 C K fu fu _ _ _ _)
noncomputable def f_X9_loseFrom_143 (fu : Nat) (k11 : Int32 → Int32 → Int32 → hM → Option (Unit × hM)) (x1 : Int32) (x2 : Int32) (x4 : Int32) (m : hM) : Option (Unit × hM) :=
  hLet (x4 + 1) fun y4 =>
k11 x1 x2 y4 m
set_option maxRecDepth 100000 in
set_option maxHeartbeats 4000000 in
theorem r_X9_loseFrom_143 {G : hG} {X : hX} (C : Cx G X 1 cX9_loseFrom 9 RX9 none) (K : Cr G X) (fu : Nat) (k11 : Int32 → Int32 → Int32 → hM → Option (Unit × hM)) (hk11 : ∀ (x1 : Int32) (x2 : Int32) (x4 : Int32) (m : hM), Rf vU G X 11 [(0, hA G 34), (1, .int x1), (2, .int x2), (3, hA G 5), (4, .int x4)] [] m (k11 x1 x2 x4 m)) (x1 : Int32) (x2 : Int32) (x4 : Int32) (m : hM) : Rf vU G X 143 [(0, hA G 34), (1, .int x1), (2, .int x2), (3, hA G 5), (4, .int x4)] [] m (f_X9_loseFrom_143 fu k11 x1 x2 x4 m) := by
  unfold f_X9_loseFrom_143
  refine rf_iinc2 C (n := 146) (q := 4) (fun y4 => [(4, .int y4), (0, hA G 34), (1, .int x1), (2, .int x2), (3, hA G 5)]) dX9_loseFrom_143 rfl rfl (by decide) (by decide) (fun _ => rfl) (fun y4 => ?_)
  refine rf_goto C (n := 11) dX9_loseFrom_146 (by decide) ?_
  exact rf_lv _ [1, 2, 3, 4, 0] rfl (hk11 _ _ _ _)
noncomputable def f_X9_loseFrom_115 (fu : Nat) (k11 : Int32 → Int32 → Int32 → hM → Option (Unit × hM)) (k29 : Int32 → Int32 → Int32 → Int32 → hM → Option (Unit × hM)) (x1 : Int32) (x2 : Int32) (x4 : Int32) (x5 : Int32) (x6 : Int32) (s1 : Int32) (s2 : Int32) (s3 : Int32) (m : hM) : Option (Unit × hM) :=
  if hIn s1 36 then (
hLet (sI m 40 (Int32.toNatClampNeg s1) (s2 + s3)) fun m14 =>
if hIn x6 36 then (
if hIn ((x5 * 6) + x4) 36 then (
hLet (sI m14 40 (Int32.toNatClampNeg ((x5 * 6) + x4)) (gI m14 40 (Int32.toNatClampNeg x6))) fun m17 =>
hLet (x5 + 1) fun y18 =>
k29 x1 x2 x4 y18 m17) else none) else none) else none
set_option maxRecDepth 100000 in
set_option maxHeartbeats 4000000 in
theorem r_X9_loseFrom_115 {G : hG} {X : hX} (C : Cx G X 1 cX9_loseFrom 9 RX9 none) (K : Cr G X) (fu : Nat) (k11 : Int32 → Int32 → Int32 → hM → Option (Unit × hM)) (hk11 : ∀ (x1 : Int32) (x2 : Int32) (x4 : Int32) (m : hM), Rf vU G X 11 [(0, hA G 34), (1, .int x1), (2, .int x2), (3, hA G 5), (4, .int x4)] [] m (k11 x1 x2 x4 m)) (k29 : Int32 → Int32 → Int32 → Int32 → hM → Option (Unit × hM)) (hk29 : ∀ (x1 : Int32) (x2 : Int32) (x4 : Int32) (x5 : Int32) (m : hM), Rf vU G X 29 [(0, hA G 34), (1, .int x1), (2, .int x2), (3, hA G 5), (4, .int x4), (5, .int x5)] [] m (k29 x1 x2 x4 x5 m)) (x1 : Int32) (x2 : Int32) (x4 : Int32) (x5 : Int32) (x6 : Int32) (s1 : Int32) (s2 : Int32) (s3 : Int32) (m : hM) : Rf vU G X 115 [(0, hA G 34), (1, .int x1), (2, .int x2), (3, hA G 5), (4, .int x4), (5, .int x5), (6, .int x6)] [.int s3, .int s2, .int s1, hA G 40] m (f_X9_loseFrom_115 fu k11 k29 x1 x2 x4 x5 x6 s1 s2 s3 m) := by
  unfold f_X9_loseFrom_115
  refine rf_iadd C (n := 116) dX9_loseFrom_115 rfl ?_
  refine rf_guard (fun h13 => ?_)
  refine rf_iast C (n := 117) ly_40 h13 rfl dX9_loseFrom_116 rfl ?_
  refine rf_letM (fun m14 => ?_)
  refine rf_aload_n C (n := 118) (q := 0) dX9_loseFrom_117 rfl rfl rfl ?_
  refine rf_getS C (n := 121) fl_RX9_34 ly_34 rfl dX9_loseFrom_118 rfl ?_
  refine rf_iload C (n := 123) (q := 5) dX9_loseFrom_121 rfl rfl ?_
  refine rf_bipush C (n := 125) (v := 6) dX9_loseFrom_123 rfl (by decide) ?_
  refine rf_imul C (n := 126) dX9_loseFrom_125 rfl ?_
  refine rf_iload C (n := 128) (q := 4) dX9_loseFrom_126 rfl rfl ?_
  refine rf_iadd C (n := 129) dX9_loseFrom_128 rfl ?_
  refine rf_aload_n C (n := 130) (q := 0) dX9_loseFrom_129 rfl rfl rfl ?_
  refine rf_getS C (n := 133) fl_RX9_34 ly_34 rfl dX9_loseFrom_130 rfl ?_
  refine rf_iload C (n := 135) (q := 6) dX9_loseFrom_133 rfl rfl ?_
  refine rf_guard (fun h15 => ?_)
  refine rf_iald C (n := 136) ly_40 h15 rfl dX9_loseFrom_135 rfl ?_
  refine rf_guard (fun h16 => ?_)
  refine rf_iast C (n := 137) ly_40 h16 rfl dX9_loseFrom_136 rfl ?_
  refine rf_letM (fun m17 => ?_)
  refine rf_iinc2 C (n := 140) (q := 5) (fun y18 => [(5, .int y18), (0, hA G 34), (1, .int x1), (2, .int x2), (3, hA G 5), (4, .int x4), (6, .int x6)]) dX9_loseFrom_137 rfl rfl (by decide) (by decide) (fun _ => rfl) (fun y18 => ?_)
  refine rf_goto C (n := 29) dX9_loseFrom_140 (by decide) ?_
  exact rf_lv _ [1, 2, 3, 4, 5, 0] rfl (hk29 _ _ _ _ _)
noncomputable def f_X9_loseFrom_105 (fu : Nat) (k11 : Int32 → Int32 → Int32 → hM → Option (Unit × hM)) (k29 : Int32 → Int32 → Int32 → Int32 → hM → Option (Unit × hM)) (x1 : Int32) (x2 : Int32) (x4 : Int32) (x5 : Int32) (x6 : Int32) (x7 : Int32) (s1 : Int32) (s2 : Int32) (m : hM) : Option (Unit × hM) :=
  if ¬ x7 = 0 then (
f_X9_loseFrom_115 fu k11 k29 x1 x2 x4 x5 x6 s1 s2 0 m) else (
f_X9_loseFrom_115 fu k11 k29 x1 x2 x4 x5 x6 s1 s2 2 m)
set_option maxRecDepth 100000 in
set_option maxHeartbeats 4000000 in
theorem r_X9_loseFrom_105 {G : hG} {X : hX} (C : Cx G X 1 cX9_loseFrom 9 RX9 none) (K : Cr G X) (fu : Nat) (k11 : Int32 → Int32 → Int32 → hM → Option (Unit × hM)) (hk11 : ∀ (x1 : Int32) (x2 : Int32) (x4 : Int32) (m : hM), Rf vU G X 11 [(0, hA G 34), (1, .int x1), (2, .int x2), (3, hA G 5), (4, .int x4)] [] m (k11 x1 x2 x4 m)) (k29 : Int32 → Int32 → Int32 → Int32 → hM → Option (Unit × hM)) (hk29 : ∀ (x1 : Int32) (x2 : Int32) (x4 : Int32) (x5 : Int32) (m : hM), Rf vU G X 29 [(0, hA G 34), (1, .int x1), (2, .int x2), (3, hA G 5), (4, .int x4), (5, .int x5)] [] m (k29 x1 x2 x4 x5 m)) (x1 : Int32) (x2 : Int32) (x4 : Int32) (x5 : Int32) (x6 : Int32) (x7 : Int32) (s1 : Int32) (s2 : Int32) (m : hM) : Rf vU G X 105 [(0, hA G 34), (1, .int x1), (2, .int x2), (3, hA G 5), (4, .int x4), (5, .int x5), (6, .int x6), (7, .int x7)] [.int s2, .int s1, hA G 40] m (f_X9_loseFrom_105 fu k11 k29 x1 x2 x4 x5 x6 x7 s1 s2 m) := by
  unfold f_X9_loseFrom_105
  refine rf_iload C (n := 107) (q := 7) dX9_loseFrom_105 rfl rfl ?_
  refine rf_if_ne C (tgt := 114) (n := 110) dX9_loseFrom_107 (by decide) rfl (fun h12 => ?_) (fun h12 => ?_)
  · refine rf_iconst C (n := 115) (v := 0) dX9_loseFrom_114 rfl (by decide) ?_
    exact rf_lv _ [0, 1, 2, 3, 4, 5, 6] rfl (r_X9_loseFrom_115 C K fu _ hk11 _ hk29 _ _ _ _ _ _ _ _ _)
  · refine rf_iconst C (n := 111) (v := 2) dX9_loseFrom_110 rfl (by decide) ?_
    refine rf_goto C (n := 115) dX9_loseFrom_111 (by decide) ?_
    exact rf_lv _ [0, 1, 2, 3, 4, 5, 6] rfl (r_X9_loseFrom_115 C K fu _ hk11 _ hk29 _ _ _ _ _ _ _ _ _)
noncomputable def s_X9_loseFrom_29 (fu : Nat) (k11 : Int32 → Int32 → Int32 → hM → Option (Unit × hM)) (ih : Int32 → Int32 → Int32 → Int32 → hM → Option (Unit × hM)) (x1 : Int32) (x2 : Int32) (x4 : Int32) (x5 : Int32) (m : hM) : Option (Unit × hM) :=
  if (gI m 1 4) ≤ x5 then (
f_X9_loseFrom_143 fu k11 x1 x2 x4 m) else (
hLet ((x4 * 6) + x5) fun y5 =>
if hIn ((x4 * 2500) + x1) 15000 then (
if hIn ((x5 * 2500) + x1) 15000 then (
hLet ((gI m 5 (Int32.toNatClampNeg ((x4 * 2500) + x1))) &&& (gI m 5 (Int32.toNatClampNeg ((x5 * 2500) + x1)))) fun y8 =>
if hIn y5 36 then (
hLet (x2 - (gI m 3 (Int32.toNatClampNeg y5))) fun y10 =>
if y10 ≤ 0 then (
f_X9_loseFrom_105 fu k11 ih x1 x2 x4 x5 y5 y8 y5 0 m) else (
f_X9_loseFrom_105 fu k11 ih x1 x2 x4 x5 y5 y8 y5 y10 m)) else none) else none) else none)
noncomputable def f_X9_loseFrom_29 (fu : Nat) (k11 : Int32 → Int32 → Int32 → hM → Option (Unit × hM)) (n : Nat) : Int32 → Int32 → Int32 → Int32 → hM → Option (Unit × hM) :=
  Nat.rec (motive := fun _ => Int32 → Int32 → Int32 → Int32 → hM → Option (Unit × hM)) (fun _ _ _ _ _ => none) (fun _ ih => s_X9_loseFrom_29 fu k11 ih) n
theorem f_X9_loseFrom_29_s (fu : Nat) (k11 : Int32 → Int32 → Int32 → hM → Option (Unit × hM)) (n : Nat) (x1 : Int32) (x2 : Int32) (x4 : Int32) (x5 : Int32) (m : hM) : f_X9_loseFrom_29 fu k11 (n + 1) x1 x2 x4 x5 m = s_X9_loseFrom_29 fu k11 (f_X9_loseFrom_29 fu k11 n) x1 x2 x4 x5 m := rfl
set_option maxRecDepth 100000 in
set_option maxHeartbeats 4000000 in
theorem r_X9_loseFrom_29 {G : hG} {X : hX} (C : Cx G X 1 cX9_loseFrom 9 RX9 none) (K : Cr G X) (fu : Nat) (k11 : Int32 → Int32 → Int32 → hM → Option (Unit × hM)) (hk11 : ∀ (x1 : Int32) (x2 : Int32) (x4 : Int32) (m : hM), Rf vU G X 11 [(0, hA G 34), (1, .int x1), (2, .int x2), (3, hA G 5), (4, .int x4)] [] m (k11 x1 x2 x4 m)) (n : Nat) : ∀ (x1 : Int32) (x2 : Int32) (x4 : Int32) (x5 : Int32) (m : hM), Rf vU G X 29 [(0, hA G 34), (1, .int x1), (2, .int x2), (3, hA G 5), (4, .int x4), (5, .int x5)] [] m (f_X9_loseFrom_29 fu k11 n x1 x2 x4 x5 m) := by
  induction n with
  | zero => intros; exact rf_none
  | succ n ih =>
    intro x1 x2 x4 x5 m
    show Rf vU G X 29 [(0, hA G 34), (1, .int x1), (2, .int x2), (3, hA G 5), (4, .int x4), (5, .int x5)] [] m (s_X9_loseFrom_29 fu k11 (f_X9_loseFrom_29 fu k11 n) x1 x2 x4 x5 m)
    unfold s_X9_loseFrom_29
    refine rf_iload C (n := 31) (q := 5) dX9_loseFrom_29 rfl rfl ?_
    refine rf_aload_n C (n := 32) (q := 0) dX9_loseFrom_31 rfl rfl rfl ?_
    refine rf_getS C (n := 35) fl_RX9_37 ly_34 rfl dX9_loseFrom_32 rfl ?_
    refine rf_getI C (n := 38) fl_RX9_45 ly_1 rfl dX9_loseFrom_35 rfl ?_
    refine rf_icmp_ge C (tgt := 143) (n := 41) dX9_loseFrom_38 (by decide) rfl (fun h3 => ?_) (fun h3 => ?_)
    · exact rf_lv _ [0, 1, 2, 3, 4] rfl (r_X9_loseFrom_143 C K fu _ hk11 _ _ _ _)
    · refine rf_iload C (n := 43) (q := 4) dX9_loseFrom_41 rfl rfl ?_
      refine rf_bipush C (n := 45) (v := 6) dX9_loseFrom_43 rfl (by decide) ?_
      refine rf_imul C (n := 46) dX9_loseFrom_45 rfl ?_
      refine rf_iload C (n := 48) (q := 5) dX9_loseFrom_46 rfl rfl ?_
      refine rf_iadd C (n := 49) dX9_loseFrom_48 rfl ?_
      refine rf_letI (fun y5 => ?_)
      refine rf_istore C (n := 51) [(6, .int y5), (0, hA G 34), (1, .int x1), (2, .int x2), (3, hA G 5), (4, .int x4), (5, .int x5)] dX9_loseFrom_49 rfl (by decide) rfl ?_
      refine rf_aload_n C (n := 52) (q := 4) dX9_loseFrom_51 rfl rfl rfl ?_
      refine rf_iload C (n := 54) (q := 5) dX9_loseFrom_52 rfl rfl ?_
      refine rf_sipush C (n := 57) (v := 2500) dX9_loseFrom_54 rfl (by decide) ?_
      refine rf_imul C (n := 58) dX9_loseFrom_57 rfl ?_
      refine rf_iload_n C (n := 59) (q := 2) dX9_loseFrom_58 rfl rfl rfl ?_
      refine rf_iadd C (n := 60) dX9_loseFrom_59 rfl ?_
      refine rf_guard (fun h6 => ?_)
      refine rf_iald C (n := 61) ly_5 h6 rfl dX9_loseFrom_60 rfl ?_
      refine rf_aload_n C (n := 62) (q := 4) dX9_loseFrom_61 rfl rfl rfl ?_
      refine rf_iload C (n := 64) (q := 6) dX9_loseFrom_62 rfl rfl ?_
      refine rf_sipush C (n := 67) (v := 2500) dX9_loseFrom_64 rfl (by decide) ?_
      refine rf_imul C (n := 68) dX9_loseFrom_67 rfl ?_
      refine rf_iload_n C (n := 69) (q := 2) dX9_loseFrom_68 rfl rfl rfl ?_
      refine rf_iadd C (n := 70) dX9_loseFrom_69 rfl ?_
      refine rf_guard (fun h7 => ?_)
      refine rf_iald C (n := 71) ly_5 h7 rfl dX9_loseFrom_70 rfl ?_
      refine rf_iand C (n := 72) dX9_loseFrom_71 rfl ?_
      refine rf_letI (fun y8 => ?_)
      refine rf_istore C (n := 74) [(7, .int y8), (6, .int y5), (0, hA G 34), (1, .int x1), (2, .int x2), (3, hA G 5), (4, .int x4), (5, .int x5)] dX9_loseFrom_72 rfl (by decide) rfl ?_
      refine rf_iload_n C (n := 75) (q := 4) dX9_loseFrom_74 rfl rfl rfl ?_
      refine rf_aload_n C (n := 76) (q := 2) dX9_loseFrom_75 rfl rfl rfl ?_
      refine rf_getS C (n := 79) fl_RX9_37 ly_34 rfl dX9_loseFrom_76 rfl ?_
      refine rf_getS C (n := 82) fl_RX9_100 ly_1 rfl dX9_loseFrom_79 rfl ?_
      refine rf_iload C (n := 84) (q := 1) dX9_loseFrom_82 rfl rfl ?_
      refine rf_guard (fun h9 => ?_)
      refine rf_iald C (n := 85) ly_3 h9 rfl dX9_loseFrom_84 rfl ?_
      refine rf_isub C (n := 86) dX9_loseFrom_85 rfl ?_
      refine rf_letI (fun y10 => ?_)
      refine rf_istore C (n := 88) [(8, .int y10), (7, .int y8), (6, .int y5), (0, hA G 34), (1, .int x1), (2, .int x2), (3, hA G 5), (4, .int x4), (5, .int x5)] dX9_loseFrom_86 rfl (by decide) rfl ?_
      refine rf_aload_n C (n := 89) (q := 3) dX9_loseFrom_88 rfl rfl rfl ?_
      refine rf_getS C (n := 92) fl_RX9_34 ly_34 rfl dX9_loseFrom_89 rfl ?_
      refine rf_iload C (n := 94) (q := 2) dX9_loseFrom_92 rfl rfl ?_
      refine rf_iload C (n := 96) (q := 0) dX9_loseFrom_94 rfl rfl ?_
      refine rf_if_le C (tgt := 104) (n := 99) dX9_loseFrom_96 (by decide) rfl (fun h11 => ?_) (fun h11 => ?_)
      · refine rf_iconst C (n := 105) (v := 0) dX9_loseFrom_104 rfl (by decide) ?_
        exact rf_lv _ [3, 4, 5, 6, 7, 8, 2, 1] rfl (r_X9_loseFrom_105 C K fu _ hk11 _ ih _ _ _ _ _ _ _ _ _)
      · refine rf_iload C (n := 101) (q := 0) dX9_loseFrom_99 rfl rfl ?_
        refine rf_goto C (n := 105) dX9_loseFrom_101 (by decide) ?_
        exact rf_lv _ [3, 4, 5, 6, 7, 8, 2, 1] rfl (r_X9_loseFrom_105 C K fu _ hk11 _ ih _ _ _ _ _ _ _ _ _)
noncomputable def s_X9_loseFrom_11 (fu : Nat) (ih : Int32 → Int32 → Int32 → hM → Option (Unit × hM)) (x1 : Int32) (x2 : Int32) (x4 : Int32) (m : hM) : Option (Unit × hM) :=
  if (gI m 1 4) ≤ x4 then (
some ((), m)) else (
hLet (x4 + 1) fun y2 =>
f_X9_loseFrom_29 fu ih fu x1 x2 x4 y2 m)
noncomputable def f_X9_loseFrom_11 (fu : Nat) (n : Nat) : Int32 → Int32 → Int32 → hM → Option (Unit × hM) :=
  Nat.rec (motive := fun _ => Int32 → Int32 → Int32 → hM → Option (Unit × hM)) (fun _ _ _ _ => none) (fun _ ih => s_X9_loseFrom_11 fu ih) n
theorem f_X9_loseFrom_11_s (fu : Nat) (n : Nat) (x1 : Int32) (x2 : Int32) (x4 : Int32) (m : hM) : f_X9_loseFrom_11 fu (n + 1) x1 x2 x4 m = s_X9_loseFrom_11 fu (f_X9_loseFrom_11 fu n) x1 x2 x4 m := rfl
set_option maxRecDepth 100000 in
set_option maxHeartbeats 4000000 in
theorem r_X9_loseFrom_11 {G : hG} {X : hX} (C : Cx G X 1 cX9_loseFrom 9 RX9 none) (K : Cr G X) (fu : Nat) (n : Nat) : ∀ (x1 : Int32) (x2 : Int32) (x4 : Int32) (m : hM), Rf vU G X 11 [(0, hA G 34), (1, .int x1), (2, .int x2), (3, hA G 5), (4, .int x4)] [] m (f_X9_loseFrom_11 fu n x1 x2 x4 m) := by
  induction n with
  | zero => intros; exact rf_none
  | succ n ih =>
    intro x1 x2 x4 m
    show Rf vU G X 11 [(0, hA G 34), (1, .int x1), (2, .int x2), (3, hA G 5), (4, .int x4)] [] m (s_X9_loseFrom_11 fu (f_X9_loseFrom_11 fu n) x1 x2 x4 m)
    unfold s_X9_loseFrom_11
    refine rf_iload C (n := 13) (q := 4) dX9_loseFrom_11 rfl rfl ?_
    refine rf_aload_n C (n := 14) (q := 0) dX9_loseFrom_13 rfl rfl rfl ?_
    refine rf_getS C (n := 17) fl_RX9_37 ly_34 rfl dX9_loseFrom_14 rfl ?_
    refine rf_getI C (n := 20) fl_RX9_45 ly_1 rfl dX9_loseFrom_17 rfl ?_
    refine rf_icmp_ge C (tgt := 149) (n := 23) dX9_loseFrom_20 (by decide) rfl (fun h1 => ?_) (fun h1 => ?_)
    · exact rf_vret C K dX9_loseFrom_149
    · refine rf_iload C (n := 25) (q := 4) dX9_loseFrom_23 rfl rfl ?_
      refine rf_iconst C (n := 26) (v := 1) dX9_loseFrom_25 rfl (by decide) ?_
      refine rf_iadd C (n := 27) dX9_loseFrom_26 rfl ?_
      refine rf_letI (fun y2 => ?_)
      refine rf_istore C (n := 29) [(5, .int y2), (0, hA G 34), (1, .int x1), (2, .int x2), (3, hA G 5), (4, .int x4)] dX9_loseFrom_27 rfl (by decide) rfl ?_
      exact rf_lv _ [1, 2, 3, 4, 5, 0] rfl (r_X9_loseFrom_29 C K fu _ ih fu _ _ _ _ _)
noncomputable def f_X9_loseFrom (fu : Nat) (x1 : Int32) (x2 : Int32) (m : hM) : Option (Unit × hM) :=
  f_X9_loseFrom_11 fu fu x1 x2 0 m
set_option maxRecDepth 100000 in
set_option maxHeartbeats 4000000 in
theorem c_X9_loseFrom (G : hG) (fu : Nat) (x1 : Int32) (x2 : Int32) (m : hM) : Mt vU G 1 yX9_loseFrom cX9_loseFrom 9 none [hA G 34, .int x1, .int x2] m (f_X9_loseFrom fu x1 x2 m) := by
  refine mt_of (by decide +kernel) (Nat.le_of_ble_eq_true rfl) (fun X C K => ?_)
  have C : Cx G X 1 cX9_loseFrom 9 RX9 none := C
  show Rf vU G X 0 [(0, hA G 34), (1, .int x1), (2, .int x2)] [] m _
  unfold f_X9_loseFrom
  refine rf_aload_n C (n := 1) (q := 0) dX9_loseFrom_0 rfl rfl rfl ?_
  refine rf_getS C (n := 4) fl_RX9_37 ly_34 rfl dX9_loseFrom_1 rfl ?_
  refine rf_getS C (n := 7) fl_RX9_97 ly_1 rfl dX9_loseFrom_4 rfl ?_
  refine rf_astore_n C (n := 8) [(3, hA G 5), (0, hA G 34), (1, .int x1), (2, .int x2)] dX9_loseFrom_7 rfl rfl (by decide) rfl ?_
  refine rf_iconst C (n := 9) (v := 0) dX9_loseFrom_8 rfl (by decide) ?_
  refine rf_istore C (n := 11) [(4, .int 0), (3, hA G 5), (0, hA G 34), (1, .int x1), (2, .int x2)] dX9_loseFrom_9 rfl (by decide) rfl ?_
  exact rf_lv _ [2, 3, 4, 1, 0] rfl (r_X9_loseFrom_11 C K fu fu _ _ _ _)
noncomputable def f_X9_soonest_232 (fu : Nat) (k47 : Int32 → Int32 → Int32 → Int32 → hM → Option (Int32 × hM)) (x4 : Int32) (x5 : Int32) (x6 : Int32) (x7 : Int32) (m : hM) : Option (Int32 × hM) :=
  hLet (x7 + 1) fun y15 =>
k47 x4 x5 x6 y15 m
set_option maxRecDepth 100000 in
set_option maxHeartbeats 4000000 in
theorem r_X9_soonest_232 {G : hG} {X : hX} (C : Cx G X 2 cX9_soonest 12 RX9 (some .int)) (K : Cr G X) (fu : Nat) (k47 : Int32 → Int32 → Int32 → Int32 → hM → Option (Int32 × hM)) (hk47 : ∀ (x4 : Int32) (x5 : Int32) (x6 : Int32) (x7 : Int32) (m : hM), Rf vI G X 47 [(0, hA G 34), (4, .int x4), (5, .int x5), (6, .int x6), (7, .int x7)] [] m (k47 x4 x5 x6 x7 m)) (x4 : Int32) (x5 : Int32) (x6 : Int32) (x7 : Int32) (m : hM) : Rf vI G X 232 [(0, hA G 34), (4, .int x4), (5, .int x5), (6, .int x6), (7, .int x7)] [] m (f_X9_soonest_232 fu k47 x4 x5 x6 x7 m) := by
  unfold f_X9_soonest_232
  refine rf_iinc2 C (n := 235) (q := 4) (fun y15 => [(7, .int y15), (0, hA G 34), (4, .int x4), (5, .int x5), (6, .int x6)]) dX9_soonest_232 rfl rfl (by decide) (by decide) (fun _ => rfl) (fun y15 => ?_)
  refine rf_goto C (n := 47) dX9_soonest_235 (by decide) ?_
  exact rf_lv _ [1, 2, 3, 4, 0] rfl (hk47 _ _ _ _ _)
noncomputable def f_X9_soonest_225 (fu : Nat) (k47 : Int32 → Int32 → Int32 → Int32 → hM → Option (Int32 × hM)) (k148 : Int32 → Int32 → Int32 → Int32 → Int32 → hM → Option (Int32 × hM)) (x4 : Int32) (x5 : Int32) (x6 : Int32) (x7 : Int32) (x9 : Int32) (s1 : Int32) (s2 : Int32) (m : hM) : Option (Int32 × hM) :=
  if hIn s1 156 then (
hLet (sI m 38 (Int32.toNatClampNeg s1) s2) fun m27 =>
hLet (x9 + (-1)) fun y28 =>
k148 x4 x5 x6 x7 y28 m27) else none
set_option maxRecDepth 100000 in
set_option maxHeartbeats 4000000 in
theorem r_X9_soonest_225 {G : hG} {X : hX} (C : Cx G X 2 cX9_soonest 12 RX9 (some .int)) (K : Cr G X) (fu : Nat) (k47 : Int32 → Int32 → Int32 → Int32 → hM → Option (Int32 × hM)) (hk47 : ∀ (x4 : Int32) (x5 : Int32) (x6 : Int32) (x7 : Int32) (m : hM), Rf vI G X 47 [(0, hA G 34), (4, .int x4), (5, .int x5), (6, .int x6), (7, .int x7)] [] m (k47 x4 x5 x6 x7 m)) (k148 : Int32 → Int32 → Int32 → Int32 → Int32 → hM → Option (Int32 × hM)) (hk148 : ∀ (x4 : Int32) (x5 : Int32) (x6 : Int32) (x7 : Int32) (x9 : Int32) (m : hM), Rf vI G X 148 [(0, hA G 34), (4, .int x4), (5, .int x5), (6, .int x6), (7, .int x7), (9, .int x9)] [] m (k148 x4 x5 x6 x7 x9 m)) (x4 : Int32) (x5 : Int32) (x6 : Int32) (x7 : Int32) (x9 : Int32) (s1 : Int32) (s2 : Int32) (m : hM) : Rf vI G X 225 [(0, hA G 34), (4, .int x4), (5, .int x5), (6, .int x6), (7, .int x7), (9, .int x9)] [.int s2, .int s1, hA G 38] m (f_X9_soonest_225 fu k47 k148 x4 x5 x6 x7 x9 s1 s2 m) := by
  unfold f_X9_soonest_225
  refine rf_guard (fun h26 => ?_)
  refine rf_iast C (n := 226) ly_38 h26 rfl dX9_soonest_225 rfl ?_
  refine rf_letM (fun m27 => ?_)
  refine rf_iinc2 C (n := 229) (q := 5) (fun y28 => [(9, .int y28), (0, hA G 34), (4, .int x4), (5, .int x5), (6, .int x6), (7, .int x7)]) dX9_soonest_226 rfl rfl (by decide) (by decide) (fun _ => rfl) (fun y28 => ?_)
  refine rf_goto C (n := 148) dX9_soonest_229 (by decide) ?_
  exact rf_lv _ [1, 2, 3, 4, 5, 0] rfl (hk148 _ _ _ _ _ _)
noncomputable def s_X9_soonest_148 (fu : Nat) (k47 : Int32 → Int32 → Int32 → Int32 → hM → Option (Int32 × hM)) (ih : Int32 → Int32 → Int32 → Int32 → Int32 → hM → Option (Int32 × hM)) (x4 : Int32) (x5 : Int32) (x6 : Int32) (x7 : Int32) (x9 : Int32) (m : hM) : Option (Int32 × hM) :=
  if x9 ≤ 0 then (
f_X9_soonest_232 fu k47 x4 x5 x6 x7 m) else (
if hIn x9 156 then (
hLet (gI m 35 (Int32.toNatClampNeg x9)) fun y17 =>
if hIn y17 156 then (
if hIn y17 156 then (
if hIn x9 156 then (
if hIn (((gI m 36 (Int32.toNatClampNeg y17)) * 6) + (gI m 36 (Int32.toNatClampNeg x9))) 36 then (
hLet ((gI m 38 (Int32.toNatClampNeg y17)) + (gI m 40 (Int32.toNatClampNeg (((gI m 36 (Int32.toNatClampNeg y17)) * 6) + (gI m 36 (Int32.toNatClampNeg x9)))))) fun y22 =>
if hIn x9 156 then (
if (gI m 38 (Int32.toNatClampNeg x9)) ≤ y22 then (
if hIn x9 156 then (
f_X9_soonest_225 fu k47 ih x4 x5 x6 x7 x9 x9 (gI m 38 (Int32.toNatClampNeg x9)) m) else none) else (
f_X9_soonest_225 fu k47 ih x4 x5 x6 x7 x9 x9 y22 m)) else none) else none) else none) else none) else none) else none)
noncomputable def f_X9_soonest_148 (fu : Nat) (k47 : Int32 → Int32 → Int32 → Int32 → hM → Option (Int32 × hM)) (n : Nat) : Int32 → Int32 → Int32 → Int32 → Int32 → hM → Option (Int32 × hM) :=
  Nat.rec (motive := fun _ => Int32 → Int32 → Int32 → Int32 → Int32 → hM → Option (Int32 × hM)) (fun _ _ _ _ _ _ => none) (fun _ ih => s_X9_soonest_148 fu k47 ih) n
theorem f_X9_soonest_148_s (fu : Nat) (k47 : Int32 → Int32 → Int32 → Int32 → hM → Option (Int32 × hM)) (n : Nat) (x4 : Int32) (x5 : Int32) (x6 : Int32) (x7 : Int32) (x9 : Int32) (m : hM) : f_X9_soonest_148 fu k47 (n + 1) x4 x5 x6 x7 x9 m = s_X9_soonest_148 fu k47 (f_X9_soonest_148 fu k47 n) x4 x5 x6 x7 x9 m := rfl
set_option maxRecDepth 100000 in
set_option maxHeartbeats 4000000 in
theorem r_X9_soonest_148 {G : hG} {X : hX} (C : Cx G X 2 cX9_soonest 12 RX9 (some .int)) (K : Cr G X) (fu : Nat) (k47 : Int32 → Int32 → Int32 → Int32 → hM → Option (Int32 × hM)) (hk47 : ∀ (x4 : Int32) (x5 : Int32) (x6 : Int32) (x7 : Int32) (m : hM), Rf vI G X 47 [(0, hA G 34), (4, .int x4), (5, .int x5), (6, .int x6), (7, .int x7)] [] m (k47 x4 x5 x6 x7 m)) (n : Nat) : ∀ (x4 : Int32) (x5 : Int32) (x6 : Int32) (x7 : Int32) (x9 : Int32) (m : hM), Rf vI G X 148 [(0, hA G 34), (4, .int x4), (5, .int x5), (6, .int x6), (7, .int x7), (9, .int x9)] [] m (f_X9_soonest_148 fu k47 n x4 x5 x6 x7 x9 m) := by
  induction n with
  | zero => intros; exact rf_none
  | succ n ih =>
    intro x4 x5 x6 x7 x9 m
    show Rf vI G X 148 [(0, hA G 34), (4, .int x4), (5, .int x5), (6, .int x6), (7, .int x7), (9, .int x9)] [] m (s_X9_soonest_148 fu k47 (f_X9_soonest_148 fu k47 n) x4 x5 x6 x7 x9 m)
    unfold s_X9_soonest_148
    refine rf_iload C (n := 150) (q := 5) dX9_soonest_148 rfl rfl ?_
    refine rf_if_le C (tgt := 232) (n := 153) dX9_soonest_150 (by decide) rfl (fun h14 => ?_) (fun h14 => ?_)
    · exact rf_lv _ [0, 1, 2, 3, 4] rfl (r_X9_soonest_232 C K fu _ hk47 _ _ _ _ _)
    · refine rf_aload_n C (n := 154) (q := 0) dX9_soonest_153 rfl rfl rfl ?_
      refine rf_getS C (n := 157) fl_RX9_9 ly_34 rfl dX9_soonest_154 rfl ?_
      refine rf_iload C (n := 159) (q := 5) dX9_soonest_157 rfl rfl ?_
      refine rf_guard (fun h16 => ?_)
      refine rf_iald C (n := 160) ly_35 h16 rfl dX9_soonest_159 rfl ?_
      refine rf_letI (fun y17 => ?_)
      refine rf_istore C (n := 162) [(10, .int y17), (0, hA G 34), (4, .int x4), (5, .int x5), (6, .int x6), (7, .int x7), (9, .int x9)] dX9_soonest_160 rfl (by decide) rfl ?_
      refine rf_aload_n C (n := 163) (q := 1) dX9_soonest_162 rfl rfl rfl ?_
      refine rf_getS C (n := 166) fl_RX9_28 ly_34 rfl dX9_soonest_163 rfl ?_
      refine rf_iload C (n := 168) (q := 0) dX9_soonest_166 rfl rfl ?_
      refine rf_guard (fun h18 => ?_)
      refine rf_iald C (n := 169) ly_38 h18 rfl dX9_soonest_168 rfl ?_
      refine rf_aload_n C (n := 170) (q := 1) dX9_soonest_169 rfl rfl rfl ?_
      refine rf_getS C (n := 173) fl_RX9_34 ly_34 rfl dX9_soonest_170 rfl ?_
      refine rf_aload_n C (n := 174) (q := 1) dX9_soonest_173 rfl rfl rfl ?_
      refine rf_getS C (n := 177) fl_RX9_15 ly_34 rfl dX9_soonest_174 rfl ?_
      refine rf_iload C (n := 179) (q := 0) dX9_soonest_177 rfl rfl ?_
      refine rf_guard (fun h19 => ?_)
      refine rf_iald C (n := 180) ly_36 h19 rfl dX9_soonest_179 rfl ?_
      refine rf_bipush C (n := 182) (v := 6) dX9_soonest_180 rfl (by decide) ?_
      refine rf_imul C (n := 183) dX9_soonest_182 rfl ?_
      refine rf_aload_n C (n := 184) (q := 1) dX9_soonest_183 rfl rfl rfl ?_
      refine rf_getS C (n := 187) fl_RX9_15 ly_34 rfl dX9_soonest_184 rfl ?_
      refine rf_iload C (n := 189) (q := 6) dX9_soonest_187 rfl rfl ?_
      refine rf_guard (fun h20 => ?_)
      refine rf_iald C (n := 190) ly_36 h20 rfl dX9_soonest_189 rfl ?_
      refine rf_iadd C (n := 191) dX9_soonest_190 rfl ?_
      refine rf_guard (fun h21 => ?_)
      refine rf_iald C (n := 192) ly_40 h21 rfl dX9_soonest_191 rfl ?_
      refine rf_iadd C (n := 193) dX9_soonest_192 rfl ?_
      refine rf_letI (fun y22 => ?_)
      refine rf_istore C (n := 195) [(11, .int y22), (10, .int y17), (0, hA G 34), (4, .int x4), (5, .int x5), (6, .int x6), (7, .int x7), (9, .int x9)] dX9_soonest_193 rfl (by decide) rfl ?_
      refine rf_aload_n C (n := 196) (q := 2) dX9_soonest_195 rfl rfl rfl ?_
      refine rf_getS C (n := 199) fl_RX9_28 ly_34 rfl dX9_soonest_196 rfl ?_
      refine rf_iload C (n := 201) (q := 7) dX9_soonest_199 rfl rfl ?_
      refine rf_iload C (n := 203) (q := 0) dX9_soonest_201 rfl rfl ?_
      refine rf_aload_n C (n := 204) (q := 2) dX9_soonest_203 rfl rfl rfl ?_
      refine rf_getS C (n := 207) fl_RX9_28 ly_34 rfl dX9_soonest_204 rfl ?_
      refine rf_iload C (n := 209) (q := 7) dX9_soonest_207 rfl rfl ?_
      refine rf_guard (fun h23 => ?_)
      refine rf_iald C (n := 210) ly_38 h23 rfl dX9_soonest_209 rfl ?_
      refine rf_icmp_ge C (tgt := 218) (n := 213) dX9_soonest_210 (by decide) rfl (fun h24 => ?_) (fun h24 => ?_)
      · refine rf_aload_n C (n := 219) (q := 2) dX9_soonest_218 rfl rfl rfl ?_
        refine rf_getS C (n := 222) fl_RX9_28 ly_34 rfl dX9_soonest_219 rfl ?_
        refine rf_iload C (n := 224) (q := 7) dX9_soonest_222 rfl rfl ?_
        refine rf_guard (fun h25 => ?_)
        refine rf_iald C (n := 225) ly_38 h25 rfl dX9_soonest_224 rfl ?_
        exact rf_lv _ [2, 3, 4, 5, 6, 7] rfl (r_X9_soonest_225 C K fu _ hk47 _ ih _ _ _ _ _ _ _ _)
      · refine rf_iload C (n := 215) (q := 0) dX9_soonest_213 rfl rfl ?_
        refine rf_goto C (n := 225) dX9_soonest_215 (by decide) ?_
        exact rf_lv _ [2, 3, 4, 5, 6, 7] rfl (r_X9_soonest_225 C K fu _ hk47 _ ih _ _ _ _ _ _ _ _)
noncomputable def f_X9_soonest_130 (fu : Nat) (k47 : Int32 → Int32 → Int32 → Int32 → hM → Option (Int32 × hM)) (x4 : Int32) (x5 : Int32) (x6 : Int32) (x7 : Int32) (m : hM) : Option (Int32 × hM) :=
  hBd (f_X9_loseFrom fu (x7 + 1) x4 m) fun _ m12 =>
hLet ((gI m12 34 4) - 1) fun y13 =>
f_X9_soonest_148 fu k47 fu x4 x5 x6 x7 y13 m12
set_option maxRecDepth 100000 in
set_option maxHeartbeats 4000000 in
theorem r_X9_soonest_130 {G : hG} {X : hX} (C : Cx G X 2 cX9_soonest 12 RX9 (some .int)) (K : Cr G X) (fu : Nat) (k47 : Int32 → Int32 → Int32 → Int32 → hM → Option (Int32 × hM)) (hk47 : ∀ (x4 : Int32) (x5 : Int32) (x6 : Int32) (x7 : Int32) (m : hM), Rf vI G X 47 [(0, hA G 34), (4, .int x4), (5, .int x5), (6, .int x6), (7, .int x7)] [] m (k47 x4 x5 x6 x7 m)) (x4 : Int32) (x5 : Int32) (x6 : Int32) (x7 : Int32) (m : hM) : Rf vI G X 130 [(0, hA G 34), (4, .int x4), (5, .int x5), (6, .int x6), (7, .int x7)] [] m (f_X9_soonest_130 fu k47 x4 x5 x6 x7 m) := by
  unfold f_X9_soonest_130
  refine rf_aload_n C (n := 131) (q := 0) dX9_soonest_130 rfl rfl rfl ?_
  refine rf_iload C (n := 133) (q := 4) dX9_soonest_131 rfl rfl ?_
  refine rf_iconst C (n := 134) (v := 1) dX9_soonest_133 rfl (by decide) ?_
  refine rf_iadd C (n := 135) dX9_soonest_134 rfl ?_
  refine rf_iload C (n := 137) (q := 1) dX9_soonest_135 rfl rfl ?_
  refine rf_callVv C (n := 140) (c_X9_loseFrom G fu _ _ _) mw_RX9_70 ly_34 rfl ⟨by decide, by decide⟩ rfl (Nat.le_of_ble_eq_true rfl) rfl dX9_soonest_137 rfl (fun _ m12 => ?_)
  refine rf_aload_n C (n := 141) (q := 0) dX9_soonest_140 rfl rfl rfl ?_
  refine rf_getI C (n := 144) fl_RX9_21 ly_34 rfl dX9_soonest_141 rfl ?_
  refine rf_iconst C (n := 145) (v := 1) dX9_soonest_144 rfl (by decide) ?_
  refine rf_isub C (n := 146) dX9_soonest_145 rfl ?_
  refine rf_letI (fun y13 => ?_)
  refine rf_istore C (n := 148) [(9, .int y13), (0, hA G 34), (4, .int x4), (5, .int x5), (6, .int x6), (7, .int x7)] dX9_soonest_146 rfl (by decide) rfl ?_
  exact rf_lv _ [1, 2, 3, 4, 5, 0] rfl (r_X9_soonest_148 C K fu _ hk47 fu _ _ _ _ _ _)
noncomputable def f_X9_soonest_113 (fu : Nat) (x7 : Int32) (x9 : Int32) (m : hM) : Option (Int32 × hM) :=
  hLet (sI m 34 5 x9) fun m36 =>
some (x7 + 1, m36)
set_option maxRecDepth 100000 in
set_option maxHeartbeats 4000000 in
theorem r_X9_soonest_113 {G : hG} {X : hX} (C : Cx G X 2 cX9_soonest 12 RX9 (some .int)) (K : Cr G X) (fu : Nat) (x7 : Int32) (x9 : Int32) (m : hM) : Rf vI G X 113 [(0, hA G 34), (7, .int x7), (9, .int x9)] [] m (f_X9_soonest_113 fu x7 x9 m) := by
  unfold f_X9_soonest_113
  refine rf_aload_n C (n := 114) (q := 0) dX9_soonest_113 rfl rfl rfl ?_
  refine rf_iload C (n := 116) (q := 2) dX9_soonest_114 rfl rfl ?_
  refine rf_putI C (n := 119) pl_RX9_25 ly_34 rfl ⟨rfl, rfl⟩ dX9_soonest_116 rfl ?_
  refine rf_letM (fun m36 => ?_)
  refine rf_iload C (n := 121) (q := 1) dX9_soonest_119 rfl rfl ?_
  refine rf_iconst C (n := 122) (v := 1) dX9_soonest_121 rfl (by decide) ?_
  refine rf_iadd C (n := 123) dX9_soonest_122 rfl ?_
  exact rf_iret C K dX9_soonest_123
noncomputable def s_X9_soonest_72 (fu : Nat) (k47 : Int32 → Int32 → Int32 → Int32 → hM → Option (Int32 × hM)) (ih : Int32 → Int32 → Int32 → Int32 → Int32 → Int32 → hM → Option (Int32 × hM)) (x4 : Int32) (x5 : Int32) (x6 : Int32) (x7 : Int32) (x8 : Int32) (x9 : Int32) (m : hM) : Option (Int32 × hM) :=
  if (gI m 34 4) ≤ x9 then (
f_X9_soonest_130 fu k47 x4 x5 x6 x7 m) else (
if hIn x9 156 then (
if hIn x9 156 then (
if hIn x9 156 then (
hLet (sI m 38 (Int32.toNatClampNeg x9) ((gI m 38 (Int32.toNatClampNeg x9)) - ((x8 >>> ((gI m 36 (Int32.toNatClampNeg x9)) &&& 31)) &&& 1))) fun m32 =>
if hIn x9 156 then (
if ¬ (gI m32 38 (Int32.toNatClampNeg x9)) = 0 then (
hLet (x9 + 1) fun y35 =>
ih x4 x5 x6 x7 x8 y35 m32) else (
f_X9_soonest_113 fu x7 x9 m32)) else none) else none) else none) else none)
noncomputable def f_X9_soonest_72 (fu : Nat) (k47 : Int32 → Int32 → Int32 → Int32 → hM → Option (Int32 × hM)) (n : Nat) : Int32 → Int32 → Int32 → Int32 → Int32 → Int32 → hM → Option (Int32 × hM) :=
  Nat.rec (motive := fun _ => Int32 → Int32 → Int32 → Int32 → Int32 → Int32 → hM → Option (Int32 × hM)) (fun _ _ _ _ _ _ _ => none) (fun _ ih => s_X9_soonest_72 fu k47 ih) n
theorem f_X9_soonest_72_s (fu : Nat) (k47 : Int32 → Int32 → Int32 → Int32 → hM → Option (Int32 × hM)) (n : Nat) (x4 : Int32) (x5 : Int32) (x6 : Int32) (x7 : Int32) (x8 : Int32) (x9 : Int32) (m : hM) : f_X9_soonest_72 fu k47 (n + 1) x4 x5 x6 x7 x8 x9 m = s_X9_soonest_72 fu k47 (f_X9_soonest_72 fu k47 n) x4 x5 x6 x7 x8 x9 m := rfl
set_option maxRecDepth 100000 in
set_option maxHeartbeats 4000000 in
theorem r_X9_soonest_72 {G : hG} {X : hX} (C : Cx G X 2 cX9_soonest 12 RX9 (some .int)) (K : Cr G X) (fu : Nat) (k47 : Int32 → Int32 → Int32 → Int32 → hM → Option (Int32 × hM)) (hk47 : ∀ (x4 : Int32) (x5 : Int32) (x6 : Int32) (x7 : Int32) (m : hM), Rf vI G X 47 [(0, hA G 34), (4, .int x4), (5, .int x5), (6, .int x6), (7, .int x7)] [] m (k47 x4 x5 x6 x7 m)) (n : Nat) : ∀ (x4 : Int32) (x5 : Int32) (x6 : Int32) (x7 : Int32) (x8 : Int32) (x9 : Int32) (m : hM), Rf vI G X 72 [(0, hA G 34), (4, .int x4), (5, .int x5), (6, .int x6), (7, .int x7), (8, .int x8), (9, .int x9)] [] m (f_X9_soonest_72 fu k47 n x4 x5 x6 x7 x8 x9 m) := by
  induction n with
  | zero => intros; exact rf_none
  | succ n ih =>
    intro x4 x5 x6 x7 x8 x9 m
    show Rf vI G X 72 [(0, hA G 34), (4, .int x4), (5, .int x5), (6, .int x6), (7, .int x7), (8, .int x8), (9, .int x9)] [] m (s_X9_soonest_72 fu k47 (f_X9_soonest_72 fu k47 n) x4 x5 x6 x7 x8 x9 m)
    unfold s_X9_soonest_72
    refine rf_iload C (n := 74) (q := 6) dX9_soonest_72 rfl rfl ?_
    refine rf_aload_n C (n := 75) (q := 0) dX9_soonest_74 rfl rfl rfl ?_
    refine rf_getI C (n := 78) fl_RX9_21 ly_34 rfl dX9_soonest_75 rfl ?_
    refine rf_icmp_ge C (tgt := 130) (n := 81) dX9_soonest_78 (by decide) rfl (fun h11 => ?_) (fun h11 => ?_)
    · exact rf_lv _ [0, 1, 2, 3, 4] rfl (r_X9_soonest_130 C K fu _ hk47 _ _ _ _ _)
    · refine rf_aload_n C (n := 82) (q := 0) dX9_soonest_81 rfl rfl rfl ?_
      refine rf_getS C (n := 85) fl_RX9_28 ly_34 rfl dX9_soonest_82 rfl ?_
      refine rf_iload C (n := 87) (q := 6) dX9_soonest_85 rfl rfl ?_
      refine rf_dup2 C (n := 88) dX9_soonest_87 rfl rfl rfl ?_
      refine rf_guard (fun h29 => ?_)
      refine rf_iald C (n := 89) ly_38 h29 rfl dX9_soonest_88 rfl ?_
      refine rf_iload C (n := 91) (q := 5) dX9_soonest_89 rfl rfl ?_
      refine rf_aload_n C (n := 92) (q := 0) dX9_soonest_91 rfl rfl rfl ?_
      refine rf_getS C (n := 95) fl_RX9_15 ly_34 rfl dX9_soonest_92 rfl ?_
      refine rf_iload C (n := 97) (q := 6) dX9_soonest_95 rfl rfl ?_
      refine rf_guard (fun h30 => ?_)
      refine rf_iald C (n := 98) ly_36 h30 rfl dX9_soonest_97 rfl ?_
      refine rf_ishr C (n := 99) dX9_soonest_98 rfl ?_
      refine rf_iconst C (n := 100) (v := 1) dX9_soonest_99 rfl (by decide) ?_
      refine rf_iand C (n := 101) dX9_soonest_100 rfl ?_
      refine rf_isub C (n := 102) dX9_soonest_101 rfl ?_
      refine rf_guard (fun h31 => ?_)
      refine rf_iast C (n := 103) ly_38 h31 rfl dX9_soonest_102 rfl ?_
      refine rf_letM (fun m32 => ?_)
      refine rf_aload_n C (n := 104) (q := 0) dX9_soonest_103 rfl rfl rfl ?_
      refine rf_getS C (n := 107) fl_RX9_28 ly_34 rfl dX9_soonest_104 rfl ?_
      refine rf_iload C (n := 109) (q := 6) dX9_soonest_107 rfl rfl ?_
      refine rf_guard (fun h33 => ?_)
      refine rf_iald C (n := 110) ly_38 h33 rfl dX9_soonest_109 rfl ?_
      refine rf_if_ne C (tgt := 124) (n := 113) dX9_soonest_110 (by decide) rfl (fun h34 => ?_) (fun h34 => ?_)
      · refine rf_iinc2 C (n := 127) (q := 6) (fun y35 => [(9, .int y35), (0, hA G 34), (4, .int x4), (5, .int x5), (6, .int x6), (7, .int x7), (8, .int x8)]) dX9_soonest_124 rfl rfl (by decide) (by decide) (fun _ => rfl) (fun y35 => ?_)
        refine rf_goto C (n := 72) dX9_soonest_127 (by decide) ?_
        exact rf_lv _ [1, 2, 3, 4, 5, 6, 0] rfl (ih _ _ _ _ _ _ _)
      · exact rf_lv _ [0, 4, 6] rfl (r_X9_soonest_113 C K fu _ _ _)
noncomputable def s_X9_soonest_47 (fu : Nat) (ih : Int32 → Int32 → Int32 → Int32 → hM → Option (Int32 × hM)) (x4 : Int32) (x5 : Int32) (x6 : Int32) (x7 : Int32) (m : hM) : Option (Int32 × hM) :=
  if x5 ≤ x7 then (
some ((-2), m)) else (
if hIn x7 2500 then (
hLet ((gI m 4 (Int32.toNatClampNeg x7)) &&& x6) fun y10 =>
f_X9_soonest_72 fu ih fu x4 x5 x6 x7 y10 0 m) else none)
noncomputable def f_X9_soonest_47 (fu : Nat) (n : Nat) : Int32 → Int32 → Int32 → Int32 → hM → Option (Int32 × hM) :=
  Nat.rec (motive := fun _ => Int32 → Int32 → Int32 → Int32 → hM → Option (Int32 × hM)) (fun _ _ _ _ _ => none) (fun _ ih => s_X9_soonest_47 fu ih) n
theorem f_X9_soonest_47_s (fu : Nat) (n : Nat) (x4 : Int32) (x5 : Int32) (x6 : Int32) (x7 : Int32) (m : hM) : f_X9_soonest_47 fu (n + 1) x4 x5 x6 x7 m = s_X9_soonest_47 fu (f_X9_soonest_47 fu n) x4 x5 x6 x7 m := rfl
set_option maxRecDepth 100000 in
set_option maxHeartbeats 4000000 in
theorem r_X9_soonest_47 {G : hG} {X : hX} (C : Cx G X 2 cX9_soonest 12 RX9 (some .int)) (K : Cr G X) (fu : Nat) (n : Nat) : ∀ (x4 : Int32) (x5 : Int32) (x6 : Int32) (x7 : Int32) (m : hM), Rf vI G X 47 [(0, hA G 34), (4, .int x4), (5, .int x5), (6, .int x6), (7, .int x7)] [] m (f_X9_soonest_47 fu n x4 x5 x6 x7 m) := by
  induction n with
  | zero => intros; exact rf_none
  | succ n ih =>
    intro x4 x5 x6 x7 m
    show Rf vI G X 47 [(0, hA G 34), (4, .int x4), (5, .int x5), (6, .int x6), (7, .int x7)] [] m (s_X9_soonest_47 fu (f_X9_soonest_47 fu n) x4 x5 x6 x7 m)
    unfold s_X9_soonest_47
    refine rf_iload C (n := 49) (q := 4) dX9_soonest_47 rfl rfl ?_
    refine rf_iload C (n := 51) (q := 2) dX9_soonest_49 rfl rfl ?_
    refine rf_icmp_ge C (tgt := 238) (n := 54) dX9_soonest_51 (by decide) rfl (fun h8 => ?_) (fun h8 => ?_)
    · refine rf_bipush C (n := 240) (v := (-2)) dX9_soonest_238 rfl (by decide) ?_
      exact rf_iret C K dX9_soonest_240
    · refine rf_aload_n C (n := 55) (q := 0) dX9_soonest_54 rfl rfl rfl ?_
      refine rf_getS C (n := 58) fl_RX9_37 ly_34 rfl dX9_soonest_55 rfl ?_
      refine rf_getS C (n := 61) fl_RX9_67 ly_1 rfl dX9_soonest_58 rfl ?_
      refine rf_iload C (n := 63) (q := 4) dX9_soonest_61 rfl rfl ?_
      refine rf_guard (fun h9 => ?_)
      refine rf_iald C (n := 64) ly_4 h9 rfl dX9_soonest_63 rfl ?_
      refine rf_iload C (n := 66) (q := 3) dX9_soonest_64 rfl rfl ?_
      refine rf_iand C (n := 67) dX9_soonest_66 rfl ?_
      refine rf_letI (fun y10 => ?_)
      refine rf_istore C (n := 69) [(8, .int y10), (0, hA G 34), (4, .int x4), (5, .int x5), (6, .int x6), (7, .int x7)] dX9_soonest_67 rfl (by decide) rfl ?_
      refine rf_iconst C (n := 70) (v := 0) dX9_soonest_69 rfl (by decide) ?_
      refine rf_istore C (n := 72) [(9, .int 0), (8, .int y10), (0, hA G 34), (4, .int x4), (5, .int x5), (6, .int x6), (7, .int x7)] dX9_soonest_70 rfl (by decide) rfl ?_
      exact rf_lv _ [2, 3, 4, 5, 6, 1, 0] rfl (r_X9_soonest_72 C K fu _ ih fu _ _ _ _ _ _ _)
noncomputable def f_X9_soonest (fu : Nat) (x2 : Int32) (x3 : Int32) (x4 : Int32) (x5 : Int32) (m : hM) : Option (Int32 × hM) :=
  if hIn x2 8 then (
hBd (f_X0_officesWith fu (gI m 19 (Int32.toNatClampNeg x2)) m) fun y2 m3 =>
if ¬ y2 = 0 then (
hBd (f_J7_fill_53178 fu 38 156 1000000 m3) fun _ m5 =>
if hIn x2 8 then (
hLet (sI m5 38 0 (gI m5 21 (Int32.toNatClampNeg x2))) fun m7 =>
f_X9_soonest_47 fu fu x4 x5 y2 x3 m7) else none) else (
some ((-2), m3))) else none
set_option maxRecDepth 100000 in
set_option maxHeartbeats 4000000 in
theorem c_X9_soonest (G : hG) (fu : Nat) (x2 : Int32) (x3 : Int32) (x4 : Int32) (x5 : Int32) (m : hM) : Mt vI G 2 yX9_soonest cX9_soonest 12 (some .int) [hA G 34, hA G 18, .int x2, .int x3, .int x4, .int x5] m (f_X9_soonest fu x2 x3 x4 x5 m) := by
  refine mt_of (by decide +kernel) (Nat.le_of_ble_eq_true rfl) (fun X C K => ?_)
  have C : Cx G X 2 cX9_soonest 12 RX9 (some .int) := C
  show Rf vI G X 0 [(0, hA G 34), (1, hA G 18), (2, .int x2), (3, .int x3), (4, .int x4), (5, .int x5)] [] m _
  unfold f_X9_soonest
  refine rf_aload_n C (n := 1) (q := 0) dX9_soonest_0 rfl rfl rfl ?_
  refine rf_getS C (n := 4) fl_RX9_37 ly_34 rfl dX9_soonest_1 rfl ?_
  refine rf_aload_n C (n := 5) (q := 1) dX9_soonest_4 rfl rfl rfl ?_
  refine rf_getS C (n := 8) fl_RX9_48 ly_18 rfl dX9_soonest_5 rfl ?_
  refine rf_iload_n C (n := 9) (q := 2) dX9_soonest_8 rfl rfl rfl ?_
  refine rf_guard (fun h1 => ?_)
  refine rf_iald C (n := 10) ly_19 h1 rfl dX9_soonest_9 rfl ?_
  refine rf_callVi C (n := 13) (c_X0_officesWith G fu _ _) mw_RX9_53 ly_1 rfl ⟨by decide, by decide⟩ rfl (Nat.le_of_ble_eq_true rfl) rfl dX9_soonest_10 rfl (fun y2 m3 => ?_)
  refine rf_istore C (n := 15) [(6, .int y2), (0, hA G 34), (1, hA G 18), (2, .int x2), (3, .int x3), (4, .int x4), (5, .int x5)] dX9_soonest_13 rfl (by decide) rfl ?_
  refine rf_iload C (n := 17) (q := 0) dX9_soonest_15 rfl rfl ?_
  refine rf_if_ne C (tgt := 23) (n := 20) dX9_soonest_17 (by decide) rfl (fun h4 => ?_) (fun h4 => ?_)
  · refine rf_aload_n C (n := 24) (q := 1) dX9_soonest_23 rfl rfl rfl ?_
    refine rf_getS C (n := 27) fl_RX9_28 ly_34 rfl dX9_soonest_24 rfl ?_
    refine rf_ldc C (n := 29) dX9_soonest_27 rfl kc_RX9_57 ?_
    refine rf_callSv C (n := 32) (c_J7_fill_53178 G fu _ _ _ _) sw_RX9_58 ⟨by decide, by decide⟩ rfl (Nat.le_of_ble_eq_true rfl) rfl dX9_soonest_29 rfl (fun _ m5 => ?_)
    refine rf_aload_n C (n := 33) (q := 1) dX9_soonest_32 rfl rfl rfl ?_
    refine rf_getS C (n := 36) fl_RX9_28 ly_34 rfl dX9_soonest_33 rfl ?_
    refine rf_iconst C (n := 37) (v := 0) dX9_soonest_36 rfl (by decide) ?_
    refine rf_aload_n C (n := 38) (q := 2) dX9_soonest_37 rfl rfl rfl ?_
    refine rf_getS C (n := 41) fl_RX9_64 ly_18 rfl dX9_soonest_38 rfl ?_
    refine rf_iload_n C (n := 42) (q := 3) dX9_soonest_41 rfl rfl rfl ?_
    refine rf_guard (fun h6 => ?_)
    refine rf_iald C (n := 43) ly_21 h6 rfl dX9_soonest_42 rfl ?_
    refine rf_iast C (n := 44) (j0 := 0) ly_38 (by decide) (by decide) dX9_soonest_43 rfl ?_
    refine rf_letM (fun m7 => ?_)
    refine rf_iload_n C (n := 45) (q := 4) dX9_soonest_44 rfl rfl rfl ?_
    refine rf_istore C (n := 47) [(7, .int x3), (6, .int y2), (0, hA G 34), (1, hA G 18), (2, .int x2), (3, .int x3), (4, .int x4), (5, .int x5)] dX9_soonest_45 rfl (by decide) rfl ?_
    exact rf_lv _ [2, 6, 7, 1, 0] rfl (r_X9_soonest_47 C K fu fu _ _ _ _ _)
  · refine rf_bipush C (n := 22) (v := (-2)) dX9_soonest_20 rfl (by decide) ?_
    exact rf_iret C K dX9_soonest_22
