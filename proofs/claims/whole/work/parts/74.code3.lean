theorem dX11_thing_0 : decode cX11_thing 0 = .ok (.aload_n 0, 1) := by decide +kernel
theorem dX11_thing_1 : decode cX11_thing 1 = .ok (.invokevirtual 202, 3) := by decide +kernel
theorem dX11_thing_4 : decode cX11_thing 4 = .ok (.ifCond .eq 60, 3) := by decide +kernel
theorem dX11_thing_7 : decode cX11_thing 7 = .ok (.iconst 0, 1) := by decide +kernel
theorem dX11_thing_8 : decode cX11_thing 8 = .ok (.istore_n 1, 1) := by decide +kernel
theorem dX11_thing_9 : decode cX11_thing 9 = .ok (.iconst 0, 1) := by decide +kernel
theorem dX11_thing_10 : decode cX11_thing 10 = .ok (.istore_n 2, 1) := by decide +kernel
theorem dX11_thing_11 : decode cX11_thing 11 = .ok (.iload_n 2, 1) := by decide +kernel
theorem dX11_thing_12 : decode cX11_thing 12 = .ok (.iconst 3, 1) := by decide +kernel
theorem dX11_thing_13 : decode cX11_thing 13 = .ok (.if_icmp .ge 44, 3) := by decide +kernel
theorem dX11_thing_16 : decode cX11_thing 16 = .ok (.aload_n 0, 1) := by decide +kernel
theorem dX11_thing_17 : decode cX11_thing 17 = .ok (.invokevirtual 202, 3) := by decide +kernel
theorem dX11_thing_20 : decode cX11_thing 20 = .ok (.ifCond .eq 37, 3) := by decide +kernel
theorem dX11_thing_23 : decode cX11_thing 23 = .ok (.bipush 10, 2) := by decide +kernel
theorem dX11_thing_25 : decode cX11_thing 25 = .ok (.iload_n 1, 1) := by decide +kernel
theorem dX11_thing_26 : decode cX11_thing 26 = .ok (.imul, 1) := by decide +kernel
theorem dX11_thing_27 : decode cX11_thing 27 = .ok (.aload_n 0, 1) := by decide +kernel
theorem dX11_thing_28 : decode cX11_thing 28 = .ok (.getfield 173, 3) := by decide +kernel
theorem dX11_thing_31 : decode cX11_thing 31 = .ok (.aload_n 0, 1) := by decide +kernel
theorem dX11_thing_32 : decode cX11_thing 32 = .ok (.getfield 176, 3) := by decide +kernel
theorem dX11_thing_35 : decode cX11_thing 35 = .ok (.iaload, 1) := by decide +kernel
theorem dX11_thing_36 : decode cX11_thing 36 = .ok (.iadd, 1) := by decide +kernel
theorem dX11_thing_37 : decode cX11_thing 37 = .ok (.bipush 48, 2) := by decide +kernel
theorem dX11_thing_39 : decode cX11_thing 39 = .ok (.isub, 1) := by decide +kernel
theorem dX11_thing_40 : decode cX11_thing 40 = .ok (.istore_n 1, 1) := by decide +kernel
theorem dX11_thing_41 : decode cX11_thing 41 = .ok (.aload_n 0, 1) := by decide +kernel
theorem dX11_thing_42 : decode cX11_thing 42 = .ok (.dup, 1) := by decide +kernel
theorem dX11_thing_43 : decode cX11_thing 43 = .ok (.getfield 176, 3) := by decide +kernel
theorem dX11_thing_46 : decode cX11_thing 46 = .ok (.iconst 1, 1) := by decide +kernel
theorem dX11_thing_47 : decode cX11_thing 47 = .ok (.iadd, 1) := by decide +kernel
theorem dX11_thing_48 : decode cX11_thing 48 = .ok (.putfield 176, 3) := by decide +kernel
theorem dX11_thing_51 : decode cX11_thing 51 = .ok (.iinc 2 1, 3) := by decide +kernel
theorem dX11_thing_54 : decode cX11_thing 54 = .ok (.goto (-43), 3) := by decide +kernel
theorem dX11_thing_57 : decode cX11_thing 57 = .ok (.aload_n 0, 1) := by decide +kernel
theorem dX11_thing_58 : decode cX11_thing 58 = .ok (.iload_n 1, 1) := by decide +kernel
theorem dX11_thing_59 : decode cX11_thing 59 = .ok (.invokevirtual 206, 3) := by decide +kernel
theorem dX11_thing_62 : decode cX11_thing 62 = .ok (.iconst 1, 1) := by decide +kernel
theorem dX11_thing_63 : decode cX11_thing 63 = .ok (.ireturn, 1) := by decide +kernel
theorem dX11_thing_64 : decode cX11_thing 64 = .ok (.aload_n 0, 1) := by decide +kernel
theorem dX11_thing_65 : decode cX11_thing 65 = .ok (.ldc 209, 2) := by decide +kernel
theorem dX11_thing_67 : decode cX11_thing 67 = .ok (.invokevirtual 211, 3) := by decide +kernel
theorem dX11_thing_70 : decode cX11_thing 70 = .ok (.istore_n 1, 1) := by decide +kernel
theorem dX11_thing_71 : decode cX11_thing 71 = .ok (.iload_n 1, 1) := by decide +kernel
theorem dX11_thing_72 : decode cX11_thing 72 = .ok (.ifCond .lt 24, 3) := by decide +kernel
theorem dX11_thing_75 : decode cX11_thing 75 = .ok (.aload_n 0, 1) := by decide +kernel
theorem dX11_thing_76 : decode cX11_thing 76 = .ok (.sipush 1000, 3) := by decide +kernel
theorem dX11_thing_79 : decode cX11_thing 79 = .ok (.iload_n 1, 1) := by decide +kernel
theorem dX11_thing_80 : decode cX11_thing 80 = .ok (.iadd, 1) := by decide +kernel
theorem dX11_thing_81 : decode cX11_thing 81 = .ok (.invokevirtual 206, 3) := by decide +kernel
theorem dX11_thing_84 : decode cX11_thing 84 = .ok (.aload_n 0, 1) := by decide +kernel
theorem dX11_thing_85 : decode cX11_thing 85 = .ok (.dup, 1) := by decide +kernel
theorem dX11_thing_86 : decode cX11_thing 86 = .ok (.getfield 176, 3) := by decide +kernel
theorem dX11_thing_89 : decode cX11_thing 89 = .ok (.iconst 1, 1) := by decide +kernel
theorem dX11_thing_90 : decode cX11_thing 90 = .ok (.iadd, 1) := by decide +kernel
theorem dX11_thing_91 : decode cX11_thing 91 = .ok (.putfield 176, 3) := by decide +kernel
theorem dX11_thing_94 : decode cX11_thing 94 = .ok (.iconst 1, 1) := by decide +kernel
theorem dX11_thing_95 : decode cX11_thing 95 = .ok (.ireturn, 1) := by decide +kernel
theorem dX11_thing_96 : decode cX11_thing 96 = .ok (.aload_n 0, 1) := by decide +kernel
theorem dX11_thing_97 : decode cX11_thing 97 = .ok (.ldc 215, 2) := by decide +kernel
theorem dX11_thing_99 : decode cX11_thing 99 = .ok (.invokevirtual 211, 3) := by decide +kernel
theorem dX11_thing_102 : decode cX11_thing 102 = .ok (.ifCond .lt 11, 3) := by decide +kernel
theorem dX11_thing_105 : decode cX11_thing 105 = .ok (.aload_n 0, 1) := by decide +kernel
theorem dX11_thing_106 : decode cX11_thing 106 = .ok (.getfield 217, 3) := by decide +kernel
theorem dX11_thing_109 : decode cX11_thing 109 = .ok (.iconst 5, 1) := by decide +kernel
theorem dX11_thing_110 : decode cX11_thing 110 = .ok (.if_icmp .ne 5, 3) := by decide +kernel
theorem dX11_thing_113 : decode cX11_thing 113 = .ok (.iconst 0, 1) := by decide +kernel
theorem dX11_thing_114 : decode cX11_thing 114 = .ok (.ireturn, 1) := by decide +kernel
theorem dX11_thing_115 : decode cX11_thing 115 = .ok (.aload_n 0, 1) := by decide +kernel
theorem dX11_thing_116 : decode cX11_thing 116 = .ok (.dup, 1) := by decide +kernel
theorem dX11_thing_117 : decode cX11_thing 117 = .ok (.getfield 176, 3) := by decide +kernel
theorem dX11_thing_120 : decode cX11_thing 120 = .ok (.iconst 1, 1) := by decide +kernel
theorem dX11_thing_121 : decode cX11_thing 121 = .ok (.iadd, 1) := by decide +kernel
theorem dX11_thing_122 : decode cX11_thing 122 = .ok (.putfield 176, 3) := by decide +kernel
theorem dX11_thing_125 : decode cX11_thing 125 = .ok (.aload_n 0, 1) := by decide +kernel
theorem dX11_thing_126 : decode cX11_thing 126 = .ok (.dup, 1) := by decide +kernel
theorem dX11_thing_127 : decode cX11_thing 127 = .ok (.getfield 217, 3) := by decide +kernel
theorem dX11_thing_130 : decode cX11_thing 130 = .ok (.iconst 1, 1) := by decide +kernel
theorem dX11_thing_131 : decode cX11_thing 131 = .ok (.iadd, 1) := by decide +kernel
theorem dX11_thing_132 : decode cX11_thing 132 = .ok (.putfield 217, 3) := by decide +kernel
theorem dX11_thing_135 : decode cX11_thing 135 = .ok (.aload_n 0, 1) := by decide +kernel
theorem dX11_thing_136 : decode cX11_thing 136 = .ok (.iconst 0, 1) := by decide +kernel
theorem dX11_thing_137 : decode cX11_thing 137 = .ok (.invokevirtual 220, 3) := by decide +kernel
theorem dX11_thing_140 : decode cX11_thing 140 = .ok (.ifCond .eq 12, 3) := by decide +kernel
theorem dX11_thing_143 : decode cX11_thing 143 = .ok (.aload_n 0, 1) := by decide +kernel
theorem dX11_thing_144 : decode cX11_thing 144 = .ok (.ldc 223, 2) := by decide +kernel
theorem dX11_thing_146 : decode cX11_thing 146 = .ok (.invokevirtual 211, 3) := by decide +kernel
theorem dX11_thing_149 : decode cX11_thing 149 = .ok (.ifCond .ge 5, 3) := by decide +kernel
theorem dX11_thing_152 : decode cX11_thing 152 = .ok (.iconst 0, 1) := by decide +kernel
theorem dX11_thing_153 : decode cX11_thing 153 = .ok (.ireturn, 1) := by decide +kernel
theorem dX11_thing_154 : decode cX11_thing 154 = .ok (.aload_n 0, 1) := by decide +kernel
theorem dX11_thing_155 : decode cX11_thing 155 = .ok (.dup, 1) := by decide +kernel
theorem dX11_thing_156 : decode cX11_thing 156 = .ok (.getfield 176, 3) := by decide +kernel
theorem dX11_thing_159 : decode cX11_thing 159 = .ok (.iconst 1, 1) := by decide +kernel
theorem dX11_thing_160 : decode cX11_thing 160 = .ok (.iadd, 1) := by decide +kernel
theorem dX11_thing_161 : decode cX11_thing 161 = .ok (.putfield 176, 3) := by decide +kernel
theorem dX11_thing_164 : decode cX11_thing 164 = .ok (.aload_n 0, 1) := by decide +kernel
theorem dX11_thing_165 : decode cX11_thing 165 = .ok (.dup, 1) := by decide +kernel
theorem dX11_thing_166 : decode cX11_thing 166 = .ok (.getfield 217, 3) := by decide +kernel
theorem dX11_thing_169 : decode cX11_thing 169 = .ok (.iconst 1, 1) := by decide +kernel
theorem dX11_thing_170 : decode cX11_thing 170 = .ok (.isub, 1) := by decide +kernel
theorem dX11_thing_171 : decode cX11_thing 171 = .ok (.putfield 217, 3) := by decide +kernel
theorem dX11_thing_174 : decode cX11_thing 174 = .ok (.iconst 1, 1) := by decide +kernel
theorem dX11_thing_175 : decode cX11_thing 175 = .ok (.ireturn, 1) := by decide +kernel
theorem dX11_ahead_0 : decode cX11_ahead 0 = .ok (.aload_n 0, 1) := by decide +kernel
theorem dX11_ahead_1 : decode cX11_ahead 1 = .ok (.ldc 225, 2) := by decide +kernel
theorem dX11_ahead_3 : decode cX11_ahead 3 = .ok (.invokevirtual 211, 3) := by decide +kernel
theorem dX11_ahead_6 : decode cX11_ahead 6 = .ok (.istore_n 1, 1) := by decide +kernel
theorem dX11_ahead_7 : decode cX11_ahead 7 = .ok (.iload_n 1, 1) := by decide +kernel
theorem dX11_ahead_8 : decode cX11_ahead 8 = .ok (.ifCond .ge 8, 3) := by decide +kernel
theorem dX11_ahead_11 : decode cX11_ahead 11 = .ok (.aload_n 0, 1) := by decide +kernel
theorem dX11_ahead_12 : decode cX11_ahead 12 = .ok (.invokevirtual 227, 3) := by decide +kernel
theorem dX11_ahead_15 : decode cX11_ahead 15 = .ok (.ireturn, 1) := by decide +kernel
theorem dX11_ahead_16 : decode cX11_ahead 16 = .ok (.aload_n 0, 1) := by decide +kernel
theorem dX11_ahead_17 : decode cX11_ahead 17 = .ok (.dup, 1) := by decide +kernel
theorem dX11_ahead_18 : decode cX11_ahead 18 = .ok (.getfield 176, 3) := by decide +kernel
theorem dX11_ahead_21 : decode cX11_ahead 21 = .ok (.iconst 1, 1) := by decide +kernel
theorem dX11_ahead_22 : decode cX11_ahead 22 = .ok (.iadd, 1) := by decide +kernel
theorem dX11_ahead_23 : decode cX11_ahead 23 = .ok (.putfield 176, 3) := by decide +kernel
theorem dX11_ahead_26 : decode cX11_ahead 26 = .ok (.aload_n 0, 1) := by decide +kernel
theorem dX11_ahead_27 : decode cX11_ahead 27 = .ok (.invokevirtual 230, 3) := by decide +kernel
theorem dX11_ahead_30 : decode cX11_ahead 30 = .ok (.istore_n 2, 1) := by decide +kernel
theorem dX11_ahead_31 : decode cX11_ahead 31 = .ok (.iload_n 2, 1) := by decide +kernel
theorem dX11_ahead_32 : decode cX11_ahead 32 = .ok (.ifCond .eq 22, 3) := by decide +kernel
theorem dX11_ahead_35 : decode cX11_ahead 35 = .ok (.aload_n 0, 1) := by decide +kernel
theorem dX11_ahead_36 : decode cX11_ahead 36 = .ok (.sipush 2000, 3) := by decide +kernel
theorem dX11_ahead_39 : decode cX11_ahead 39 = .ok (.iload_n 1, 1) := by decide +kernel
theorem dX11_ahead_40 : decode cX11_ahead 40 = .ok (.ifCond .ne 8, 3) := by decide +kernel
theorem dX11_ahead_43 : decode cX11_ahead 43 = .ok (.bipush 33, 2) := by decide +kernel
theorem dX11_ahead_45 : decode cX11_ahead 45 = .ok (.goto 5, 3) := by decide +kernel
theorem dX11_ahead_48 : decode cX11_ahead 48 = .ok (.bipush 126, 2) := by decide +kernel
theorem dX11_ahead_50 : decode cX11_ahead 50 = .ok (.iadd, 1) := by decide +kernel
theorem dX11_ahead_51 : decode cX11_ahead 51 = .ok (.invokevirtual 206, 3) := by decide +kernel
theorem dX11_ahead_54 : decode cX11_ahead 54 = .ok (.iload_n 2, 1) := by decide +kernel
theorem dX11_ahead_55 : decode cX11_ahead 55 = .ok (.ireturn, 1) := by decide +kernel
theorem dX11_ranked_0 : decode cX11_ranked 0 = .ok (.iload_n 1, 1) := by decide +kernel
theorem dX11_ranked_1 : decode cX11_ranked 1 = .ok (.iconst 5, 1) := by decide +kernel
theorem dX11_ranked_2 : decode cX11_ranked 2 = .ok (.if_icmp .ne 8, 3) := by decide +kernel
theorem dX11_ranked_5 : decode cX11_ranked 5 = .ok (.aload_n 0, 1) := by decide +kernel
theorem dX11_ranked_6 : decode cX11_ranked 6 = .ok (.invokevirtual 230, 3) := by decide +kernel
theorem dX11_ranked_9 : decode cX11_ranked 9 = .ok (.ireturn, 1) := by decide +kernel
theorem dX11_ranked_10 : decode cX11_ranked 10 = .ok (.iload_n 1, 1) := by decide +kernel
theorem dX11_ranked_11 : decode cX11_ranked 11 = .ok (.ifCond .ne 8, 3) := by decide +kernel
theorem dX11_ranked_14 : decode cX11_ranked 14 = .ok (.ldc 233, 2) := by decide +kernel
theorem dX11_ranked_16 : decode cX11_ranked 16 = .ok (.goto 35, 3) := by decide +kernel
theorem dX11_ranked_19 : decode cX11_ranked 19 = .ok (.iload_n 1, 1) := by decide +kernel
theorem dX11_ranked_20 : decode cX11_ranked 20 = .ok (.iconst 1, 1) := by decide +kernel
theorem dX11_ranked_21 : decode cX11_ranked 21 = .ok (.if_icmp .ne 8, 3) := by decide +kernel
theorem dX11_ranked_24 : decode cX11_ranked 24 = .ok (.ldc 235, 2) := by decide +kernel
theorem dX11_ranked_26 : decode cX11_ranked 26 = .ok (.goto 25, 3) := by decide +kernel
theorem dX11_ranked_29 : decode cX11_ranked 29 = .ok (.iload_n 1, 1) := by decide +kernel
theorem dX11_ranked_30 : decode cX11_ranked 30 = .ok (.iconst 2, 1) := by decide +kernel
theorem dX11_ranked_31 : decode cX11_ranked 31 = .ok (.if_icmp .ne 8, 3) := by decide +kernel
theorem dX11_ranked_34 : decode cX11_ranked 34 = .ok (.ldc 237, 2) := by decide +kernel
theorem dX11_ranked_36 : decode cX11_ranked 36 = .ok (.goto 15, 3) := by decide +kernel
theorem dX11_ranked_39 : decode cX11_ranked 39 = .ok (.iload_n 1, 1) := by decide +kernel
theorem dX11_ranked_40 : decode cX11_ranked 40 = .ok (.iconst 3, 1) := by decide +kernel
theorem dX11_ranked_41 : decode cX11_ranked 41 = .ok (.if_icmp .ne 8, 3) := by decide +kernel
theorem dX11_ranked_44 : decode cX11_ranked 44 = .ok (.ldc 239, 2) := by decide +kernel
theorem dX11_ranked_46 : decode cX11_ranked 46 = .ok (.goto 5, 3) := by decide +kernel
theorem dX11_ranked_49 : decode cX11_ranked 49 = .ok (.ldc 241, 2) := by decide +kernel
theorem dX11_ranked_51 : decode cX11_ranked 51 = .ok (.astore_n 2, 1) := by decide +kernel
theorem dX11_ranked_52 : decode cX11_ranked 52 = .ok (.aload_n 0, 1) := by decide +kernel
theorem dX11_ranked_53 : decode cX11_ranked 53 = .ok (.iload_n 1, 1) := by decide +kernel
theorem dX11_ranked_54 : decode cX11_ranked 54 = .ok (.iconst 1, 1) := by decide +kernel
theorem dX11_ranked_55 : decode cX11_ranked 55 = .ok (.iadd, 1) := by decide +kernel
theorem dX11_ranked_56 : decode cX11_ranked 56 = .ok (.invokevirtual 220, 3) := by decide +kernel
theorem dX11_ranked_59 : decode cX11_ranked 59 = .ok (.istore_n 3, 1) := by decide +kernel
theorem dX11_ranked_60 : decode cX11_ranked 60 = .ok (.iconst 1, 1) := by decide +kernel
theorem dX11_ranked_61 : decode cX11_ranked 61 = .ok (.istore 4, 2) := by decide +kernel
theorem dX11_ranked_63 : decode cX11_ranked 63 = .ok (.iload_n 3, 1) := by decide +kernel
theorem dX11_ranked_64 : decode cX11_ranked 64 = .ok (.ifCond .eq 74, 3) := by decide +kernel
theorem dX11_ranked_67 : decode cX11_ranked 67 = .ok (.iload 4, 2) := by decide +kernel
theorem dX11_ranked_69 : decode cX11_ranked 69 = .ok (.ifCond .eq 69, 3) := by decide +kernel
theorem dX11_ranked_72 : decode cX11_ranked 72 = .ok (.aload_n 0, 1) := by decide +kernel
theorem dX11_ranked_73 : decode cX11_ranked 73 = .ok (.aload_n 2, 1) := by decide +kernel
theorem dX11_ranked_74 : decode cX11_ranked 74 = .ok (.invokevirtual 211, 3) := by decide +kernel
theorem dX11_ranked_77 : decode cX11_ranked 77 = .ok (.ifCond .lt 61, 3) := by decide +kernel
theorem dX11_ranked_80 : decode cX11_ranked 80 = .ok (.aload_n 0, 1) := by decide +kernel
theorem dX11_ranked_81 : decode cX11_ranked 81 = .ok (.getfield 173, 3) := by decide +kernel
theorem dX11_ranked_84 : decode cX11_ranked 84 = .ok (.aload_n 0, 1) := by decide +kernel
theorem dX11_ranked_85 : decode cX11_ranked 85 = .ok (.getfield 176, 3) := by decide +kernel
theorem dX11_ranked_88 : decode cX11_ranked 88 = .ok (.iaload, 1) := by decide +kernel
theorem dX11_ranked_89 : decode cX11_ranked 89 = .ok (.istore 5, 2) := by decide +kernel
theorem dX11_ranked_91 : decode cX11_ranked 91 = .ok (.aload_n 0, 1) := by decide +kernel
theorem dX11_ranked_92 : decode cX11_ranked 92 = .ok (.dup, 1) := by decide +kernel
theorem dX11_ranked_93 : decode cX11_ranked 93 = .ok (.getfield 176, 3) := by decide +kernel
theorem dX11_ranked_96 : decode cX11_ranked 96 = .ok (.iconst 1, 1) := by decide +kernel
theorem dX11_ranked_97 : decode cX11_ranked 97 = .ok (.iadd, 1) := by decide +kernel
theorem dX11_ranked_98 : decode cX11_ranked 98 = .ok (.putfield 176, 3) := by decide +kernel
theorem dX11_ranked_101 : decode cX11_ranked 101 = .ok (.aload_n 0, 1) := by decide +kernel
theorem dX11_ranked_102 : decode cX11_ranked 102 = .ok (.iload_n 1, 1) := by decide +kernel
theorem dX11_ranked_103 : decode cX11_ranked 103 = .ok (.iconst 1, 1) := by decide +kernel
theorem dX11_ranked_104 : decode cX11_ranked 104 = .ok (.iadd, 1) := by decide +kernel
theorem dX11_ranked_105 : decode cX11_ranked 105 = .ok (.invokevirtual 220, 3) := by decide +kernel
theorem dX11_ranked_108 : decode cX11_ranked 108 = .ok (.istore_n 3, 1) := by decide +kernel
theorem dX11_ranked_109 : decode cX11_ranked 109 = .ok (.iload_n 3, 1) := by decide +kernel
theorem dX11_ranked_110 : decode cX11_ranked 110 = .ok (.ifCond .eq 13, 3) := by decide +kernel
theorem dX11_ranked_113 : decode cX11_ranked 113 = .ok (.aload_n 0, 1) := by decide +kernel
theorem dX11_ranked_114 : decode cX11_ranked 114 = .ok (.sipush 2000, 3) := by decide +kernel
theorem dX11_ranked_117 : decode cX11_ranked 117 = .ok (.iload 5, 2) := by decide +kernel
theorem dX11_ranked_119 : decode cX11_ranked 119 = .ok (.iadd, 1) := by decide +kernel
theorem dX11_ranked_120 : decode cX11_ranked 120 = .ok (.invokevirtual 206, 3) := by decide +kernel
theorem dX11_ranked_123 : decode cX11_ranked 123 = .ok (.iload_n 1, 1) := by decide +kernel
theorem dX11_ranked_124 : decode cX11_ranked 124 = .ok (.iconst 2, 1) := by decide +kernel
theorem dX11_ranked_125 : decode cX11_ranked 125 = .ok (.if_icmp .eq 7, 3) := by decide +kernel
theorem dX11_ranked_128 : decode cX11_ranked 128 = .ok (.iconst 1, 1) := by decide +kernel
theorem dX11_ranked_129 : decode cX11_ranked 129 = .ok (.goto 4, 3) := by decide +kernel
theorem dX11_ranked_132 : decode cX11_ranked 132 = .ok (.iconst 0, 1) := by decide +kernel
theorem dX11_ranked_133 : decode cX11_ranked 133 = .ok (.istore 4, 2) := by decide +kernel
theorem dX11_ranked_135 : decode cX11_ranked 135 = .ok (.goto (-72), 3) := by decide +kernel
theorem dX11_ranked_138 : decode cX11_ranked 138 = .ok (.iload_n 3, 1) := by decide +kernel
theorem dX11_ranked_139 : decode cX11_ranked 139 = .ok (.ireturn, 1) := by decide +kernel
noncomputable def f_X11_thing_57 (fu : Nat) (qT : hM → Option (Int32 × hM)) (qA : hM → Option (Int32 × hM)) (qR : Int32 → hM → Option (Int32 × hM)) (x1 : Int32) (m : hM) : Option (Int32 × hM) :=
  hBd (f_X11_marks fu x1 m) fun _ m24 =>
some (1, m24)
set_option maxRecDepth 100000 in
set_option maxHeartbeats 4000000 in
theorem r_X11_thing_57 {G : hG} {X : hX} {dd : Nat} (C : Cx G X (dd + 1) cX11_thing 3 RX11 (some .boolean)) (K : Cr G X) (Z : Cz G X) (fu : Nat) (qT : hM → Option (Int32 × hM)) (qA : hM → Option (Int32 × hM)) (qR : Int32 → hM → Option (Int32 × hM)) (hd0 : 10 ≤ dd) (hqT : ∀ (m : hM), Mt2 vI G dd yX11_thing cX11_thing 3 (some .boolean) [hA G 96] m (qT m)) (hqA : ∀ (m : hM), Mt2 vI G dd yX11_ahead cX11_ahead 3 (some .boolean) [hA G 96] m (qA m)) (hqR : ∀ (x1 : Int32) (m : hM), Mt2 vI G dd yX11_ranked cX11_ranked 6 (some .boolean) [hA G 96, .int x1] m (qR x1 m)) (x1 : Int32) (m : hM) : Rf vI G X 57 [(0, hA G 96), (1, .int x1)] [] m (f_X11_thing_57 fu qT qA qR x1 m) := by
  unfold f_X11_thing_57
  refine rf_aload_n C (n := 58) (q := 0) dX11_thing_57 rfl rfl rfl ?_
  refine rf_iload_n C (n := 59) (q := 1) dX11_thing_58 rfl rfl rfl ?_
  refine rf_callVv C (n := 62) (c_X11_marks G fu _ _) mw_RX11_206 ly_96 rfl ⟨by omega, by decide⟩ rfl (Nat.le_of_ble_eq_true rfl) rfl dX11_thing_59 rfl (fun _ m24 => ?_)
  refine rf_iconst C (n := 63) (v := 1) dX11_thing_62 rfl (by decide) ?_
  exact rf_zret C K (by decide) dX11_thing_63
noncomputable def s_X11_thing_11 (fu : Nat) (qT : hM → Option (Int32 × hM)) (qA : hM → Option (Int32 × hM)) (qR : Int32 → hM → Option (Int32 × hM)) (ih : Int32 → Int32 → hM → Option (Int32 × hM)) (x1 : Int32) (x2 : Int32) (m : hM) : Option (Int32 × hM) :=
  if 3 ≤ x2 then (
f_X11_thing_57 fu qT qA qR x1 m) else (
hBd (f_X11_isDigit fu m) fun y25 m26 =>
if y25 = 0 then (
f_X11_thing_57 fu qT qA qR x1 m26) else (
if hIn (gI m26 96 30) 60 then (
hLet (((10 * x1) + (gI m26 119 (Int32.toNatClampNeg (gI m26 96 30)))) - 48) fun y29 =>
hLet (sI m26 96 30 ((gI m26 96 30) + 1)) fun m30 =>
hLet (x2 + 1) fun y31 =>
ih y29 y31 m30) else none))
noncomputable def f_X11_thing_11 (fu : Nat) (qT : hM → Option (Int32 × hM)) (qA : hM → Option (Int32 × hM)) (qR : Int32 → hM → Option (Int32 × hM)) (n : Nat) : Int32 → Int32 → hM → Option (Int32 × hM) :=
  Nat.rec (motive := fun _ => Int32 → Int32 → hM → Option (Int32 × hM)) (fun _ _ _ => none) (fun _ ih => s_X11_thing_11 fu qT qA qR ih) n
theorem f_X11_thing_11_s (fu : Nat) (qT : hM → Option (Int32 × hM)) (qA : hM → Option (Int32 × hM)) (qR : Int32 → hM → Option (Int32 × hM)) (n : Nat) (x1 : Int32) (x2 : Int32) (m : hM) : f_X11_thing_11 fu qT qA qR (n + 1) x1 x2 m = s_X11_thing_11 fu qT qA qR (f_X11_thing_11 fu qT qA qR n) x1 x2 m := rfl
set_option maxRecDepth 100000 in
set_option maxHeartbeats 4000000 in
theorem r_X11_thing_11 {G : hG} {X : hX} {dd : Nat} (C : Cx G X (dd + 1) cX11_thing 3 RX11 (some .boolean)) (K : Cr G X) (Z : Cz G X) (fu : Nat) (qT : hM → Option (Int32 × hM)) (qA : hM → Option (Int32 × hM)) (qR : Int32 → hM → Option (Int32 × hM)) (hd0 : 10 ≤ dd) (hqT : ∀ (m : hM), Mt2 vI G dd yX11_thing cX11_thing 3 (some .boolean) [hA G 96] m (qT m)) (hqA : ∀ (m : hM), Mt2 vI G dd yX11_ahead cX11_ahead 3 (some .boolean) [hA G 96] m (qA m)) (hqR : ∀ (x1 : Int32) (m : hM), Mt2 vI G dd yX11_ranked cX11_ranked 6 (some .boolean) [hA G 96, .int x1] m (qR x1 m)) (n : Nat) : ∀ (x1 : Int32) (x2 : Int32) (m : hM), Rf vI G X 11 [(0, hA G 96), (1, .int x1), (2, .int x2)] [] m (f_X11_thing_11 fu qT qA qR n x1 x2 m) := by
  induction n with
  | zero => intros; exact rf_none
  | succ n ih =>
    intro x1 x2 m
    show Rf vI G X 11 [(0, hA G 96), (1, .int x1), (2, .int x2)] [] m (s_X11_thing_11 fu qT qA qR (f_X11_thing_11 fu qT qA qR n) x1 x2 m)
    unfold s_X11_thing_11
    refine rf_iload_n C (n := 12) (q := 2) dX11_thing_11 rfl rfl rfl ?_
    refine rf_iconst C (n := 13) (v := 3) dX11_thing_12 rfl (by decide) ?_
    refine rf_icmp_ge C (tgt := 57) (n := 16) dX11_thing_13 (by decide) rfl (fun h23 => ?_) (fun h23 => ?_)
    · exact rf_lv _ [0, 1] rfl (r_X11_thing_57 C K Z fu qT qA qR hd0 hqT hqA hqR _ _)
    · refine rf_aload_n C (n := 17) (q := 0) dX11_thing_16 rfl rfl rfl ?_
      refine rf_callVi C (n := 20) (c_X11_isDigit G fu _) mw_RX11_202 ly_96 rfl ⟨by omega, by decide⟩ rfl (Nat.le_of_ble_eq_true rfl) rfl dX11_thing_17 rfl (fun y25 m26 => ?_)
      refine rf_if_eq C (tgt := 57) (n := 23) dX11_thing_20 (by decide) rfl (fun h27 => ?_) (fun h27 => ?_)
      · exact rf_lv _ [0, 1] rfl (r_X11_thing_57 C K Z fu qT qA qR hd0 hqT hqA hqR _ _)
      · refine rf_bipush C (n := 25) (v := 10) dX11_thing_23 rfl (by decide) ?_
        refine rf_iload_n C (n := 26) (q := 1) dX11_thing_25 rfl rfl rfl ?_
        refine rf_imul C (n := 27) dX11_thing_26 rfl ?_
        refine rf_aload_n C (n := 28) (q := 0) dX11_thing_27 rfl rfl rfl ?_
        refine rf_getS C (n := 31) fl_RX11_173 ly_96 rfl dX11_thing_28 rfl ?_
        refine rf_aload_n C (n := 32) (q := 0) dX11_thing_31 rfl rfl rfl ?_
        refine rf_getI C (n := 35) fl_RX11_176 ly_96 rfl dX11_thing_32 rfl ?_
        refine rf_guard (fun h28 => ?_)
        refine rf_iald C (n := 36) ly_119 h28 rfl dX11_thing_35 rfl ?_
        refine rf_iadd C (n := 37) dX11_thing_36 rfl ?_
        refine rf_bipush C (n := 39) (v := 48) dX11_thing_37 rfl (by decide) ?_
        refine rf_isub C (n := 40) dX11_thing_39 rfl ?_
        refine rf_letI (fun y29 => ?_)
        refine rf_istore_n C (n := 41) [(1, .int y29), (0, hA G 96), (2, .int x2)] dX11_thing_40 rfl rfl (by decide) rfl ?_
        refine rf_aload_n C (n := 42) (q := 1) dX11_thing_41 rfl rfl rfl ?_
        refine rf_dup C (n := 43) dX11_thing_42 rfl rfl ?_
        refine rf_getI C (n := 46) fl_RX11_176 ly_96 rfl dX11_thing_43 rfl ?_
        refine rf_iconst C (n := 47) (v := 1) dX11_thing_46 rfl (by decide) ?_
        refine rf_iadd C (n := 48) dX11_thing_47 rfl ?_
        refine rf_putI C (n := 51) pl_RX11_176 ly_96 rfl ⟨rfl, rfl⟩ dX11_thing_48 rfl ?_
        refine rf_letM (fun m30 => ?_)
        refine rf_iinc2 C (n := 54) (q := 2) (fun y31 => [(2, .int y31), (1, .int y29), (0, hA G 96)]) dX11_thing_51 rfl rfl (by decide) (by decide) (fun _ => rfl) (fun y31 => ?_)
        refine rf_goto C (n := 11) dX11_thing_54 (by decide) ?_
        exact rf_lv _ [2, 1, 0] rfl (ih _ _ _)
noncomputable def b_X11_thing (fu : Nat) (qT : hM → Option (Int32 × hM)) (qA : hM → Option (Int32 × hM)) (qR : Int32 → hM → Option (Int32 × hM)) (m : hM) : Option (Int32 × hM) :=
  hBd (f_X11_isDigit fu m) fun y1 m2 =>
if y1 = 0 then (
hBd (f_X11_among fu 0 m2) fun y4 m5 =>
if y4 < 0 then (
hBd (f_X11_among fu 1 m5) fun y7 m8 =>
if y7 < 0 then (
some (0, m8)) else (
if ¬ (gI m8 96 32) = 5 then (
hLet (sI m8 96 30 ((gI m8 96 30) + 1)) fun m11 =>
hLet (sI m11 96 32 ((gI m11 96 32) + 1)) fun m12 =>
hBd (qR 0 m12) fun y13 m14 =>
if y13 = 0 then (
some (0, m14)) else (
hBd (f_X11_among fu 2 m14) fun y16 m17 =>
if 0 ≤ y16 then (
hLet (sI m17 96 30 ((gI m17 96 30) + 1)) fun m19 =>
hLet (sI m19 96 32 ((gI m19 96 32) - 1)) fun m20 =>
some (1, m20)) else (
some (0, m17)))) else (
some (0, m8)))) else (
hBd (f_X11_marks fu (1000 + y4) m5) fun _ m21 =>
hLet (sI m21 96 30 ((gI m21 96 30) + 1)) fun m22 =>
some (1, m22))) else (
f_X11_thing_11 fu qT qA qR fu 0 0 m2)
set_option maxRecDepth 100000 in
set_option maxHeartbeats 4000000 in
theorem cb_X11_thing (G : hG) (fu : Nat) (qT : hM → Option (Int32 × hM)) (qA : hM → Option (Int32 × hM)) (qR : Int32 → hM → Option (Int32 × hM)) (dd : Nat) (hd0 : 10 ≤ dd) (hqT : ∀ (m : hM), Mt2 vI G dd yX11_thing cX11_thing 3 (some .boolean) [hA G 96] m (qT m)) (hqA : ∀ (m : hM), Mt2 vI G dd yX11_ahead cX11_ahead 3 (some .boolean) [hA G 96] m (qA m)) (hqR : ∀ (x1 : Int32) (m : hM), Mt2 vI G dd yX11_ranked cX11_ranked 6 (some .boolean) [hA G 96, .int x1] m (qR x1 m)) (m : hM) : Mt2 vI G (dd + 1) yX11_thing cX11_thing 3 (some .boolean) [hA G 96] m (b_X11_thing fu qT qA qR m) := by
  refine mt2_of (by decide +kernel) (Nat.le_of_ble_eq_true rfl) (fun X C K Z => ?_)
  have C : Cx G X (dd + 1) cX11_thing 3 RX11 (some .boolean) := C
  show Rf vI G X 0 [(0, hA G 96)] [] m _
  unfold b_X11_thing
  refine rf_aload_n C (n := 1) (q := 0) dX11_thing_0 rfl rfl rfl ?_
  refine rf_callVi C (n := 4) (c_X11_isDigit G fu _) mw_RX11_202 ly_96 rfl ⟨by omega, by decide⟩ rfl (Nat.le_of_ble_eq_true rfl) rfl dX11_thing_1 rfl (fun y1 m2 => ?_)
  refine rf_if_eq C (tgt := 64) (n := 7) dX11_thing_4 (by decide) rfl (fun h3 => ?_) (fun h3 => ?_)
  · refine rf_aload_n C (n := 65) (q := 0) dX11_thing_64 rfl rfl rfl ?_
    refine rz_ldcS C (n := 67) Z (i := 0) (tx := "klowrcsbqpfn") (by decide +kernel) dX11_thing_65 rfl ?_
    refine rz_callVi C (n := 70) Z (c_X11_among G fu _ _) mw_RX11_211 ly_96 rfl ⟨by omega, by decide⟩ rfl (Nat.le_of_ble_eq_true rfl) rfl dX11_thing_67 rfl (fun y4 m5 => ?_)
    refine rf_istore_n C (n := 71) [(1, .int y4), (0, hA G 96)] dX11_thing_70 rfl rfl (by decide) rfl ?_
    refine rf_iload_n C (n := 72) (q := 0) dX11_thing_71 rfl rfl rfl ?_
    refine rf_if_lt C (tgt := 96) (n := 75) dX11_thing_72 (by decide) rfl (fun h6 => ?_) (fun h6 => ?_)
    · refine rf_aload_n C (n := 97) (q := 1) dX11_thing_96 rfl rfl rfl ?_
      refine rz_ldcS C (n := 99) Z (i := 1) (tx := "(") (by decide +kernel) dX11_thing_97 rfl ?_
      refine rz_callVi C (n := 102) Z (c_X11_among G fu _ _) mw_RX11_211 ly_96 rfl ⟨by omega, by decide⟩ rfl (Nat.le_of_ble_eq_true rfl) rfl dX11_thing_99 rfl (fun y7 m8 => ?_)
      refine rf_if_lt C (tgt := 113) (n := 105) dX11_thing_102 (by decide) rfl (fun h9 => ?_) (fun h9 => ?_)
      · refine rf_iconst C (n := 114) (v := 0) dX11_thing_113 rfl (by decide) ?_
        exact rf_zret C K (by decide) dX11_thing_114
      · refine rf_aload_n C (n := 106) (q := 1) dX11_thing_105 rfl rfl rfl ?_
        refine rf_getI C (n := 109) fl_RX11_217 ly_96 rfl dX11_thing_106 rfl ?_
        refine rf_iconst C (n := 110) (v := 5) dX11_thing_109 rfl (by decide) ?_
        refine rf_icmp_ne C (tgt := 115) (n := 113) dX11_thing_110 (by decide) rfl (fun h10 => ?_) (fun h10 => ?_)
        · refine rf_aload_n C (n := 116) (q := 1) dX11_thing_115 rfl rfl rfl ?_
          refine rf_dup C (n := 117) dX11_thing_116 rfl rfl ?_
          refine rf_getI C (n := 120) fl_RX11_176 ly_96 rfl dX11_thing_117 rfl ?_
          refine rf_iconst C (n := 121) (v := 1) dX11_thing_120 rfl (by decide) ?_
          refine rf_iadd C (n := 122) dX11_thing_121 rfl ?_
          refine rf_putI C (n := 125) pl_RX11_176 ly_96 rfl ⟨rfl, rfl⟩ dX11_thing_122 rfl ?_
          refine rf_letM (fun m11 => ?_)
          refine rf_aload_n C (n := 126) (q := 1) dX11_thing_125 rfl rfl rfl ?_
          refine rf_dup C (n := 127) dX11_thing_126 rfl rfl ?_
          refine rf_getI C (n := 130) fl_RX11_217 ly_96 rfl dX11_thing_127 rfl ?_
          refine rf_iconst C (n := 131) (v := 1) dX11_thing_130 rfl (by decide) ?_
          refine rf_iadd C (n := 132) dX11_thing_131 rfl ?_
          refine rf_putI C (n := 135) pl_RX11_217 ly_96 rfl ⟨rfl, rfl⟩ dX11_thing_132 rfl ?_
          refine rf_letM (fun m12 => ?_)
          refine rf_aload_n C (n := 136) (q := 1) dX11_thing_135 rfl rfl rfl ?_
          refine rf_iconst C (n := 137) (v := 0) dX11_thing_136 rfl (by decide) ?_
          refine rz_callVi C (n := 140) Z (hqR _ _) mw_RX11_220 ly_96 rfl ⟨Nat.le_refl _, by decide⟩ rfl (Nat.le_of_ble_eq_true rfl) rfl dX11_thing_137 rfl (fun y13 m14 => ?_)
          refine rf_if_eq C (tgt := 152) (n := 143) dX11_thing_140 (by decide) rfl (fun h15 => ?_) (fun h15 => ?_)
          · refine rf_iconst C (n := 153) (v := 0) dX11_thing_152 rfl (by decide) ?_
            exact rf_zret C K (by decide) dX11_thing_153
          · refine rf_aload_n C (n := 144) (q := 1) dX11_thing_143 rfl rfl rfl ?_
            refine rz_ldcS C (n := 146) Z (i := 2) (tx := ")") (by decide +kernel) dX11_thing_144 rfl ?_
            refine rz_callVi C (n := 149) Z (c_X11_among G fu _ _) mw_RX11_211 ly_96 rfl ⟨by omega, by decide⟩ rfl (Nat.le_of_ble_eq_true rfl) rfl dX11_thing_146 rfl (fun y16 m17 => ?_)
            refine rf_if_ge C (tgt := 154) (n := 152) dX11_thing_149 (by decide) rfl (fun h18 => ?_) (fun h18 => ?_)
            · refine rf_aload_n C (n := 155) (q := 1) dX11_thing_154 rfl rfl rfl ?_
              refine rf_dup C (n := 156) dX11_thing_155 rfl rfl ?_
              refine rf_getI C (n := 159) fl_RX11_176 ly_96 rfl dX11_thing_156 rfl ?_
              refine rf_iconst C (n := 160) (v := 1) dX11_thing_159 rfl (by decide) ?_
              refine rf_iadd C (n := 161) dX11_thing_160 rfl ?_
              refine rf_putI C (n := 164) pl_RX11_176 ly_96 rfl ⟨rfl, rfl⟩ dX11_thing_161 rfl ?_
              refine rf_letM (fun m19 => ?_)
              refine rf_aload_n C (n := 165) (q := 1) dX11_thing_164 rfl rfl rfl ?_
              refine rf_dup C (n := 166) dX11_thing_165 rfl rfl ?_
              refine rf_getI C (n := 169) fl_RX11_217 ly_96 rfl dX11_thing_166 rfl ?_
              refine rf_iconst C (n := 170) (v := 1) dX11_thing_169 rfl (by decide) ?_
              refine rf_isub C (n := 171) dX11_thing_170 rfl ?_
              refine rf_putI C (n := 174) pl_RX11_217 ly_96 rfl ⟨rfl, rfl⟩ dX11_thing_171 rfl ?_
              refine rf_letM (fun m20 => ?_)
              refine rf_iconst C (n := 175) (v := 1) dX11_thing_174 rfl (by decide) ?_
              exact rf_zret C K (by decide) dX11_thing_175
            · refine rf_iconst C (n := 153) (v := 0) dX11_thing_152 rfl (by decide) ?_
              exact rf_zret C K (by decide) dX11_thing_153
        · refine rf_iconst C (n := 114) (v := 0) dX11_thing_113 rfl (by decide) ?_
          exact rf_zret C K (by decide) dX11_thing_114
    · refine rf_aload_n C (n := 76) (q := 1) dX11_thing_75 rfl rfl rfl ?_
      refine rf_sipush C (n := 79) (v := 1000) dX11_thing_76 rfl (by decide) ?_
      refine rf_iload_n C (n := 80) (q := 0) dX11_thing_79 rfl rfl rfl ?_
      refine rf_iadd C (n := 81) dX11_thing_80 rfl ?_
      refine rf_callVv C (n := 84) (c_X11_marks G fu _ _) mw_RX11_206 ly_96 rfl ⟨by omega, by decide⟩ rfl (Nat.le_of_ble_eq_true rfl) rfl dX11_thing_81 rfl (fun _ m21 => ?_)
      refine rf_aload_n C (n := 85) (q := 1) dX11_thing_84 rfl rfl rfl ?_
      refine rf_dup C (n := 86) dX11_thing_85 rfl rfl ?_
      refine rf_getI C (n := 89) fl_RX11_176 ly_96 rfl dX11_thing_86 rfl ?_
      refine rf_iconst C (n := 90) (v := 1) dX11_thing_89 rfl (by decide) ?_
      refine rf_iadd C (n := 91) dX11_thing_90 rfl ?_
      refine rf_putI C (n := 94) pl_RX11_176 ly_96 rfl ⟨rfl, rfl⟩ dX11_thing_91 rfl ?_
      refine rf_letM (fun m22 => ?_)
      refine rf_iconst C (n := 95) (v := 1) dX11_thing_94 rfl (by decide) ?_
      exact rf_zret C K (by decide) dX11_thing_95
  · refine rf_iconst C (n := 8) (v := 0) dX11_thing_7 rfl (by decide) ?_
    refine rf_istore_n C (n := 9) [(1, .int 0), (0, hA G 96)] dX11_thing_8 rfl rfl (by decide) rfl ?_
    refine rf_iconst C (n := 10) (v := 0) dX11_thing_9 rfl (by decide) ?_
    refine rf_istore_n C (n := 11) [(2, .int 0), (1, .int 0), (0, hA G 96)] dX11_thing_10 rfl rfl (by decide) rfl ?_
    exact rf_lv _ [2, 1, 0] rfl (r_X11_thing_11 C K Z fu qT qA qR hd0 hqT hqA hqR fu _ _ _)
noncomputable def f_X11_ahead_50 (fu : Nat) (qT : hM → Option (Int32 × hM)) (qA : hM → Option (Int32 × hM)) (qR : Int32 → hM → Option (Int32 × hM)) (x2 : Int32) (s1 : Int32) (s2 : Int32) (m : hM) : Option (Int32 × hM) :=
  hBd (f_X11_marks fu (s1 + s2) m) fun _ m10 =>
if x2 = 0 ∨ x2 = 1 then (
some (x2, m10)) else none
set_option maxRecDepth 100000 in
set_option maxHeartbeats 4000000 in
theorem r_X11_ahead_50 {G : hG} {X : hX} {dd : Nat} (C : Cx G X (dd + 1) cX11_ahead 3 RX11 (some .boolean)) (K : Cr G X) (Z : Cz G X) (fu : Nat) (qT : hM → Option (Int32 × hM)) (qA : hM → Option (Int32 × hM)) (qR : Int32 → hM → Option (Int32 × hM)) (hd0 : 10 ≤ dd) (hqT : ∀ (m : hM), Mt2 vI G dd yX11_thing cX11_thing 3 (some .boolean) [hA G 96] m (qT m)) (hqA : ∀ (m : hM), Mt2 vI G dd yX11_ahead cX11_ahead 3 (some .boolean) [hA G 96] m (qA m)) (hqR : ∀ (x1 : Int32) (m : hM), Mt2 vI G dd yX11_ranked cX11_ranked 6 (some .boolean) [hA G 96, .int x1] m (qR x1 m)) (x2 : Int32) (s1 : Int32) (s2 : Int32) (m : hM) : Rf vI G X 50 [(2, .int x2)] [.int s2, .int s1, hA G 96] m (f_X11_ahead_50 fu qT qA qR x2 s1 s2 m) := by
  unfold f_X11_ahead_50
  refine rf_iadd C (n := 51) dX11_ahead_50 rfl ?_
  refine rf_callVv C (n := 54) (c_X11_marks G fu _ _) mw_RX11_206 ly_96 rfl ⟨by omega, by decide⟩ rfl (Nat.le_of_ble_eq_true rfl) rfl dX11_ahead_51 rfl (fun _ m10 => ?_)
  refine rf_iload_n C (n := 55) (q := 0) dX11_ahead_54 rfl rfl rfl ?_
  refine rf_guard (fun h11 => ?_)
  exact rf_zret C K (hz_bool h11).1 dX11_ahead_55
noncomputable def b_X11_ahead (fu : Nat) (qT : hM → Option (Int32 × hM)) (qA : hM → Option (Int32 × hM)) (qR : Int32 → hM → Option (Int32 × hM)) (m : hM) : Option (Int32 × hM) :=
  hBd (f_X11_among fu 3 m) fun y1 m2 =>
if 0 ≤ y1 then (
hLet (sI m2 96 30 ((gI m2 96 30) + 1)) fun m4 =>
hBd (qA m4) fun y5 m6 =>
if y5 = 0 then (
if y5 = 0 ∨ y5 = 1 then (
some (y5, m6)) else none) else (
if ¬ y1 = 0 then (
f_X11_ahead_50 fu qT qA qR y5 2000 126 m6) else (
f_X11_ahead_50 fu qT qA qR y5 2000 33 m6))) else (
hBd (qT m2) fun y12 m13 =>
if y12 = 0 ∨ y12 = 1 then (
some (y12, m13)) else none)
set_option maxRecDepth 100000 in
set_option maxHeartbeats 4000000 in
theorem cb_X11_ahead (G : hG) (fu : Nat) (qT : hM → Option (Int32 × hM)) (qA : hM → Option (Int32 × hM)) (qR : Int32 → hM → Option (Int32 × hM)) (dd : Nat) (hd0 : 10 ≤ dd) (hqT : ∀ (m : hM), Mt2 vI G dd yX11_thing cX11_thing 3 (some .boolean) [hA G 96] m (qT m)) (hqA : ∀ (m : hM), Mt2 vI G dd yX11_ahead cX11_ahead 3 (some .boolean) [hA G 96] m (qA m)) (hqR : ∀ (x1 : Int32) (m : hM), Mt2 vI G dd yX11_ranked cX11_ranked 6 (some .boolean) [hA G 96, .int x1] m (qR x1 m)) (m : hM) : Mt2 vI G (dd + 1) yX11_ahead cX11_ahead 3 (some .boolean) [hA G 96] m (b_X11_ahead fu qT qA qR m) := by
  refine mt2_of (by decide +kernel) (Nat.le_of_ble_eq_true rfl) (fun X C K Z => ?_)
  have C : Cx G X (dd + 1) cX11_ahead 3 RX11 (some .boolean) := C
  show Rf vI G X 0 [(0, hA G 96)] [] m _
  unfold b_X11_ahead
  refine rf_aload_n C (n := 1) (q := 0) dX11_ahead_0 rfl rfl rfl ?_
  refine rz_ldcS C (n := 3) Z (i := 3) (tx := "!-") (by decide +kernel) dX11_ahead_1 rfl ?_
  refine rz_callVi C (n := 6) Z (c_X11_among G fu _ _) mw_RX11_211 ly_96 rfl ⟨by omega, by decide⟩ rfl (Nat.le_of_ble_eq_true rfl) rfl dX11_ahead_3 rfl (fun y1 m2 => ?_)
  refine rf_istore_n C (n := 7) [(1, .int y1), (0, hA G 96)] dX11_ahead_6 rfl rfl (by decide) rfl ?_
  refine rf_iload_n C (n := 8) (q := 0) dX11_ahead_7 rfl rfl rfl ?_
  refine rf_if_ge C (tgt := 16) (n := 11) dX11_ahead_8 (by decide) rfl (fun h3 => ?_) (fun h3 => ?_)
  · refine rf_aload_n C (n := 17) (q := 1) dX11_ahead_16 rfl rfl rfl ?_
    refine rf_dup C (n := 18) dX11_ahead_17 rfl rfl ?_
    refine rf_getI C (n := 21) fl_RX11_176 ly_96 rfl dX11_ahead_18 rfl ?_
    refine rf_iconst C (n := 22) (v := 1) dX11_ahead_21 rfl (by decide) ?_
    refine rf_iadd C (n := 23) dX11_ahead_22 rfl ?_
    refine rf_putI C (n := 26) pl_RX11_176 ly_96 rfl ⟨rfl, rfl⟩ dX11_ahead_23 rfl ?_
    refine rf_letM (fun m4 => ?_)
    refine rf_aload_n C (n := 27) (q := 1) dX11_ahead_26 rfl rfl rfl ?_
    refine rz_callVi C (n := 30) Z (hqA _) mw_RX11_230 ly_96 rfl ⟨Nat.le_refl _, by decide⟩ rfl (Nat.le_of_ble_eq_true rfl) rfl dX11_ahead_27 rfl (fun y5 m6 => ?_)
    refine rf_istore_n C (n := 31) [(2, .int y5), (1, .int y1), (0, hA G 96)] dX11_ahead_30 rfl rfl (by decide) rfl ?_
    refine rf_iload_n C (n := 32) (q := 0) dX11_ahead_31 rfl rfl rfl ?_
    refine rf_if_eq C (tgt := 54) (n := 35) dX11_ahead_32 (by decide) rfl (fun h7 => ?_) (fun h7 => ?_)
    · refine rf_iload_n C (n := 55) (q := 0) dX11_ahead_54 rfl rfl rfl ?_
      refine rf_guard (fun h8 => ?_)
      exact rf_zret C K (hz_bool h8).1 dX11_ahead_55
    · refine rf_aload_n C (n := 36) (q := 2) dX11_ahead_35 rfl rfl rfl ?_
      refine rf_sipush C (n := 39) (v := 2000) dX11_ahead_36 rfl (by decide) ?_
      refine rf_iload_n C (n := 40) (q := 1) dX11_ahead_39 rfl rfl rfl ?_
      refine rf_if_ne C (tgt := 48) (n := 43) dX11_ahead_40 (by decide) rfl (fun h9 => ?_) (fun h9 => ?_)
      · refine rf_bipush C (n := 50) (v := 126) dX11_ahead_48 rfl (by decide) ?_
        exact rf_lv _ [0] rfl (r_X11_ahead_50 C K Z fu qT qA qR hd0 hqT hqA hqR _ _ _ _)
      · refine rf_bipush C (n := 45) (v := 33) dX11_ahead_43 rfl (by decide) ?_
        refine rf_goto C (n := 50) dX11_ahead_45 (by decide) ?_
        exact rf_lv _ [0] rfl (r_X11_ahead_50 C K Z fu qT qA qR hd0 hqT hqA hqR _ _ _ _)
  · refine rf_aload_n C (n := 12) (q := 1) dX11_ahead_11 rfl rfl rfl ?_
    refine rz_callVi C (n := 15) Z (hqT _) mw_RX11_227 ly_96 rfl ⟨Nat.le_refl _, by decide⟩ rfl (Nat.le_of_ble_eq_true rfl) rfl dX11_ahead_12 rfl (fun y12 m13 => ?_)
    refine rf_guard (fun h14 => ?_)
    exact rf_zret C K (hz_bool h14).1 dX11_ahead_15
noncomputable def f_X11_ranked_133 (fu : Nat) (qT : hM → Option (Int32 × hM)) (qA : hM → Option (Int32 × hM)) (qR : Int32 → hM → Option (Int32 × hM)) (k63 : Int32 → Nat → Int32 → Int32 → hM → Option (Int32 × hM)) (x1 : Int32) (a2 : Nat) (x3 : Int32) (s0 : Int32) (m : hM) : Option (Int32 × hM) :=
  k63 x1 a2 x3 s0 m
set_option maxRecDepth 100000 in
set_option maxHeartbeats 4000000 in
theorem r_X11_ranked_133 {G : hG} {X : hX} {dd : Nat} (C : Cx G X (dd + 1) cX11_ranked 6 RX11 (some .boolean)) (K : Cr G X) (Z : Cz G X) (fu : Nat) (qT : hM → Option (Int32 × hM)) (qA : hM → Option (Int32 × hM)) (qR : Int32 → hM → Option (Int32 × hM)) (hd0 : 10 ≤ dd) (hqT : ∀ (m : hM), Mt2 vI G dd yX11_thing cX11_thing 3 (some .boolean) [hA G 96] m (qT m)) (hqA : ∀ (m : hM), Mt2 vI G dd yX11_ahead cX11_ahead 3 (some .boolean) [hA G 96] m (qA m)) (hqR : ∀ (x1 : Int32) (m : hM), Mt2 vI G dd yX11_ranked cX11_ranked 6 (some .boolean) [hA G 96, .int x1] m (qR x1 m)) (k63 : Int32 → Nat → Int32 → Int32 → hM → Option (Int32 × hM)) (hk63 : ∀ (x1 : Int32) (a2 : Nat) (ha2 : a2 < 9) (x3 : Int32) (x4 : Int32) (m : hM), Rf vI G X 63 [(0, hA G 96), (1, .int x1), (2, zK G a2), (3, .int x3), (4, .int x4)] [] m (k63 x1 a2 x3 x4 m)) (x1 : Int32) (a2 : Nat) (ha2 : a2 < 9) (x3 : Int32) (s0 : Int32) (m : hM) : Rf vI G X 133 [(0, hA G 96), (1, .int x1), (2, zK G a2), (3, .int x3)] [.int s0] m (f_X11_ranked_133 fu qT qA qR k63 x1 a2 x3 s0 m) := by
  unfold f_X11_ranked_133
  refine rf_istore C (n := 135) [(4, .int s0), (0, hA G 96), (1, .int x1), (2, zK G a2), (3, .int x3)] dX11_ranked_133 rfl (by decide) rfl ?_
  refine rf_goto C (n := 63) dX11_ranked_135 (by decide) ?_
  exact rf_lv _ [1, 2, 3, 4, 0] rfl (hk63 _ _ ha2 _ _ _)
noncomputable def f_X11_ranked_123 (fu : Nat) (qT : hM → Option (Int32 × hM)) (qA : hM → Option (Int32 × hM)) (qR : Int32 → hM → Option (Int32 × hM)) (k63 : Int32 → Nat → Int32 → Int32 → hM → Option (Int32 × hM)) (x1 : Int32) (a2 : Nat) (x3 : Int32) (m : hM) : Option (Int32 × hM) :=
  if x1 = 2 then (
f_X11_ranked_133 fu qT qA qR k63 x1 a2 x3 0 m) else (
f_X11_ranked_133 fu qT qA qR k63 x1 a2 x3 1 m)
set_option maxRecDepth 100000 in
set_option maxHeartbeats 4000000 in
theorem r_X11_ranked_123 {G : hG} {X : hX} {dd : Nat} (C : Cx G X (dd + 1) cX11_ranked 6 RX11 (some .boolean)) (K : Cr G X) (Z : Cz G X) (fu : Nat) (qT : hM → Option (Int32 × hM)) (qA : hM → Option (Int32 × hM)) (qR : Int32 → hM → Option (Int32 × hM)) (hd0 : 10 ≤ dd) (hqT : ∀ (m : hM), Mt2 vI G dd yX11_thing cX11_thing 3 (some .boolean) [hA G 96] m (qT m)) (hqA : ∀ (m : hM), Mt2 vI G dd yX11_ahead cX11_ahead 3 (some .boolean) [hA G 96] m (qA m)) (hqR : ∀ (x1 : Int32) (m : hM), Mt2 vI G dd yX11_ranked cX11_ranked 6 (some .boolean) [hA G 96, .int x1] m (qR x1 m)) (k63 : Int32 → Nat → Int32 → Int32 → hM → Option (Int32 × hM)) (hk63 : ∀ (x1 : Int32) (a2 : Nat) (ha2 : a2 < 9) (x3 : Int32) (x4 : Int32) (m : hM), Rf vI G X 63 [(0, hA G 96), (1, .int x1), (2, zK G a2), (3, .int x3), (4, .int x4)] [] m (k63 x1 a2 x3 x4 m)) (x1 : Int32) (a2 : Nat) (ha2 : a2 < 9) (x3 : Int32) (m : hM) : Rf vI G X 123 [(0, hA G 96), (1, .int x1), (2, zK G a2), (3, .int x3)] [] m (f_X11_ranked_123 fu qT qA qR k63 x1 a2 x3 m) := by
  unfold f_X11_ranked_123
  refine rf_iload_n C (n := 124) (q := 1) dX11_ranked_123 rfl rfl rfl ?_
  refine rf_iconst C (n := 125) (v := 2) dX11_ranked_124 rfl (by decide) ?_
  refine rf_icmp_eq C (tgt := 132) (n := 128) dX11_ranked_125 (by decide) rfl (fun h22 => ?_) (fun h22 => ?_)
  · refine rf_iconst C (n := 133) (v := 0) dX11_ranked_132 rfl (by decide) ?_
    exact rf_lv _ [0, 1, 2, 3] rfl (r_X11_ranked_133 C K Z fu qT qA qR hd0 hqT hqA hqR _ hk63 _ _ ha2 _ _ _)
  · refine rf_iconst C (n := 129) (v := 1) dX11_ranked_128 rfl (by decide) ?_
    refine rf_goto C (n := 133) dX11_ranked_129 (by decide) ?_
    exact rf_lv _ [0, 1, 2, 3] rfl (r_X11_ranked_133 C K Z fu qT qA qR hd0 hqT hqA hqR _ hk63 _ _ ha2 _ _ _)
noncomputable def s_X11_ranked_63 (fu : Nat) (qT : hM → Option (Int32 × hM)) (qA : hM → Option (Int32 × hM)) (qR : Int32 → hM → Option (Int32 × hM)) (ih : Int32 → Nat → Int32 → Int32 → hM → Option (Int32 × hM)) (x1 : Int32) (a2 : Nat) (x3 : Int32) (x4 : Int32) (m : hM) : Option (Int32 × hM) :=
  if x3 = 0 then (
if x3 = 0 ∨ x3 = 1 then (
some (x3, m)) else none) else (
if x4 = 0 then (
if x3 = 0 ∨ x3 = 1 then (
some (x3, m)) else none) else (
hBd (f_X11_among fu a2 m) fun y12 m13 =>
if y12 < 0 then (
if x3 = 0 ∨ x3 = 1 then (
some (x3, m13)) else none) else (
if hIn (gI m13 96 30) 60 then (
hLet (gI m13 119 (Int32.toNatClampNeg (gI m13 96 30))) fun y17 =>
hLet (sI m13 96 30 ((gI m13 96 30) + 1)) fun m18 =>
hBd (qR (x1 + 1) m18) fun y19 m20 =>
if y19 = 0 then (
f_X11_ranked_123 fu qT qA qR ih x1 a2 y19 m20) else (
hBd (f_X11_marks fu (2000 + y17) m20) fun _ m23 =>
f_X11_ranked_123 fu qT qA qR ih x1 a2 y19 m23)) else none)))
noncomputable def f_X11_ranked_63 (fu : Nat) (qT : hM → Option (Int32 × hM)) (qA : hM → Option (Int32 × hM)) (qR : Int32 → hM → Option (Int32 × hM)) (n : Nat) : Int32 → Nat → Int32 → Int32 → hM → Option (Int32 × hM) :=
  Nat.rec (motive := fun _ => Int32 → Nat → Int32 → Int32 → hM → Option (Int32 × hM)) (fun _ _ _ _ _ => none) (fun _ ih => s_X11_ranked_63 fu qT qA qR ih) n
theorem f_X11_ranked_63_s (fu : Nat) (qT : hM → Option (Int32 × hM)) (qA : hM → Option (Int32 × hM)) (qR : Int32 → hM → Option (Int32 × hM)) (n : Nat) (x1 : Int32) (a2 : Nat) (x3 : Int32) (x4 : Int32) (m : hM) : f_X11_ranked_63 fu qT qA qR (n + 1) x1 a2 x3 x4 m = s_X11_ranked_63 fu qT qA qR (f_X11_ranked_63 fu qT qA qR n) x1 a2 x3 x4 m := rfl
set_option maxRecDepth 100000 in
set_option maxHeartbeats 4000000 in
theorem r_X11_ranked_63 {G : hG} {X : hX} {dd : Nat} (C : Cx G X (dd + 1) cX11_ranked 6 RX11 (some .boolean)) (K : Cr G X) (Z : Cz G X) (fu : Nat) (qT : hM → Option (Int32 × hM)) (qA : hM → Option (Int32 × hM)) (qR : Int32 → hM → Option (Int32 × hM)) (hd0 : 10 ≤ dd) (hqT : ∀ (m : hM), Mt2 vI G dd yX11_thing cX11_thing 3 (some .boolean) [hA G 96] m (qT m)) (hqA : ∀ (m : hM), Mt2 vI G dd yX11_ahead cX11_ahead 3 (some .boolean) [hA G 96] m (qA m)) (hqR : ∀ (x1 : Int32) (m : hM), Mt2 vI G dd yX11_ranked cX11_ranked 6 (some .boolean) [hA G 96, .int x1] m (qR x1 m)) (n : Nat) : ∀ (x1 : Int32) (a2 : Nat) (ha2 : a2 < 9) (x3 : Int32) (x4 : Int32) (m : hM), Rf vI G X 63 [(0, hA G 96), (1, .int x1), (2, zK G a2), (3, .int x3), (4, .int x4)] [] m (f_X11_ranked_63 fu qT qA qR n x1 a2 x3 x4 m) := by
  induction n with
  | zero => intros; exact rf_none
  | succ n ih =>
    intro x1 a2 ha2 x3 x4 m
    show Rf vI G X 63 [(0, hA G 96), (1, .int x1), (2, zK G a2), (3, .int x3), (4, .int x4)] [] m (s_X11_ranked_63 fu qT qA qR (f_X11_ranked_63 fu qT qA qR n) x1 a2 x3 x4 m)
    unfold s_X11_ranked_63
    refine rf_iload_n C (n := 64) (q := 3) dX11_ranked_63 rfl rfl rfl ?_
    refine rf_if_eq C (tgt := 138) (n := 67) dX11_ranked_64 (by decide) rfl (fun h8 => ?_) (fun h8 => ?_)
    · refine rf_iload_n C (n := 139) (q := 3) dX11_ranked_138 rfl rfl rfl ?_
      refine rf_guard (fun h9 => ?_)
      exact rf_zret C K (hz_bool h9).1 dX11_ranked_139
    · refine rf_iload C (n := 69) (q := 4) dX11_ranked_67 rfl rfl ?_
      refine rf_if_eq C (tgt := 138) (n := 72) dX11_ranked_69 (by decide) rfl (fun h10 => ?_) (fun h10 => ?_)
      · refine rf_iload_n C (n := 139) (q := 3) dX11_ranked_138 rfl rfl rfl ?_
        refine rf_guard (fun h11 => ?_)
        exact rf_zret C K (hz_bool h11).1 dX11_ranked_139
      · refine rf_aload_n C (n := 73) (q := 0) dX11_ranked_72 rfl rfl rfl ?_
        refine rz_aload_nK C (n := 74) (q := 2) dX11_ranked_73 rfl rfl rfl ?_
        refine rz_callVi C (n := 77) Z (c_X11_among G fu _ _) mw_RX11_211 ly_96 rfl ⟨by omega, by decide⟩ rfl (Nat.le_of_ble_eq_true rfl) rfl dX11_ranked_74 rfl (fun y12 m13 => ?_)
        refine rf_if_lt C (tgt := 138) (n := 80) dX11_ranked_77 (by decide) rfl (fun h14 => ?_) (fun h14 => ?_)
        · refine rf_iload_n C (n := 139) (q := 3) dX11_ranked_138 rfl rfl rfl ?_
          refine rf_guard (fun h15 => ?_)
          exact rf_zret C K (hz_bool h15).1 dX11_ranked_139
        · refine rf_aload_n C (n := 81) (q := 0) dX11_ranked_80 rfl rfl rfl ?_
          refine rf_getS C (n := 84) fl_RX11_173 ly_96 rfl dX11_ranked_81 rfl ?_
          refine rf_aload_n C (n := 85) (q := 0) dX11_ranked_84 rfl rfl rfl ?_
          refine rf_getI C (n := 88) fl_RX11_176 ly_96 rfl dX11_ranked_85 rfl ?_
          refine rf_guard (fun h16 => ?_)
          refine rf_iald C (n := 89) ly_119 h16 rfl dX11_ranked_88 rfl ?_
          refine rf_letI (fun y17 => ?_)
          refine rf_istore C (n := 91) [(5, .int y17), (0, hA G 96), (1, .int x1), (2, zK G a2), (3, .int x3), (4, .int x4)] dX11_ranked_89 rfl (by decide) rfl ?_
          refine rf_aload_n C (n := 92) (q := 1) dX11_ranked_91 rfl rfl rfl ?_
          refine rf_dup C (n := 93) dX11_ranked_92 rfl rfl ?_
          refine rf_getI C (n := 96) fl_RX11_176 ly_96 rfl dX11_ranked_93 rfl ?_
          refine rf_iconst C (n := 97) (v := 1) dX11_ranked_96 rfl (by decide) ?_
          refine rf_iadd C (n := 98) dX11_ranked_97 rfl ?_
          refine rf_putI C (n := 101) pl_RX11_176 ly_96 rfl ⟨rfl, rfl⟩ dX11_ranked_98 rfl ?_
          refine rf_letM (fun m18 => ?_)
          refine rf_aload_n C (n := 102) (q := 1) dX11_ranked_101 rfl rfl rfl ?_
          refine rf_iload_n C (n := 103) (q := 2) dX11_ranked_102 rfl rfl rfl ?_
          refine rf_iconst C (n := 104) (v := 1) dX11_ranked_103 rfl (by decide) ?_
          refine rf_iadd C (n := 105) dX11_ranked_104 rfl ?_
          refine rz_callVi C (n := 108) Z (hqR _ _) mw_RX11_220 ly_96 rfl ⟨Nat.le_refl _, by decide⟩ rfl (Nat.le_of_ble_eq_true rfl) rfl dX11_ranked_105 rfl (fun y19 m20 => ?_)
          refine rf_istore_n C (n := 109) [(3, .int y19), (5, .int y17), (0, hA G 96), (1, .int x1), (2, zK G a2), (4, .int x4)] dX11_ranked_108 rfl rfl (by decide) rfl ?_
          refine rf_iload_n C (n := 110) (q := 0) dX11_ranked_109 rfl rfl rfl ?_
          refine rf_if_eq C (tgt := 123) (n := 113) dX11_ranked_110 (by decide) rfl (fun h21 => ?_) (fun h21 => ?_)
          · exact rf_lv _ [2, 3, 4, 0] rfl (r_X11_ranked_123 C K Z fu qT qA qR hd0 hqT hqA hqR _ ih _ _ ha2 _ _)
          · refine rf_aload_n C (n := 114) (q := 2) dX11_ranked_113 rfl rfl rfl ?_
            refine rf_sipush C (n := 117) (v := 2000) dX11_ranked_114 rfl (by decide) ?_
            refine rf_iload C (n := 119) (q := 1) dX11_ranked_117 rfl rfl ?_
            refine rf_iadd C (n := 120) dX11_ranked_119 rfl ?_
            refine rf_callVv C (n := 123) (c_X11_marks G fu _ _) mw_RX11_206 ly_96 rfl ⟨by omega, by decide⟩ rfl (Nat.le_of_ble_eq_true rfl) rfl dX11_ranked_120 rfl (fun _ m23 => ?_)
            exact rf_lv _ [2, 3, 4, 0] rfl (r_X11_ranked_123 C K Z fu qT qA qR hd0 hqT hqA hqR _ ih _ _ ha2 _ _)
noncomputable def f_X11_ranked_51 (fu : Nat) (qT : hM → Option (Int32 × hM)) (qA : hM → Option (Int32 × hM)) (qR : Int32 → hM → Option (Int32 × hM)) (x1 : Int32) (b0 : Nat) (m : hM) : Option (Int32 × hM) :=
  hBd (qR (x1 + 1) m) fun y6 m7 =>
f_X11_ranked_63 fu qT qA qR fu x1 b0 y6 1 m7
set_option maxRecDepth 100000 in
set_option maxHeartbeats 4000000 in
theorem r_X11_ranked_51 {G : hG} {X : hX} {dd : Nat} (C : Cx G X (dd + 1) cX11_ranked 6 RX11 (some .boolean)) (K : Cr G X) (Z : Cz G X) (fu : Nat) (qT : hM → Option (Int32 × hM)) (qA : hM → Option (Int32 × hM)) (qR : Int32 → hM → Option (Int32 × hM)) (hd0 : 10 ≤ dd) (hqT : ∀ (m : hM), Mt2 vI G dd yX11_thing cX11_thing 3 (some .boolean) [hA G 96] m (qT m)) (hqA : ∀ (m : hM), Mt2 vI G dd yX11_ahead cX11_ahead 3 (some .boolean) [hA G 96] m (qA m)) (hqR : ∀ (x1 : Int32) (m : hM), Mt2 vI G dd yX11_ranked cX11_ranked 6 (some .boolean) [hA G 96, .int x1] m (qR x1 m)) (x1 : Int32) (b0 : Nat) (hb0 : b0 < 9) (m : hM) : Rf vI G X 51 [(0, hA G 96), (1, .int x1)] [zK G b0] m (f_X11_ranked_51 fu qT qA qR x1 b0 m) := by
  unfold f_X11_ranked_51
  refine rz_astore_nK C (n := 52) [(2, zK G b0), (0, hA G 96), (1, .int x1)] dX11_ranked_51 rfl rfl (by decide) rfl ?_
  refine rf_aload_n C (n := 53) (q := 1) dX11_ranked_52 rfl rfl rfl ?_
  refine rf_iload_n C (n := 54) (q := 2) dX11_ranked_53 rfl rfl rfl ?_
  refine rf_iconst C (n := 55) (v := 1) dX11_ranked_54 rfl (by decide) ?_
  refine rf_iadd C (n := 56) dX11_ranked_55 rfl ?_
  refine rz_callVi C (n := 59) Z (hqR _ _) mw_RX11_220 ly_96 rfl ⟨Nat.le_refl _, by decide⟩ rfl (Nat.le_of_ble_eq_true rfl) rfl dX11_ranked_56 rfl (fun y6 m7 => ?_)
  refine rf_istore_n C (n := 60) [(3, .int y6), (2, zK G b0), (0, hA G 96), (1, .int x1)] dX11_ranked_59 rfl rfl (by decide) rfl ?_
  refine rf_iconst C (n := 61) (v := 1) dX11_ranked_60 rfl (by decide) ?_
  refine rf_istore C (n := 63) [(4, .int 1), (3, .int y6), (2, zK G b0), (0, hA G 96), (1, .int x1)] dX11_ranked_61 rfl (by decide) rfl ?_
  exact rf_lv _ [3, 4, 2, 1, 0] rfl (r_X11_ranked_63 C K Z fu qT qA qR hd0 hqT hqA hqR fu _ _ hb0 _ _ _)
noncomputable def b_X11_ranked (fu : Nat) (qT : hM → Option (Int32 × hM)) (qA : hM → Option (Int32 × hM)) (qR : Int32 → hM → Option (Int32 × hM)) (x1 : Int32) (m : hM) : Option (Int32 × hM) :=
  if ¬ x1 = 5 then (
if ¬ x1 = 0 then (
if ¬ x1 = 1 then (
if ¬ x1 = 2 then (
if ¬ x1 = 3 then (
f_X11_ranked_51 fu qT qA qR x1 8 m) else (
f_X11_ranked_51 fu qT qA qR x1 7 m)) else (
f_X11_ranked_51 fu qT qA qR x1 6 m)) else (
f_X11_ranked_51 fu qT qA qR x1 5 m)) else (
f_X11_ranked_51 fu qT qA qR x1 4 m)) else (
hBd (qA m) fun y24 m25 =>
if y24 = 0 ∨ y24 = 1 then (
some (y24, m25)) else none)
set_option maxRecDepth 100000 in
set_option maxHeartbeats 4000000 in
theorem cb_X11_ranked (G : hG) (fu : Nat) (qT : hM → Option (Int32 × hM)) (qA : hM → Option (Int32 × hM)) (qR : Int32 → hM → Option (Int32 × hM)) (dd : Nat) (hd0 : 10 ≤ dd) (hqT : ∀ (m : hM), Mt2 vI G dd yX11_thing cX11_thing 3 (some .boolean) [hA G 96] m (qT m)) (hqA : ∀ (m : hM), Mt2 vI G dd yX11_ahead cX11_ahead 3 (some .boolean) [hA G 96] m (qA m)) (hqR : ∀ (x1 : Int32) (m : hM), Mt2 vI G dd yX11_ranked cX11_ranked 6 (some .boolean) [hA G 96, .int x1] m (qR x1 m)) (x1 : Int32) (m : hM) : Mt2 vI G (dd + 1) yX11_ranked cX11_ranked 6 (some .boolean) [hA G 96, .int x1] m (b_X11_ranked fu qT qA qR x1 m) := by
  refine mt2_of (by decide +kernel) (Nat.le_of_ble_eq_true rfl) (fun X C K Z => ?_)
  have C : Cx G X (dd + 1) cX11_ranked 6 RX11 (some .boolean) := C
  show Rf vI G X 0 [(0, hA G 96), (1, .int x1)] [] m _
  unfold b_X11_ranked
  refine rf_iload_n C (n := 1) (q := 1) dX11_ranked_0 rfl rfl rfl ?_
  refine rf_iconst C (n := 2) (v := 5) dX11_ranked_1 rfl (by decide) ?_
  refine rf_icmp_ne C (tgt := 10) (n := 5) dX11_ranked_2 (by decide) rfl (fun h1 => ?_) (fun h1 => ?_)
  · refine rf_iload_n C (n := 11) (q := 1) dX11_ranked_10 rfl rfl rfl ?_
    refine rf_if_ne C (tgt := 19) (n := 14) dX11_ranked_11 (by decide) rfl (fun h2 => ?_) (fun h2 => ?_)
    · refine rf_iload_n C (n := 20) (q := 1) dX11_ranked_19 rfl rfl rfl ?_
      refine rf_iconst C (n := 21) (v := 1) dX11_ranked_20 rfl (by decide) ?_
      refine rf_icmp_ne C (tgt := 29) (n := 24) dX11_ranked_21 (by decide) rfl (fun h3 => ?_) (fun h3 => ?_)
      · refine rf_iload_n C (n := 30) (q := 1) dX11_ranked_29 rfl rfl rfl ?_
        refine rf_iconst C (n := 31) (v := 2) dX11_ranked_30 rfl (by decide) ?_
        refine rf_icmp_ne C (tgt := 39) (n := 34) dX11_ranked_31 (by decide) rfl (fun h4 => ?_) (fun h4 => ?_)
        · refine rf_iload_n C (n := 40) (q := 1) dX11_ranked_39 rfl rfl rfl ?_
          refine rf_iconst C (n := 41) (v := 3) dX11_ranked_40 rfl (by decide) ?_
          refine rf_icmp_ne C (tgt := 49) (n := 44) dX11_ranked_41 (by decide) rfl (fun h5 => ?_) (fun h5 => ?_)
          · refine rz_ldcS C (n := 51) Z (i := 8) (tx := "*") (by decide +kernel) dX11_ranked_49 rfl ?_
            exact rf_lv _ [0, 1] rfl (r_X11_ranked_51 C K Z fu qT qA qR hd0 hqT hqA hqR _ _ (by decide) _)
          · refine rz_ldcS C (n := 46) Z (i := 7) (tx := "+-") (by decide +kernel) dX11_ranked_44 rfl ?_
            refine rf_goto C (n := 51) dX11_ranked_46 (by decide) ?_
            exact rf_lv _ [0, 1] rfl (r_X11_ranked_51 C K Z fu qT qA qR hd0 hqT hqA hqR _ _ (by decide) _)
        · refine rz_ldcS C (n := 36) Z (i := 6) (tx := "<>=") (by decide +kernel) dX11_ranked_34 rfl ?_
          refine rf_goto C (n := 51) dX11_ranked_36 (by decide) ?_
          exact rf_lv _ [0, 1] rfl (r_X11_ranked_51 C K Z fu qT qA qR hd0 hqT hqA hqR _ _ (by decide) _)
      · refine rz_ldcS C (n := 26) Z (i := 5) (tx := "&") (by decide +kernel) dX11_ranked_24 rfl ?_
        refine rf_goto C (n := 51) dX11_ranked_26 (by decide) ?_
        exact rf_lv _ [0, 1] rfl (r_X11_ranked_51 C K Z fu qT qA qR hd0 hqT hqA hqR _ _ (by decide) _)
    · refine rz_ldcS C (n := 16) Z (i := 4) (tx := "|") (by decide +kernel) dX11_ranked_14 rfl ?_
      refine rf_goto C (n := 51) dX11_ranked_16 (by decide) ?_
      exact rf_lv _ [0, 1] rfl (r_X11_ranked_51 C K Z fu qT qA qR hd0 hqT hqA hqR _ _ (by decide) _)
  · refine rf_aload_n C (n := 6) (q := 0) dX11_ranked_5 rfl rfl rfl ?_
    refine rz_callVi C (n := 9) Z (hqA _) mw_RX11_230 ly_96 rfl ⟨Nat.le_refl _, by decide⟩ rfl (Nat.le_of_ble_eq_true rfl) rfl dX11_ranked_6 rfl (fun y24 m25 => ?_)
    refine rf_guard (fun h26 => ?_)
    exact rf_zret C K (hz_bool h26).1 dX11_ranked_9
noncomputable def g_X11 (fu : Nat) (n : Nat) : (hM → Option (Int32 × hM)) × (hM → Option (Int32 × hM)) × (Int32 → hM → Option (Int32 × hM)) :=
  Nat.rec (motive := fun _ => (hM → Option (Int32 × hM)) × (hM → Option (Int32 × hM)) × (Int32 → hM → Option (Int32 × hM))) (fun _ => none, fun _ => none, fun _ _ => none) (fun _ ih => (b_X11_thing fu ih.1 ih.2.1 ih.2.2, b_X11_ahead fu ih.1 ih.2.1 ih.2.2, b_X11_ranked fu ih.1 ih.2.1 ih.2.2)) n
noncomputable def f_X11_thing (fu n : Nat) (m : hM) : Option (Int32 × hM) := (g_X11 fu n).1 m
noncomputable def f_X11_ahead (fu n : Nat) (m : hM) : Option (Int32 × hM) := (g_X11 fu n).2.1 m
noncomputable def f_X11_ranked (fu n : Nat) (x : Int32) (m : hM) : Option (Int32 × hM) := (g_X11 fu n).2.2 x m
theorem f_X11_thing_r (fu n : Nat) (m : hM) : f_X11_thing fu (n + 1) m = b_X11_thing fu (f_X11_thing fu n) (f_X11_ahead fu n) (f_X11_ranked fu n) m := rfl
theorem f_X11_ahead_r (fu n : Nat) (m : hM) : f_X11_ahead fu (n + 1) m = b_X11_ahead fu (f_X11_thing fu n) (f_X11_ahead fu n) (f_X11_ranked fu n) m := rfl
theorem f_X11_ranked_r (fu n : Nat) (x : Int32) (m : hM) : f_X11_ranked fu (n + 1) x m = b_X11_ranked fu (f_X11_thing fu n) (f_X11_ahead fu n) (f_X11_ranked fu n) x m := rfl
theorem c_X11_rec (G : hG) (fu : Nat) : ∀ n, (∀ (m : hM), Mt2 vI G (10 + n) yX11_thing cX11_thing 3 (some .boolean) [hA G 96] m (f_X11_thing fu n m)) ∧ (∀ (m : hM), Mt2 vI G (10 + n) yX11_ahead cX11_ahead 3 (some .boolean) [hA G 96] m (f_X11_ahead fu n m)) ∧ (∀ (x1 : Int32) (m : hM), Mt2 vI G (10 + n) yX11_ranked cX11_ranked 6 (some .boolean) [hA G 96, .int x1] m (f_X11_ranked fu n x1 m))
  | 0 => ⟨fun m a m' h => (by cases h), fun m a m' h => (by cases h), fun x m a m' h => (by cases h)⟩
  | n + 1 => by
    obtain ⟨h1, h2, h3⟩ := c_X11_rec G fu n
    exact ⟨fun m => cb_X11_thing G fu _ _ _ (10 + n) (by omega) h1 h2 h3 m, fun m => cb_X11_ahead G fu _ _ _ (10 + n) (by omega) h1 h2 h3 m, fun x m => cb_X11_ranked G fu _ _ _ (10 + n) (by omega) h1 h2 h3 x m⟩
theorem c_X11_ranked (G : hG) (fu n : Nat) (x : Int32) (m : hM) : Mt2 vI G (10 + n) yX11_ranked cX11_ranked 6 (some .boolean) [hA G 96, .int x] m (f_X11_ranked fu n x m) := (c_X11_rec G fu n).2.2 x m
