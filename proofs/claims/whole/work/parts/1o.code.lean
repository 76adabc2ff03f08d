theorem dX11_worst_0 : decode cX11_worst 0 = .ok (.aload_n 0, 1) := by decide +kernel
theorem dX11_worst_1 : decode cX11_worst 1 = .ok (.iconst 0, 1) := by decide +kernel
theorem dX11_worst_2 : decode cX11_worst 2 = .ok (.putfield 3, 3) := by decide +kernel
theorem dX11_worst_5 : decode cX11_worst 5 = .ok (.aload_n 0, 1) := by decide +kernel
theorem dX11_worst_6 : decode cX11_worst 6 = .ok (.iload_n 1, 1) := by decide +kernel
theorem dX11_worst_7 : decode cX11_worst 7 = .ok (.invokevirtual 77, 3) := by decide +kernel
theorem dX11_worst_10 : decode cX11_worst 10 = .ok (.ifCond .eq 30, 3) := by decide +kernel
theorem dX11_worst_13 : decode cX11_worst 13 = .ok (.iload_n 2, 1) := by decide +kernel
theorem dX11_worst_14 : decode cX11_worst 14 = .ok (.invokestatic 86, 3) := by decide +kernel
theorem dX11_worst_17 : decode cX11_worst 17 = .ok (.ifCond .eq 23, 3) := by decide +kernel
theorem dX11_worst_20 : decode cX11_worst 20 = .ok (.iload_n 3, 1) := by decide +kernel
theorem dX11_worst_21 : decode cX11_worst 21 = .ok (.i2l, 1) := by decide +kernel
theorem dX11_worst_22 : decode cX11_worst 22 = .ok (.iload_n 2, 1) := by decide +kernel
theorem dX11_worst_23 : decode cX11_worst 23 = .ok (.i2l, 1) := by decide +kernel
theorem dX11_worst_24 : decode cX11_worst 24 = .ok (.ldc2_w 67, 3) := by decide +kernel
theorem dX11_worst_27 : decode cX11_worst 27 = .ok (.invokestatic 25, 3) := by decide +kernel
theorem dX11_worst_30 : decode cX11_worst 30 = .ok (.ifCond .eq 10, 3) := by decide +kernel
theorem dX11_worst_33 : decode cX11_worst 33 = .ok (.aload_n 0, 1) := by decide +kernel
theorem dX11_worst_34 : decode cX11_worst 34 = .ok (.getfield 151, 3) := by decide +kernel
theorem dX11_worst_37 : decode cX11_worst 37 = .ok (.ifCond .ne 5, 3) := by decide +kernel
theorem dX11_worst_40 : decode cX11_worst 40 = .ok (.iconst (-1), 1) := by decide +kernel
theorem dX11_worst_41 : decode cX11_worst 41 = .ok (.ireturn, 1) := by decide +kernel
theorem dX11_worst_42 : decode cX11_worst 42 = .ok (.bipush (-2), 2) := by decide +kernel
theorem dX11_worst_44 : decode cX11_worst 44 = .ok (.istore 4, 2) := by decide +kernel
theorem dX11_worst_46 : decode cX11_worst 46 = .ok (.iconst 0, 1) := by decide +kernel
theorem dX11_worst_47 : decode cX11_worst 47 = .ok (.istore 5, 2) := by decide +kernel
theorem dX11_worst_49 : decode cX11_worst 49 = .ok (.iload_n 2, 1) := by decide +kernel
theorem dX11_worst_50 : decode cX11_worst 50 = .ok (.istore 6, 2) := by decide +kernel
theorem dX11_worst_52 : decode cX11_worst 52 = .ok (.iload 6, 2) := by decide +kernel
theorem dX11_worst_54 : decode cX11_worst 54 = .ok (.iload_n 3, 1) := by decide +kernel
theorem dX11_worst_55 : decode cX11_worst 55 = .ok (.if_icmp .gt 62, 3) := by decide +kernel
theorem dX11_worst_58 : decode cX11_worst 58 = .ok (.aload_n 0, 1) := by decide +kernel
theorem dX11_worst_59 : decode cX11_worst 59 = .ok (.getfield 56, 3) := by decide +kernel
theorem dX11_worst_62 : decode cX11_worst 62 = .ok (.bipush 100, 2) := by decide +kernel
theorem dX11_worst_64 : decode cX11_worst 64 = .ok (.iload_n 1, 1) := by decide +kernel
theorem dX11_worst_65 : decode cX11_worst 65 = .ok (.imul, 1) := by decide +kernel
theorem dX11_worst_66 : decode cX11_worst 66 = .ok (.iload 6, 2) := by decide +kernel
theorem dX11_worst_68 : decode cX11_worst 68 = .ok (.iadd, 1) := by decide +kernel
theorem dX11_worst_69 : decode cX11_worst 69 = .ok (.baload, 1) := by decide +kernel
theorem dX11_worst_70 : decode cX11_worst 70 = .ok (.ifCond .eq 7, 3) := by decide +kernel
theorem dX11_worst_73 : decode cX11_worst 73 = .ok (.iconst (-1), 1) := by decide +kernel
theorem dX11_worst_74 : decode cX11_worst 74 = .ok (.goto 10, 3) := by decide +kernel
theorem dX11_worst_77 : decode cX11_worst 77 = .ok (.aload_n 0, 1) := by decide +kernel
theorem dX11_worst_78 : decode cX11_worst 78 = .ok (.iload_n 1, 1) := by decide +kernel
theorem dX11_worst_79 : decode cX11_worst 79 = .ok (.iload 6, 2) := by decide +kernel
theorem dX11_worst_81 : decode cX11_worst 81 = .ok (.invokevirtual 466, 3) := by decide +kernel
theorem dX11_worst_84 : decode cX11_worst 84 = .ok (.istore 7, 2) := by decide +kernel
theorem dX11_worst_86 : decode cX11_worst 86 = .ok (.iload 7, 2) := by decide +kernel
theorem dX11_worst_88 : decode cX11_worst 88 = .ok (.ifCond .lt 23, 3) := by decide +kernel
theorem dX11_worst_91 : decode cX11_worst 91 = .ok (.iload 4, 2) := by decide +kernel
theorem dX11_worst_93 : decode cX11_worst 93 = .ok (.ifCond .lt 10, 3) := by decide +kernel
theorem dX11_worst_96 : decode cX11_worst 96 = .ok (.iload 7, 2) := by decide +kernel
theorem dX11_worst_98 : decode cX11_worst 98 = .ok (.iload 5, 2) := by decide +kernel
theorem dX11_worst_100 : decode cX11_worst 100 = .ok (.if_icmp .le 11, 3) := by decide +kernel
theorem dX11_worst_103 : decode cX11_worst 103 = .ok (.iload 6, 2) := by decide +kernel
theorem dX11_worst_105 : decode cX11_worst 105 = .ok (.istore 4, 2) := by decide +kernel
theorem dX11_worst_107 : decode cX11_worst 107 = .ok (.iload 7, 2) := by decide +kernel
theorem dX11_worst_109 : decode cX11_worst 109 = .ok (.istore 5, 2) := by decide +kernel
theorem dX11_worst_111 : decode cX11_worst 111 = .ok (.iinc 6 1, 3) := by decide +kernel
theorem dX11_worst_114 : decode cX11_worst 114 = .ok (.goto (-62), 3) := by decide +kernel
theorem dX11_worst_117 : decode cX11_worst 117 = .ok (.iload 4, 2) := by decide +kernel
theorem dX11_worst_119 : decode cX11_worst 119 = .ok (.ifCond .lt 15, 3) := by decide +kernel
theorem dX11_worst_122 : decode cX11_worst 122 = .ok (.aload_n 0, 1) := by decide +kernel
theorem dX11_worst_123 : decode cX11_worst 123 = .ok (.iconst 0, 1) := by decide +kernel
theorem dX11_worst_124 : decode cX11_worst 124 = .ok (.putfield 11, 3) := by decide +kernel
theorem dX11_worst_127 : decode cX11_worst 127 = .ok (.aload_n 0, 1) := by decide +kernel
theorem dX11_worst_128 : decode cX11_worst 128 = .ok (.iload 5, 2) := by decide +kernel
theorem dX11_worst_130 : decode cX11_worst 130 = .ok (.i2l, 1) := by decide +kernel
theorem dX11_worst_131 : decode cX11_worst 131 = .ok (.invokevirtual 18, 3) := by decide +kernel
theorem dX11_worst_134 : decode cX11_worst 134 = .ok (.iload 4, 2) := by decide +kernel
theorem dX11_worst_136 : decode cX11_worst 136 = .ok (.ireturn, 1) := by decide +kernel
theorem dX11_march_0 : decode cX11_march 0 = .ok (.aload_n 0, 1) := by decide +kernel
theorem dX11_march_1 : decode cX11_march 1 = .ok (.iconst 0, 1) := by decide +kernel
theorem dX11_march_2 : decode cX11_march 2 = .ok (.putfield 3, 3) := by decide +kernel
theorem dX11_march_5 : decode cX11_march 5 = .ok (.aload_n 0, 1) := by decide +kernel
theorem dX11_march_6 : decode cX11_march 6 = .ok (.iload_n 1, 1) := by decide +kernel
theorem dX11_march_7 : decode cX11_march 7 = .ok (.invokevirtual 77, 3) := by decide +kernel
theorem dX11_march_10 : decode cX11_march 10 = .ok (.ifCond .eq 17, 3) := by decide +kernel
theorem dX11_march_13 : decode cX11_march 13 = .ok (.iload_n 2, 1) := by decide +kernel
theorem dX11_march_14 : decode cX11_march 14 = .ok (.invokestatic 81, 3) := by decide +kernel
theorem dX11_march_17 : decode cX11_march 17 = .ok (.ifCond .eq 10, 3) := by decide +kernel
theorem dX11_march_20 : decode cX11_march 20 = .ok (.aload_n 0, 1) := by decide +kernel
theorem dX11_march_21 : decode cX11_march 21 = .ok (.getfield 151, 3) := by decide +kernel
theorem dX11_march_24 : decode cX11_march 24 = .ok (.ifCond .ne 5, 3) := by decide +kernel
theorem dX11_march_27 : decode cX11_march 27 = .ok (.iconst (-1), 1) := by decide +kernel
theorem dX11_march_28 : decode cX11_march 28 = .ok (.ireturn, 1) := by decide +kernel
theorem dX11_march_29 : decode cX11_march 29 = .ok (.aload_n 0, 1) := by decide +kernel
theorem dX11_march_30 : decode cX11_march 30 = .ok (.invokevirtual 463, 3) := by decide +kernel
theorem dX11_march_33 : decode cX11_march 33 = .ok (.istore_n 3, 1) := by decide +kernel
theorem dX11_march_34 : decode cX11_march 34 = .ok (.aload_n 0, 1) := by decide +kernel
theorem dX11_march_35 : decode cX11_march 35 = .ok (.getfield 50, 3) := by decide +kernel
theorem dX11_march_38 : decode cX11_march 38 = .ok (.iload_n 1, 1) := by decide +kernel
theorem dX11_march_39 : decode cX11_march 39 = .ok (.iaload, 1) := by decide +kernel
theorem dX11_march_40 : decode cX11_march 40 = .ok (.istore 4, 2) := by decide +kernel
theorem dX11_march_42 : decode cX11_march 42 = .ok (.aload_n 0, 1) := by decide +kernel
theorem dX11_march_43 : decode cX11_march 43 = .ok (.getfield 53, 3) := by decide +kernel
theorem dX11_march_46 : decode cX11_march 46 = .ok (.iload_n 1, 1) := by decide +kernel
theorem dX11_march_47 : decode cX11_march 47 = .ok (.iaload, 1) := by decide +kernel
theorem dX11_march_48 : decode cX11_march 48 = .ok (.istore 5, 2) := by decide +kernel
theorem dX11_march_50 : decode cX11_march 50 = .ok (.aload_n 0, 1) := by decide +kernel
theorem dX11_march_51 : decode cX11_march 51 = .ok (.getfield 50, 3) := by decide +kernel
theorem dX11_march_54 : decode cX11_march 54 = .ok (.iload_n 1, 1) := by decide +kernel
theorem dX11_march_55 : decode cX11_march 55 = .ok (.iload_n 2, 1) := by decide +kernel
theorem dX11_march_56 : decode cX11_march 56 = .ok (.iastore, 1) := by decide +kernel
theorem dX11_march_57 : decode cX11_march 57 = .ok (.aload_n 0, 1) := by decide +kernel
theorem dX11_march_58 : decode cX11_march 58 = .ok (.getfield 53, 3) := by decide +kernel
theorem dX11_march_61 : decode cX11_march 61 = .ok (.iload_n 1, 1) := by decide +kernel
theorem dX11_march_62 : decode cX11_march 62 = .ok (.iconst 1, 1) := by decide +kernel
theorem dX11_march_63 : decode cX11_march 63 = .ok (.iastore, 1) := by decide +kernel
theorem dX11_march_64 : decode cX11_march 64 = .ok (.aload_n 0, 1) := by decide +kernel
theorem dX11_march_65 : decode cX11_march 65 = .ok (.invokevirtual 463, 3) := by decide +kernel
theorem dX11_march_68 : decode cX11_march 68 = .ok (.istore 6, 2) := by decide +kernel
theorem dX11_march_70 : decode cX11_march 70 = .ok (.aload_n 0, 1) := by decide +kernel
theorem dX11_march_71 : decode cX11_march 71 = .ok (.getfield 50, 3) := by decide +kernel
theorem dX11_march_74 : decode cX11_march 74 = .ok (.iload_n 1, 1) := by decide +kernel
theorem dX11_march_75 : decode cX11_march 75 = .ok (.iload 4, 2) := by decide +kernel
theorem dX11_march_77 : decode cX11_march 77 = .ok (.iastore, 1) := by decide +kernel
theorem dX11_march_78 : decode cX11_march 78 = .ok (.aload_n 0, 1) := by decide +kernel
theorem dX11_march_79 : decode cX11_march 79 = .ok (.getfield 53, 3) := by decide +kernel
theorem dX11_march_82 : decode cX11_march 82 = .ok (.iload_n 1, 1) := by decide +kernel
theorem dX11_march_83 : decode cX11_march 83 = .ok (.iload 5, 2) := by decide +kernel
theorem dX11_march_85 : decode cX11_march 85 = .ok (.iastore, 1) := by decide +kernel
theorem dX11_march_86 : decode cX11_march 86 = .ok (.iload 6, 2) := by decide +kernel
theorem dX11_march_88 : decode cX11_march 88 = .ok (.ifCond .lt 7, 3) := by decide +kernel
theorem dX11_march_91 : decode cX11_march 91 = .ok (.iload_n 3, 1) := by decide +kernel
theorem dX11_march_92 : decode cX11_march 92 = .ok (.ifCond .ge 9, 3) := by decide +kernel
theorem dX11_march_95 : decode cX11_march 95 = .ok (.sipush (-9999), 3) := by decide +kernel
theorem dX11_march_98 : decode cX11_march 98 = .ok (.goto 7, 3) := by decide +kernel
theorem dX11_march_101 : decode cX11_march 101 = .ok (.iload 6, 2) := by decide +kernel
theorem dX11_march_103 : decode cX11_march 103 = .ok (.iload_n 3, 1) := by decide +kernel
theorem dX11_march_104 : decode cX11_march 104 = .ok (.isub, 1) := by decide +kernel
theorem dX11_march_105 : decode cX11_march 105 = .ok (.ireturn, 1) := by decide +kernel
theorem dX11_keep_0 : decode cX11_keep 0 = .ok (.aload_n 0, 1) := by decide +kernel
theorem dX11_keep_1 : decode cX11_keep 1 = .ok (.iconst 0, 1) := by decide +kernel
theorem dX11_keep_2 : decode cX11_keep 2 = .ok (.putfield 3, 3) := by decide +kernel
theorem dX11_keep_5 : decode cX11_keep 5 = .ok (.iload_n 1, 1) := by decide +kernel
theorem dX11_keep_6 : decode cX11_keep 6 = .ok (.i2l, 1) := by decide +kernel
theorem dX11_keep_7 : decode cX11_keep 7 = .ok (.lconst 0, 1) := by decide +kernel
theorem dX11_keep_8 : decode cX11_keep 8 = .ok (.ldc2_w 392, 3) := by decide +kernel
theorem dX11_keep_11 : decode cX11_keep 11 = .ok (.invokestatic 25, 3) := by decide +kernel
theorem dX11_keep_14 : decode cX11_keep 14 = .ok (.ifCond .ne 5, 3) := by decide +kernel
theorem dX11_keep_17 : decode cX11_keep 17 = .ok (.iconst 0, 1) := by decide +kernel
theorem dX11_keep_18 : decode cX11_keep 18 = .ok (.ireturn, 1) := by decide +kernel
theorem dX11_keep_19 : decode cX11_keep 19 = .ok (.aload_n 0, 1) := by decide +kernel
theorem dX11_keep_20 : decode cX11_keep 20 = .ok (.getfield 469, 3) := by decide +kernel
theorem dX11_keep_23 : decode cX11_keep 23 = .ok (.iload_n 1, 1) := by decide +kernel
theorem dX11_keep_24 : decode cX11_keep 24 = .ok (.aload_n 0, 1) := by decide +kernel
theorem dX11_keep_25 : decode cX11_keep 25 = .ok (.getfield 151, 3) := by decide +kernel
theorem dX11_keep_28 : decode cX11_keep 28 = .ok (.iastore, 1) := by decide +kernel
theorem dX11_keep_29 : decode cX11_keep 29 = .ok (.iconst 0, 1) := by decide +kernel
theorem dX11_keep_30 : decode cX11_keep 30 = .ok (.istore_n 2, 1) := by decide +kernel
theorem dX11_keep_31 : decode cX11_keep 31 = .ok (.iload_n 2, 1) := by decide +kernel
theorem dX11_keep_32 : decode cX11_keep 32 = .ok (.bipush 127, 2) := by decide +kernel
theorem dX11_keep_34 : decode cX11_keep 34 = .ok (.if_icmp .ge 26, 3) := by decide +kernel
theorem dX11_keep_37 : decode cX11_keep 37 = .ok (.aload_n 0, 1) := by decide +kernel
theorem dX11_keep_38 : decode cX11_keep 38 = .ok (.getfield 472, 3) := by decide +kernel
theorem dX11_keep_41 : decode cX11_keep 41 = .ok (.bipush 127, 2) := by decide +kernel
theorem dX11_keep_43 : decode cX11_keep 43 = .ok (.iload_n 1, 1) := by decide +kernel
theorem dX11_keep_44 : decode cX11_keep 44 = .ok (.imul, 1) := by decide +kernel
theorem dX11_keep_45 : decode cX11_keep 45 = .ok (.iload_n 2, 1) := by decide +kernel
theorem dX11_keep_46 : decode cX11_keep 46 = .ok (.iadd, 1) := by decide +kernel
theorem dX11_keep_47 : decode cX11_keep 47 = .ok (.aload_n 0, 1) := by decide +kernel
theorem dX11_keep_48 : decode cX11_keep 48 = .ok (.getfield 140, 3) := by decide +kernel
theorem dX11_keep_51 : decode cX11_keep 51 = .ok (.iload_n 2, 1) := by decide +kernel
theorem dX11_keep_52 : decode cX11_keep 52 = .ok (.iaload, 1) := by decide +kernel
theorem dX11_keep_53 : decode cX11_keep 53 = .ok (.iastore, 1) := by decide +kernel
theorem dX11_keep_54 : decode cX11_keep 54 = .ok (.iinc 2 1, 3) := by decide +kernel
theorem dX11_keep_57 : decode cX11_keep 57 = .ok (.goto (-26), 3) := by decide +kernel
theorem dX11_keep_60 : decode cX11_keep 60 = .ok (.iconst 1, 1) := by decide +kernel
theorem dX11_keep_61 : decode cX11_keep 61 = .ok (.ireturn, 1) := by decide +kernel
theorem dX11_again_0 : decode cX11_again 0 = .ok (.aload_n 0, 1) := by decide +kernel
theorem dX11_again_1 : decode cX11_again 1 = .ok (.iconst 0, 1) := by decide +kernel
theorem dX11_again_2 : decode cX11_again 2 = .ok (.putfield 3, 3) := by decide +kernel
theorem dX11_again_5 : decode cX11_again 5 = .ok (.iload_n 1, 1) := by decide +kernel
theorem dX11_again_6 : decode cX11_again 6 = .ok (.i2l, 1) := by decide +kernel
theorem dX11_again_7 : decode cX11_again 7 = .ok (.lconst 0, 1) := by decide +kernel
theorem dX11_again_8 : decode cX11_again 8 = .ok (.ldc2_w 392, 3) := by decide +kernel
theorem dX11_again_11 : decode cX11_again 11 = .ok (.invokestatic 25, 3) := by decide +kernel
theorem dX11_again_14 : decode cX11_again 14 = .ok (.ifCond .eq 16, 3) := by decide +kernel
theorem dX11_again_17 : decode cX11_again 17 = .ok (.aload_n 0, 1) := by decide +kernel
theorem dX11_again_18 : decode cX11_again 18 = .ok (.getfield 469, 3) := by decide +kernel
theorem dX11_again_21 : decode cX11_again 21 = .ok (.iload_n 1, 1) := by decide +kernel
theorem dX11_again_22 : decode cX11_again 22 = .ok (.iaload, 1) := by decide +kernel
theorem dX11_again_23 : decode cX11_again 23 = .ok (.aload_n 0, 1) := by decide +kernel
theorem dX11_again_24 : decode cX11_again 24 = .ok (.getfield 151, 3) := by decide +kernel
theorem dX11_again_27 : decode cX11_again 27 = .ok (.if_icmp .eq 5, 3) := by decide +kernel
theorem dX11_again_30 : decode cX11_again 30 = .ok (.iconst 0, 1) := by decide +kernel
theorem dX11_again_31 : decode cX11_again 31 = .ok (.ireturn, 1) := by decide +kernel
theorem dX11_again_32 : decode cX11_again 32 = .ok (.iconst 0, 1) := by decide +kernel
theorem dX11_again_33 : decode cX11_again 33 = .ok (.istore_n 2, 1) := by decide +kernel
theorem dX11_again_34 : decode cX11_again 34 = .ok (.iload_n 2, 1) := by decide +kernel
theorem dX11_again_35 : decode cX11_again 35 = .ok (.bipush 127, 2) := by decide +kernel
theorem dX11_again_37 : decode cX11_again 37 = .ok (.if_icmp .ge 26, 3) := by decide +kernel
theorem dX11_again_40 : decode cX11_again 40 = .ok (.aload_n 0, 1) := by decide +kernel
theorem dX11_again_41 : decode cX11_again 41 = .ok (.getfield 140, 3) := by decide +kernel
theorem dX11_again_44 : decode cX11_again 44 = .ok (.iload_n 2, 1) := by decide +kernel
theorem dX11_again_45 : decode cX11_again 45 = .ok (.aload_n 0, 1) := by decide +kernel
theorem dX11_again_46 : decode cX11_again 46 = .ok (.getfield 472, 3) := by decide +kernel
theorem dX11_again_49 : decode cX11_again 49 = .ok (.bipush 127, 2) := by decide +kernel
theorem dX11_again_51 : decode cX11_again 51 = .ok (.iload_n 1, 1) := by decide +kernel
theorem dX11_again_52 : decode cX11_again 52 = .ok (.imul, 1) := by decide +kernel
theorem dX11_again_53 : decode cX11_again 53 = .ok (.iload_n 2, 1) := by decide +kernel
theorem dX11_again_54 : decode cX11_again 54 = .ok (.iadd, 1) := by decide +kernel
theorem dX11_again_55 : decode cX11_again 55 = .ok (.iaload, 1) := by decide +kernel
theorem dX11_again_56 : decode cX11_again 56 = .ok (.iastore, 1) := by decide +kernel
theorem dX11_again_57 : decode cX11_again 57 = .ok (.iinc 2 1, 3) := by decide +kernel
theorem dX11_again_60 : decode cX11_again 60 = .ok (.goto (-26), 3) := by decide +kernel
theorem dX11_again_63 : decode cX11_again 63 = .ok (.iconst 1, 1) := by decide +kernel
theorem dX11_again_64 : decode cX11_again 64 = .ok (.ireturn, 1) := by decide +kernel
theorem dX11_doneBits_0 : decode cX11_doneBits 0 = .ok (.iconst 0, 1) := by decide +kernel
theorem dX11_doneBits_1 : decode cX11_doneBits 1 = .ok (.istore_n 1, 1) := by decide +kernel
theorem dX11_doneBits_2 : decode cX11_doneBits 2 = .ok (.iconst 0, 1) := by decide +kernel
theorem dX11_doneBits_3 : decode cX11_doneBits 3 = .ok (.istore_n 2, 1) := by decide +kernel
theorem dX11_doneBits_4 : decode cX11_doneBits 4 = .ok (.iload_n 2, 1) := by decide +kernel
theorem dX11_doneBits_5 : decode cX11_doneBits 5 = .ok (.aload_n 0, 1) := by decide +kernel
theorem dX11_doneBits_6 : decode cX11_doneBits 6 = .ok (.getfield 151, 3) := by decide +kernel
theorem dX11_doneBits_9 : decode cX11_doneBits 9 = .ok (.if_icmp .ge 27, 3) := by decide +kernel
theorem dX11_doneBits_12 : decode cX11_doneBits 12 = .ok (.iload_n 1, 1) := by decide +kernel
theorem dX11_doneBits_13 : decode cX11_doneBits 13 = .ok (.aload_n 0, 1) := by decide +kernel
theorem dX11_doneBits_14 : decode cX11_doneBits 14 = .ok (.iload_n 2, 1) := by decide +kernel
theorem dX11_doneBits_15 : decode cX11_doneBits 15 = .ok (.invokevirtual 265, 3) := by decide +kernel
theorem dX11_doneBits_18 : decode cX11_doneBits 18 = .ok (.ifCond .eq 9, 3) := by decide +kernel
theorem dX11_doneBits_21 : decode cX11_doneBits 21 = .ok (.iconst 1, 1) := by decide +kernel
theorem dX11_doneBits_22 : decode cX11_doneBits 22 = .ok (.iload_n 2, 1) := by decide +kernel
theorem dX11_doneBits_23 : decode cX11_doneBits 23 = .ok (.ishl, 1) := by decide +kernel
theorem dX11_doneBits_24 : decode cX11_doneBits 24 = .ok (.goto 4, 3) := by decide +kernel
theorem dX11_doneBits_27 : decode cX11_doneBits 27 = .ok (.iconst 0, 1) := by decide +kernel
theorem dX11_doneBits_28 : decode cX11_doneBits 28 = .ok (.ior, 1) := by decide +kernel
theorem dX11_doneBits_29 : decode cX11_doneBits 29 = .ok (.istore_n 1, 1) := by decide +kernel
theorem dX11_doneBits_30 : decode cX11_doneBits 30 = .ok (.iinc 2 1, 3) := by decide +kernel
theorem dX11_doneBits_33 : decode cX11_doneBits 33 = .ok (.goto (-29), 3) := by decide +kernel
theorem dX11_doneBits_36 : decode cX11_doneBits 36 = .ok (.iload_n 1, 1) := by decide +kernel
theorem dX11_doneBits_37 : decode cX11_doneBits 37 = .ok (.ireturn, 1) := by decide +kernel
theorem dX11_count_0 : decode cX11_count 0 = .ok (.aload_n 0, 1) := by decide +kernel
theorem dX11_count_1 : decode cX11_count 1 = .ok (.iconst 0, 1) := by decide +kernel
theorem dX11_count_2 : decode cX11_count 2 = .ok (.putfield 3, 3) := by decide +kernel
theorem dX11_count_5 : decode cX11_count 5 = .ok (.iload_n 1, 1) := by decide +kernel
theorem dX11_count_6 : decode cX11_count 6 = .ok (.tableswitch 112 0 9 #[54, 59, 64, 71, 76, 81, 88, 95, 102, 107], 54) := by decide +kernel
theorem dX11_count_60 : decode cX11_count 60 = .ok (.aload_n 0, 1) := by decide +kernel
theorem dX11_count_61 : decode cX11_count 61 = .ok (.getfield 22, 3) := by decide +kernel
theorem dX11_count_64 : decode cX11_count 64 = .ok (.ireturn, 1) := by decide +kernel
theorem dX11_count_65 : decode cX11_count 65 = .ok (.aload_n 0, 1) := by decide +kernel
theorem dX11_count_66 : decode cX11_count 66 = .ok (.getfield 151, 3) := by decide +kernel
theorem dX11_count_69 : decode cX11_count 69 = .ok (.ireturn, 1) := by decide +kernel
theorem dX11_count_70 : decode cX11_count 70 = .ok (.aload_n 0, 1) := by decide +kernel
theorem dX11_count_71 : decode cX11_count 71 = .ok (.getfield 140, 3) := by decide +kernel
theorem dX11_count_74 : decode cX11_count 74 = .ok (.iconst 0, 1) := by decide +kernel
theorem dX11_count_75 : decode cX11_count 75 = .ok (.iaload, 1) := by decide +kernel
theorem dX11_count_76 : decode cX11_count 76 = .ok (.ireturn, 1) := by decide +kernel
theorem dX11_count_77 : decode cX11_count 77 = .ok (.aload_n 0, 1) := by decide +kernel
theorem dX11_count_78 : decode cX11_count 78 = .ok (.invokevirtual 475, 3) := by decide +kernel
theorem dX11_count_81 : decode cX11_count 81 = .ok (.ireturn, 1) := by decide +kernel
theorem dX11_count_82 : decode cX11_count 82 = .ok (.aload_n 0, 1) := by decide +kernel
theorem dX11_count_83 : decode cX11_count 83 = .ok (.getfield 434, 3) := by decide +kernel
theorem dX11_count_86 : decode cX11_count 86 = .ok (.ireturn, 1) := by decide +kernel
theorem dX11_count_87 : decode cX11_count 87 = .ok (.aload_n 0, 1) := by decide +kernel
theorem dX11_count_88 : decode cX11_count 88 = .ok (.bipush 51, 2) := by decide +kernel
theorem dX11_count_90 : decode cX11_count 90 = .ok (.invokevirtual 316, 3) := by decide +kernel
theorem dX11_count_93 : decode cX11_count 93 = .ok (.ireturn, 1) := by decide +kernel
theorem dX11_count_94 : decode cX11_count 94 = .ok (.aload_n 0, 1) := by decide +kernel
theorem dX11_count_95 : decode cX11_count 95 = .ok (.bipush 59, 2) := by decide +kernel
theorem dX11_count_97 : decode cX11_count 97 = .ok (.invokevirtual 316, 3) := by decide +kernel
theorem dX11_count_100 : decode cX11_count 100 = .ok (.ireturn, 1) := by decide +kernel
theorem dX11_count_101 : decode cX11_count 101 = .ok (.aload_n 0, 1) := by decide +kernel
theorem dX11_count_102 : decode cX11_count 102 = .ok (.getfield 140, 3) := by decide +kernel
theorem dX11_count_105 : decode cX11_count 105 = .ok (.iconst 1, 1) := by decide +kernel
theorem dX11_count_106 : decode cX11_count 106 = .ok (.iaload, 1) := by decide +kernel
theorem dX11_count_107 : decode cX11_count 107 = .ok (.ireturn, 1) := by decide +kernel
theorem dX11_count_108 : decode cX11_count 108 = .ok (.aload_n 0, 1) := by decide +kernel
theorem dX11_count_109 : decode cX11_count 109 = .ok (.getfield 11, 3) := by decide +kernel
theorem dX11_count_112 : decode cX11_count 112 = .ok (.ireturn, 1) := by decide +kernel
theorem dX11_count_113 : decode cX11_count 113 = .ok (.aload_n 0, 1) := by decide +kernel
theorem dX11_count_114 : decode cX11_count 114 = .ok (.getfield 170, 3) := by decide +kernel
theorem dX11_count_117 : decode cX11_count 117 = .ok (.ireturn, 1) := by decide +kernel
theorem dX11_count_118 : decode cX11_count 118 = .ok (.iconst (-1), 1) := by decide +kernel
theorem dX11_count_119 : decode cX11_count 119 = .ok (.ireturn, 1) := by decide +kernel
theorem dX11_row_0 : decode cX11_row 0 = .ok (.aload_n 0, 1) := by decide +kernel
theorem dX11_row_1 : decode cX11_row 1 = .ok (.iconst 0, 1) := by decide +kernel
theorem dX11_row_2 : decode cX11_row 2 = .ok (.putfield 3, 3) := by decide +kernel
theorem dX11_row_5 : decode cX11_row 5 = .ok (.iload_n 1, 1) := by decide +kernel
theorem dX11_row_6 : decode cX11_row 6 = .ok (.i2l, 1) := by decide +kernel
theorem dX11_row_7 : decode cX11_row 7 = .ok (.lconst 0, 1) := by decide +kernel
theorem dX11_row_8 : decode cX11_row 8 = .ok (.aload_n 0, 1) := by decide +kernel
theorem dX11_row_9 : decode cX11_row 9 = .ok (.getfield 11, 3) := by decide +kernel
theorem dX11_row_12 : decode cX11_row 12 = .ok (.iconst 1, 1) := by decide +kernel
theorem dX11_row_13 : decode cX11_row 13 = .ok (.isub, 1) := by decide +kernel
theorem dX11_row_14 : decode cX11_row 14 = .ok (.i2l, 1) := by decide +kernel
theorem dX11_row_15 : decode cX11_row 15 = .ok (.invokestatic 25, 3) := by decide +kernel
theorem dX11_row_18 : decode cX11_row 18 = .ok (.ifCond .ne 10, 3) := by decide +kernel
theorem dX11_row_21 : decode cX11_row 21 = .ok (.aload_n 0, 1) := by decide +kernel
theorem dX11_row_22 : decode cX11_row 22 = .ok (.iconst 1, 1) := by decide +kernel
theorem dX11_row_23 : decode cX11_row 23 = .ok (.putfield 3, 3) := by decide +kernel
theorem dX11_row_26 : decode cX11_row 26 = .ok (.lconst 0, 1) := by decide +kernel
theorem dX11_row_27 : decode cX11_row 27 = .ok (.lreturn, 1) := by decide +kernel
theorem dX11_row_28 : decode cX11_row 28 = .ok (.aload_n 0, 1) := by decide +kernel
theorem dX11_row_29 : decode cX11_row 29 = .ok (.getfield 7, 3) := by decide +kernel
theorem dX11_row_32 : decode cX11_row 32 = .ok (.iload_n 1, 1) := by decide +kernel
theorem dX11_row_33 : decode cX11_row 33 = .ok (.laload, 1) := by decide +kernel
theorem dX11_row_34 : decode cX11_row 34 = .ok (.lreturn, 1) := by decide +kernel
noncomputable def f_X11_worst_117 (fu : Nat) (x4 : Int32) (x5 : Int32) (m : hM) : Option (Int32 × hM) :=
  if x4 < 0 then (
some (x4, m)) else (
hLet (sI m 96 1 0) fun m14 =>
hBd (f_X11_enters fu (Int32.toInt64 x5) m14) fun _ m15 =>
some (x4, m15))
set_option maxRecDepth 100000 in
set_option maxHeartbeats 4000000 in
theorem r_X11_worst_117 {G : hG} {X : hX} (C : Cx G X 13 cX11_worst 8 RX11 (some .int)) (K : Cr G X) (fu : Nat) (x4 : Int32) (x5 : Int32) (m : hM) : Rf vI G X 117 [(0, hA G 96), (4, .int x4), (5, .int x5)] [] m (f_X11_worst_117 fu x4 x5 m) := by
  unfold f_X11_worst_117
  refine rf_iload C (n := 119) (q := 1) dX11_worst_117 rfl rfl ?_
  refine rf_if_lt C (tgt := 134) (n := 122) dX11_worst_119 (by decide) rfl (fun h13 => ?_) (fun h13 => ?_)
  · refine rf_iload C (n := 136) (q := 1) dX11_worst_134 rfl rfl ?_
    exact rf_iret C K dX11_worst_136
  · refine rf_aload_n C (n := 123) (q := 0) dX11_worst_122 rfl rfl rfl ?_
    refine rf_iconst C (n := 124) (v := 0) dX11_worst_123 rfl (by decide) ?_
    refine rf_putI C (n := 127) pl_RX11_11 ly_96 rfl ⟨rfl, rfl⟩ dX11_worst_124 rfl ?_
    refine rf_letM (fun m14 => ?_)
    refine rf_aload_n C (n := 128) (q := 0) dX11_worst_127 rfl rfl rfl ?_
    refine rf_iload C (n := 130) (q := 2) dX11_worst_128 rfl rfl ?_
    refine rf_i2l C (n := 131) dX11_worst_130 rfl ?_
    refine rf_callVv C (n := 134) (c_X11_enters G fu _ _) mw_RX11_18 ly_96 rfl ⟨by decide, by decide⟩ rfl (Nat.le_of_ble_eq_true rfl) rfl dX11_worst_131 rfl (fun _ m15 => ?_)
    refine rf_iload C (n := 136) (q := 1) dX11_worst_134 rfl rfl ?_
    exact rf_iret C K dX11_worst_136
noncomputable def f_X11_worst_111 (fu : Nat) (k52 : Int32 → Int32 → Int32 → Int32 → Int32 → hM → Option (Int32 × hM)) (x1 : Int32) (x3 : Int32) (x4 : Int32) (x5 : Int32) (x6 : Int32) (m : hM) : Option (Int32 × hM) :=
  hLet (x6 + 1) fun y21 =>
k52 x1 x3 x4 x5 y21 m
set_option maxRecDepth 100000 in
set_option maxHeartbeats 4000000 in
theorem r_X11_worst_111 {G : hG} {X : hX} (C : Cx G X 13 cX11_worst 8 RX11 (some .int)) (K : Cr G X) (fu : Nat) (k52 : Int32 → Int32 → Int32 → Int32 → Int32 → hM → Option (Int32 × hM)) (hk52 : ∀ (x1 : Int32) (x3 : Int32) (x4 : Int32) (x5 : Int32) (x6 : Int32) (m : hM), Rf vI G X 52 [(0, hA G 96), (1, .int x1), (3, .int x3), (4, .int x4), (5, .int x5), (6, .int x6)] [] m (k52 x1 x3 x4 x5 x6 m)) (x1 : Int32) (x3 : Int32) (x4 : Int32) (x5 : Int32) (x6 : Int32) (m : hM) : Rf vI G X 111 [(0, hA G 96), (1, .int x1), (3, .int x3), (4, .int x4), (5, .int x5), (6, .int x6)] [] m (f_X11_worst_111 fu k52 x1 x3 x4 x5 x6 m) := by
  unfold f_X11_worst_111
  refine rf_iinc2 C (n := 114) (q := 5) (fun y21 => [(6, .int y21), (0, hA G 96), (1, .int x1), (3, .int x3), (4, .int x4), (5, .int x5)]) dX11_worst_111 rfl rfl (by decide) (by decide) (fun _ => rfl) (fun y21 => ?_)
  refine rf_goto C (n := 52) dX11_worst_114 (by decide) ?_
  exact rf_lv _ [1, 2, 3, 4, 5, 0] rfl (hk52 _ _ _ _ _ _)
noncomputable def f_X11_worst_103 (fu : Nat) (k52 : Int32 → Int32 → Int32 → Int32 → Int32 → hM → Option (Int32 × hM)) (x1 : Int32) (x3 : Int32) (x6 : Int32) (x7 : Int32) (m : hM) : Option (Int32 × hM) :=
  f_X11_worst_111 fu k52 x1 x3 x6 x7 x6 m
set_option maxRecDepth 100000 in
set_option maxHeartbeats 4000000 in
theorem r_X11_worst_103 {G : hG} {X : hX} (C : Cx G X 13 cX11_worst 8 RX11 (some .int)) (K : Cr G X) (fu : Nat) (k52 : Int32 → Int32 → Int32 → Int32 → Int32 → hM → Option (Int32 × hM)) (hk52 : ∀ (x1 : Int32) (x3 : Int32) (x4 : Int32) (x5 : Int32) (x6 : Int32) (m : hM), Rf vI G X 52 [(0, hA G 96), (1, .int x1), (3, .int x3), (4, .int x4), (5, .int x5), (6, .int x6)] [] m (k52 x1 x3 x4 x5 x6 m)) (x1 : Int32) (x3 : Int32) (x6 : Int32) (x7 : Int32) (m : hM) : Rf vI G X 103 [(0, hA G 96), (1, .int x1), (3, .int x3), (6, .int x6), (7, .int x7)] [] m (f_X11_worst_103 fu k52 x1 x3 x6 x7 m) := by
  unfold f_X11_worst_103
  refine rf_iload C (n := 105) (q := 3) dX11_worst_103 rfl rfl ?_
  refine rf_istore C (n := 107) [(4, .int x6), (0, hA G 96), (1, .int x1), (3, .int x3), (6, .int x6), (7, .int x7)] dX11_worst_105 rfl (by decide) rfl ?_
  refine rf_iload C (n := 109) (q := 5) dX11_worst_107 rfl rfl ?_
  refine rf_istore C (n := 111) [(5, .int x7), (4, .int x6), (0, hA G 96), (1, .int x1), (3, .int x3), (6, .int x6), (7, .int x7)] dX11_worst_109 rfl (by decide) rfl ?_
  exact rf_lv _ [2, 3, 4, 1, 0, 5] rfl (r_X11_worst_111 C K fu _ hk52 _ _ _ _ _ _)
noncomputable def f_X11_worst_84 (fu : Nat) (k52 : Int32 → Int32 → Int32 → Int32 → Int32 → hM → Option (Int32 × hM)) (x1 : Int32) (x3 : Int32) (x4 : Int32) (x5 : Int32) (x6 : Int32) (s0 : Int32) (m : hM) : Option (Int32 × hM) :=
  if s0 < 0 then (
f_X11_worst_111 fu k52 x1 x3 x4 x5 x6 m) else (
if x4 < 0 then (
f_X11_worst_103 fu k52 x1 x3 x6 s0 m) else (
if s0 ≤ x5 then (
f_X11_worst_111 fu k52 x1 x3 x4 x5 x6 m) else (
f_X11_worst_103 fu k52 x1 x3 x6 s0 m)))
set_option maxRecDepth 100000 in
set_option maxHeartbeats 4000000 in
theorem r_X11_worst_84 {G : hG} {X : hX} (C : Cx G X 13 cX11_worst 8 RX11 (some .int)) (K : Cr G X) (fu : Nat) (k52 : Int32 → Int32 → Int32 → Int32 → Int32 → hM → Option (Int32 × hM)) (hk52 : ∀ (x1 : Int32) (x3 : Int32) (x4 : Int32) (x5 : Int32) (x6 : Int32) (m : hM), Rf vI G X 52 [(0, hA G 96), (1, .int x1), (3, .int x3), (4, .int x4), (5, .int x5), (6, .int x6)] [] m (k52 x1 x3 x4 x5 x6 m)) (x1 : Int32) (x3 : Int32) (x4 : Int32) (x5 : Int32) (x6 : Int32) (s0 : Int32) (m : hM) : Rf vI G X 84 [(0, hA G 96), (1, .int x1), (3, .int x3), (4, .int x4), (5, .int x5), (6, .int x6)] [.int s0] m (f_X11_worst_84 fu k52 x1 x3 x4 x5 x6 s0 m) := by
  unfold f_X11_worst_84
  refine rf_istore C (n := 86) [(7, .int s0), (0, hA G 96), (1, .int x1), (3, .int x3), (4, .int x4), (5, .int x5), (6, .int x6)] dX11_worst_84 rfl (by decide) rfl ?_
  refine rf_iload C (n := 88) (q := 0) dX11_worst_86 rfl rfl ?_
  refine rf_if_lt C (tgt := 111) (n := 91) dX11_worst_88 (by decide) rfl (fun h20 => ?_) (fun h20 => ?_)
  · exact rf_lv _ [1, 2, 3, 4, 5, 6] rfl (r_X11_worst_111 C K fu _ hk52 _ _ _ _ _ _)
  · refine rf_iload C (n := 93) (q := 4) dX11_worst_91 rfl rfl ?_
    refine rf_if_lt C (tgt := 103) (n := 96) dX11_worst_93 (by decide) rfl (fun h22 => ?_) (fun h22 => ?_)
    · exact rf_lv _ [1, 2, 3, 6, 0] rfl (r_X11_worst_103 C K fu _ hk52 _ _ _ _ _)
    · refine rf_iload C (n := 98) (q := 0) dX11_worst_96 rfl rfl ?_
      refine rf_iload C (n := 100) (q := 5) dX11_worst_98 rfl rfl ?_
      refine rf_icmp_le C (tgt := 111) (n := 103) dX11_worst_100 (by decide) rfl (fun h23 => ?_) (fun h23 => ?_)
      · exact rf_lv _ [1, 2, 3, 4, 5, 6] rfl (r_X11_worst_111 C K fu _ hk52 _ _ _ _ _ _)
      · exact rf_lv _ [1, 2, 3, 6, 0] rfl (r_X11_worst_103 C K fu _ hk52 _ _ _ _ _)
noncomputable def s_X11_worst_52 (fu : Nat) (ih : Int32 → Int32 → Int32 → Int32 → Int32 → hM → Option (Int32 × hM)) (x1 : Int32) (x3 : Int32) (x4 : Int32) (x5 : Int32) (x6 : Int32) (m : hM) : Option (Int32 × hM) :=
  if x3 < x6 then (
f_X11_worst_117 fu x4 x5 m) else (
if hIn ((100 * x1) + x6) 600 then (
if (gI m 106 (Int32.toNatClampNeg ((100 * x1) + x6))) = 0 then (
hBd (f_X11_endsOn fu x1 x6 m) fun y18 m19 =>
f_X11_worst_84 fu ih x1 x3 x4 x5 x6 y18 m19) else (
f_X11_worst_84 fu ih x1 x3 x4 x5 x6 (-1) m)) else none)
noncomputable def f_X11_worst_52 (fu : Nat) (n : Nat) : Int32 → Int32 → Int32 → Int32 → Int32 → hM → Option (Int32 × hM) :=
  Nat.rec (motive := fun _ => Int32 → Int32 → Int32 → Int32 → Int32 → hM → Option (Int32 × hM)) (fun _ _ _ _ _ _ => none) (fun _ ih => s_X11_worst_52 fu ih) n
theorem f_X11_worst_52_s (fu : Nat) (n : Nat) (x1 : Int32) (x3 : Int32) (x4 : Int32) (x5 : Int32) (x6 : Int32) (m : hM) : f_X11_worst_52 fu (n + 1) x1 x3 x4 x5 x6 m = s_X11_worst_52 fu (f_X11_worst_52 fu n) x1 x3 x4 x5 x6 m := rfl
set_option maxRecDepth 100000 in
set_option maxHeartbeats 4000000 in
theorem r_X11_worst_52 {G : hG} {X : hX} (C : Cx G X 13 cX11_worst 8 RX11 (some .int)) (K : Cr G X) (fu : Nat) (n : Nat) : ∀ (x1 : Int32) (x3 : Int32) (x4 : Int32) (x5 : Int32) (x6 : Int32) (m : hM), Rf vI G X 52 [(0, hA G 96), (1, .int x1), (3, .int x3), (4, .int x4), (5, .int x5), (6, .int x6)] [] m (f_X11_worst_52 fu n x1 x3 x4 x5 x6 m) := by
  induction n with
  | zero => intros; exact rf_none
  | succ n ih =>
    intro x1 x3 x4 x5 x6 m
    show Rf vI G X 52 [(0, hA G 96), (1, .int x1), (3, .int x3), (4, .int x4), (5, .int x5), (6, .int x6)] [] m (s_X11_worst_52 fu (f_X11_worst_52 fu n) x1 x3 x4 x5 x6 m)
    unfold s_X11_worst_52
    refine rf_iload C (n := 54) (q := 5) dX11_worst_52 rfl rfl ?_
    refine rf_iload_n C (n := 55) (q := 2) dX11_worst_54 rfl rfl rfl ?_
    refine rf_icmp_gt C (tgt := 117) (n := 58) dX11_worst_55 (by decide) rfl (fun h12 => ?_) (fun h12 => ?_)
    · exact rf_lv _ [0, 3, 4] rfl (r_X11_worst_117 C K fu _ _ _)
    · refine rf_aload_n C (n := 59) (q := 0) dX11_worst_58 rfl rfl rfl ?_
      refine rf_getS C (n := 62) fl_RX11_56 ly_96 rfl dX11_worst_59 rfl ?_
      refine rf_bipush C (n := 64) (v := 100) dX11_worst_62 rfl (by decide) ?_
      refine rf_iload_n C (n := 65) (q := 1) dX11_worst_64 rfl rfl rfl ?_
      refine rf_imul C (n := 66) dX11_worst_65 rfl ?_
      refine rf_iload C (n := 68) (q := 5) dX11_worst_66 rfl rfl ?_
      refine rf_iadd C (n := 69) dX11_worst_68 rfl ?_
      refine rf_guard (fun h16 => ?_)
      refine rf_zald C (n := 70) ly_106 h16 rfl dX11_worst_69 rfl ?_
      refine rf_if_eq C (tgt := 77) (n := 73) dX11_worst_70 (by decide) rfl (fun h17 => ?_) (fun h17 => ?_)
      · refine rf_aload_n C (n := 78) (q := 0) dX11_worst_77 rfl rfl rfl ?_
        refine rf_iload_n C (n := 79) (q := 1) dX11_worst_78 rfl rfl rfl ?_
        refine rf_iload C (n := 81) (q := 5) dX11_worst_79 rfl rfl ?_
        refine rf_callVi C (n := 84) (c_X11_endsOn G fu _ _ _) mw_RX11_466 ly_96 rfl ⟨by decide, by decide⟩ rfl (Nat.le_of_ble_eq_true rfl) rfl dX11_worst_81 rfl (fun y18 m19 => ?_)
        exact rf_lv _ [0, 1, 2, 3, 4, 5] rfl (r_X11_worst_84 C K fu _ ih _ _ _ _ _ _ _)
      · refine rf_iconst C (n := 74) (v := (-1)) dX11_worst_73 rfl (by decide) ?_
        refine rf_goto C (n := 84) dX11_worst_74 (by decide) ?_
        exact rf_lv _ [0, 1, 2, 3, 4, 5] rfl (r_X11_worst_84 C K fu _ ih _ _ _ _ _ _ _)
noncomputable def f_X11_worst (fu : Nat) (x1 : Int32) (x2 : Int32) (x3 : Int32) (m : hM) : Option (Int32 × hM) :=
  hLet (sI m 96 0 0) fun m1 =>
hBd (f_X11_isOffice fu x1 m1) fun y2 m3 =>
if y2 = 0 then (
some ((-1), m3)) else (
hBd (f_X11_isDay fu x2 m3) fun y5 m6 =>
if y5 = 0 then (
some ((-1), m6)) else (
hBd (f_X11_in fu (Int32.toInt64 x3) (Int32.toInt64 x2) 99 m6) fun y8 m9 =>
if y8 = 0 then (
some ((-1), m9)) else (
if ¬ (gI m9 96 16) = 0 then (
f_X11_worst_52 fu fu x1 x3 (-2) 0 x2 m9) else (
some ((-1), m9)))))
set_option maxRecDepth 100000 in
set_option maxHeartbeats 4000000 in
theorem c_X11_worst (G : hG) (fu : Nat) (x1 : Int32) (x2 : Int32) (x3 : Int32) (m : hM) : Mt vI G 13 yX11_worst cX11_worst 8 (some .int) [hA G 96, .int x1, .int x2, .int x3] m (f_X11_worst fu x1 x2 x3 m) := by
  refine mt_of (by decide +kernel) (Nat.le_of_ble_eq_true rfl) (fun X C K => ?_)
  have C : Cx G X 13 cX11_worst 8 RX11 (some .int) := C
  show Rf vI G X 0 [(0, hA G 96), (1, .int x1), (2, .int x2), (3, .int x3)] [] m _
  unfold f_X11_worst
  refine rf_aload_n C (n := 1) (q := 0) dX11_worst_0 rfl rfl rfl ?_
  refine rf_iconst C (n := 2) (v := 0) dX11_worst_1 rfl (by decide) ?_
  refine rf_putI C (n := 5) pl_RX11_3 ly_96 rfl ⟨rfl, rfl⟩ dX11_worst_2 rfl ?_
  refine rf_letM (fun m1 => ?_)
  refine rf_aload_n C (n := 6) (q := 0) dX11_worst_5 rfl rfl rfl ?_
  refine rf_iload_n C (n := 7) (q := 1) dX11_worst_6 rfl rfl rfl ?_
  refine rf_callVi C (n := 10) (c_X11_isOffice G fu _ _) mw_RX11_77 ly_96 rfl ⟨by decide, by decide⟩ rfl (Nat.le_of_ble_eq_true rfl) rfl dX11_worst_7 rfl (fun y2 m3 => ?_)
  refine rf_if_eq C (tgt := 40) (n := 13) dX11_worst_10 (by decide) rfl (fun h4 => ?_) (fun h4 => ?_)
  · refine rf_iconst C (n := 41) (v := (-1)) dX11_worst_40 rfl (by decide) ?_
    exact rf_iret C K dX11_worst_41
  · refine rf_iload_n C (n := 14) (q := 2) dX11_worst_13 rfl rfl rfl ?_
    refine rf_callSi C (n := 17) (c_X11_isDay G fu _ _) sw_RX11_86 ⟨by decide, by decide⟩ rfl (Nat.le_of_ble_eq_true rfl) rfl dX11_worst_14 rfl (fun y5 m6 => ?_)
    refine rf_if_eq C (tgt := 40) (n := 20) dX11_worst_17 (by decide) rfl (fun h7 => ?_) (fun h7 => ?_)
    · refine rf_iconst C (n := 41) (v := (-1)) dX11_worst_40 rfl (by decide) ?_
      exact rf_iret C K dX11_worst_41
    · refine rf_iload_n C (n := 21) (q := 3) dX11_worst_20 rfl rfl rfl ?_
      refine rf_i2l C (n := 22) dX11_worst_21 rfl ?_
      refine rf_iload_n C (n := 23) (q := 2) dX11_worst_22 rfl rfl rfl ?_
      refine rf_i2l C (n := 24) dX11_worst_23 rfl ?_
      refine rf_ldc2 C (n := 27) dX11_worst_24 rfl kl_RX11_67 ?_
      refine rf_callSi C (n := 30) (c_X11_in G fu _ _ _ _) sw_RX11_25 ⟨by decide, by decide⟩ rfl (Nat.le_of_ble_eq_true rfl) rfl dX11_worst_27 rfl (fun y8 m9 => ?_)
      refine rf_if_eq C (tgt := 40) (n := 33) dX11_worst_30 (by decide) rfl (fun h10 => ?_) (fun h10 => ?_)
      · refine rf_iconst C (n := 41) (v := (-1)) dX11_worst_40 rfl (by decide) ?_
        exact rf_iret C K dX11_worst_41
      · refine rf_aload_n C (n := 34) (q := 0) dX11_worst_33 rfl rfl rfl ?_
        refine rf_getI C (n := 37) fl_RX11_151 ly_96 rfl dX11_worst_34 rfl ?_
        refine rf_if_ne C (tgt := 42) (n := 40) dX11_worst_37 (by decide) rfl (fun h11 => ?_) (fun h11 => ?_)
        · refine rf_bipush C (n := 44) (v := (-2)) dX11_worst_42 rfl (by decide) ?_
          refine rf_istore C (n := 46) [(4, .int (-2)), (0, hA G 96), (1, .int x1), (2, .int x2), (3, .int x3)] dX11_worst_44 rfl (by decide) rfl ?_
          refine rf_iconst C (n := 47) (v := 0) dX11_worst_46 rfl (by decide) ?_
          refine rf_istore C (n := 49) [(5, .int 0), (4, .int (-2)), (0, hA G 96), (1, .int x1), (2, .int x2), (3, .int x3)] dX11_worst_47 rfl (by decide) rfl ?_
          refine rf_iload_n C (n := 50) (q := 4) dX11_worst_49 rfl rfl rfl ?_
          refine rf_istore C (n := 52) [(6, .int x2), (5, .int 0), (4, .int (-2)), (0, hA G 96), (1, .int x1), (2, .int x2), (3, .int x3)] dX11_worst_50 rfl (by decide) rfl ?_
          exact rf_lv _ [3, 4, 6, 2, 1, 0] rfl (r_X11_worst_52 C K fu fu _ _ _ _ _ _)
        · refine rf_iconst C (n := 41) (v := (-1)) dX11_worst_40 rfl (by decide) ?_
          exact rf_iret C K dX11_worst_41
noncomputable def f_X11_march (fu : Nat) (x1 : Int32) (x2 : Int32) (m : hM) : Option (Int32 × hM) :=
  hLet (sI m 96 0 0) fun m1 =>
hBd (f_X11_isOffice fu x1 m1) fun y2 m3 =>
if y2 = 0 then (
some ((-1), m3)) else (
hBd (f_X11_isHour fu x2 m3) fun y5 m6 =>
if y5 = 0 then (
some ((-1), m6)) else (
if ¬ (gI m6 96 16) = 0 then (
hBd (f_X11_endsNow fu m6) fun y9 m10 =>
if hIn x1 6 then (
hLet (gI m10 104 (Int32.toNatClampNeg x1)) fun y12 =>
if hIn x1 6 then (
hLet (gI m10 105 (Int32.toNatClampNeg x1)) fun y14 =>
if hIn x1 6 then (
hLet (sI m10 104 (Int32.toNatClampNeg x1) x2) fun m16 =>
if hIn x1 6 then (
hLet (sI m16 105 (Int32.toNatClampNeg x1) 1) fun m18 =>
hBd (f_X11_endsNow fu m18) fun y19 m20 =>
if hIn x1 6 then (
hLet (sI m20 104 (Int32.toNatClampNeg x1) y12) fun m22 =>
if hIn x1 6 then (
hLet (sI m22 105 (Int32.toNatClampNeg x1) y14) fun m24 =>
if y19 < 0 then (
some ((-9999), m24)) else (
if 0 ≤ y9 then (
some (y19 - y9, m24)) else (
some ((-9999), m24)))) else none) else none) else none) else none) else none) else none) else (
some ((-1), m6))))
set_option maxRecDepth 100000 in
set_option maxHeartbeats 4000000 in
theorem c_X11_march (G : hG) (fu : Nat) (x1 : Int32) (x2 : Int32) (m : hM) : Mt vI G 12 yX11_march cX11_march 7 (some .int) [hA G 96, .int x1, .int x2] m (f_X11_march fu x1 x2 m) := by
  refine mt_of (by decide +kernel) (Nat.le_of_ble_eq_true rfl) (fun X C K => ?_)
  have C : Cx G X 12 cX11_march 7 RX11 (some .int) := C
  show Rf vI G X 0 [(0, hA G 96), (1, .int x1), (2, .int x2)] [] m _
  unfold f_X11_march
  refine rf_aload_n C (n := 1) (q := 0) dX11_march_0 rfl rfl rfl ?_
  refine rf_iconst C (n := 2) (v := 0) dX11_march_1 rfl (by decide) ?_
  refine rf_putI C (n := 5) pl_RX11_3 ly_96 rfl ⟨rfl, rfl⟩ dX11_march_2 rfl ?_
  refine rf_letM (fun m1 => ?_)
  refine rf_aload_n C (n := 6) (q := 0) dX11_march_5 rfl rfl rfl ?_
  refine rf_iload_n C (n := 7) (q := 1) dX11_march_6 rfl rfl rfl ?_
  refine rf_callVi C (n := 10) (c_X11_isOffice G fu _ _) mw_RX11_77 ly_96 rfl ⟨by decide, by decide⟩ rfl (Nat.le_of_ble_eq_true rfl) rfl dX11_march_7 rfl (fun y2 m3 => ?_)
  refine rf_if_eq C (tgt := 27) (n := 13) dX11_march_10 (by decide) rfl (fun h4 => ?_) (fun h4 => ?_)
  · refine rf_iconst C (n := 28) (v := (-1)) dX11_march_27 rfl (by decide) ?_
    exact rf_iret C K dX11_march_28
  · refine rf_iload_n C (n := 14) (q := 2) dX11_march_13 rfl rfl rfl ?_
    refine rf_callSi C (n := 17) (c_X11_isHour G fu _ _) sw_RX11_81 ⟨by decide, by decide⟩ rfl (Nat.le_of_ble_eq_true rfl) rfl dX11_march_14 rfl (fun y5 m6 => ?_)
    refine rf_if_eq C (tgt := 27) (n := 20) dX11_march_17 (by decide) rfl (fun h7 => ?_) (fun h7 => ?_)
    · refine rf_iconst C (n := 28) (v := (-1)) dX11_march_27 rfl (by decide) ?_
      exact rf_iret C K dX11_march_28
    · refine rf_aload_n C (n := 21) (q := 0) dX11_march_20 rfl rfl rfl ?_
      refine rf_getI C (n := 24) fl_RX11_151 ly_96 rfl dX11_march_21 rfl ?_
      refine rf_if_ne C (tgt := 29) (n := 27) dX11_march_24 (by decide) rfl (fun h8 => ?_) (fun h8 => ?_)
      · refine rf_aload_n C (n := 30) (q := 0) dX11_march_29 rfl rfl rfl ?_
        refine rf_callVi C (n := 33) (c_X11_endsNow G fu _) mw_RX11_463 ly_96 rfl ⟨by decide, by decide⟩ rfl (Nat.le_of_ble_eq_true rfl) rfl dX11_march_30 rfl (fun y9 m10 => ?_)
        refine rf_istore_n C (n := 34) [(3, .int y9), (0, hA G 96), (1, .int x1), (2, .int x2)] dX11_march_33 rfl rfl (by decide) rfl ?_
        refine rf_aload_n C (n := 35) (q := 1) dX11_march_34 rfl rfl rfl ?_
        refine rf_getS C (n := 38) fl_RX11_50 ly_96 rfl dX11_march_35 rfl ?_
        refine rf_iload_n C (n := 39) (q := 2) dX11_march_38 rfl rfl rfl ?_
        refine rf_guard (fun h11 => ?_)
        refine rf_iald C (n := 40) ly_104 h11 rfl dX11_march_39 rfl ?_
        refine rf_letI (fun y12 => ?_)
        refine rf_istore C (n := 42) [(4, .int y12), (3, .int y9), (0, hA G 96), (1, .int x1), (2, .int x2)] dX11_march_40 rfl (by decide) rfl ?_
        refine rf_aload_n C (n := 43) (q := 2) dX11_march_42 rfl rfl rfl ?_
        refine rf_getS C (n := 46) fl_RX11_53 ly_96 rfl dX11_march_43 rfl ?_
        refine rf_iload_n C (n := 47) (q := 3) dX11_march_46 rfl rfl rfl ?_
        refine rf_guard (fun h13 => ?_)
        refine rf_iald C (n := 48) ly_105 h13 rfl dX11_march_47 rfl ?_
        refine rf_letI (fun y14 => ?_)
        refine rf_istore C (n := 50) [(5, .int y14), (4, .int y12), (3, .int y9), (0, hA G 96), (1, .int x1), (2, .int x2)] dX11_march_48 rfl (by decide) rfl ?_
        refine rf_aload_n C (n := 51) (q := 3) dX11_march_50 rfl rfl rfl ?_
        refine rf_getS C (n := 54) fl_RX11_50 ly_96 rfl dX11_march_51 rfl ?_
        refine rf_iload_n C (n := 55) (q := 4) dX11_march_54 rfl rfl rfl ?_
        refine rf_iload_n C (n := 56) (q := 5) dX11_march_55 rfl rfl rfl ?_
        refine rf_guard (fun h15 => ?_)
        refine rf_iast C (n := 57) ly_104 h15 rfl dX11_march_56 rfl ?_
        refine rf_letM (fun m16 => ?_)
        refine rf_aload_n C (n := 58) (q := 3) dX11_march_57 rfl rfl rfl ?_
        refine rf_getS C (n := 61) fl_RX11_53 ly_96 rfl dX11_march_58 rfl ?_
        refine rf_iload_n C (n := 62) (q := 4) dX11_march_61 rfl rfl rfl ?_
        refine rf_iconst C (n := 63) (v := 1) dX11_march_62 rfl (by decide) ?_
        refine rf_guard (fun h17 => ?_)
        refine rf_iast C (n := 64) ly_105 h17 rfl dX11_march_63 rfl ?_
        refine rf_letM (fun m18 => ?_)
        refine rf_aload_n C (n := 65) (q := 3) dX11_march_64 rfl rfl rfl ?_
        refine rf_callVi C (n := 68) (c_X11_endsNow G fu _) mw_RX11_463 ly_96 rfl ⟨by decide, by decide⟩ rfl (Nat.le_of_ble_eq_true rfl) rfl dX11_march_65 rfl (fun y19 m20 => ?_)
        refine rf_istore C (n := 70) [(6, .int y19), (5, .int y14), (4, .int y12), (3, .int y9), (0, hA G 96), (1, .int x1), (2, .int x2)] dX11_march_68 rfl (by decide) rfl ?_
        refine rf_aload_n C (n := 71) (q := 4) dX11_march_70 rfl rfl rfl ?_
        refine rf_getS C (n := 74) fl_RX11_50 ly_96 rfl dX11_march_71 rfl ?_
        refine rf_iload_n C (n := 75) (q := 5) dX11_march_74 rfl rfl rfl ?_
        refine rf_iload C (n := 77) (q := 2) dX11_march_75 rfl rfl ?_
        refine rf_guard (fun h21 => ?_)
        refine rf_iast C (n := 78) ly_104 h21 rfl dX11_march_77 rfl ?_
        refine rf_letM (fun m22 => ?_)
        refine rf_aload_n C (n := 79) (q := 4) dX11_march_78 rfl rfl rfl ?_
        refine rf_getS C (n := 82) fl_RX11_53 ly_96 rfl dX11_march_79 rfl ?_
        refine rf_iload_n C (n := 83) (q := 5) dX11_march_82 rfl rfl rfl ?_
        refine rf_iload C (n := 85) (q := 1) dX11_march_83 rfl rfl ?_
        refine rf_guard (fun h23 => ?_)
        refine rf_iast C (n := 86) ly_105 h23 rfl dX11_march_85 rfl ?_
        refine rf_letM (fun m24 => ?_)
        refine rf_iload C (n := 88) (q := 0) dX11_march_86 rfl rfl ?_
        refine rf_if_lt C (tgt := 95) (n := 91) dX11_march_88 (by decide) rfl (fun h25 => ?_) (fun h25 => ?_)
        · refine rf_sipush C (n := 98) (v := (-9999)) dX11_march_95 rfl (by decide) ?_
          refine rf_goto C (n := 105) dX11_march_98 (by decide) ?_
          exact rf_iret C K dX11_march_105
        · refine rf_iload_n C (n := 92) (q := 3) dX11_march_91 rfl rfl rfl ?_
          refine rf_if_ge C (tgt := 101) (n := 95) dX11_march_92 (by decide) rfl (fun h26 => ?_) (fun h26 => ?_)
          · refine rf_iload C (n := 103) (q := 0) dX11_march_101 rfl rfl ?_
            refine rf_iload_n C (n := 104) (q := 3) dX11_march_103 rfl rfl rfl ?_
            refine rf_isub C (n := 105) dX11_march_104 rfl ?_
            exact rf_iret C K dX11_march_105
          · refine rf_sipush C (n := 98) (v := (-9999)) dX11_march_95 rfl (by decide) ?_
            refine rf_goto C (n := 105) dX11_march_98 (by decide) ?_
            exact rf_iret C K dX11_march_105
      · refine rf_iconst C (n := 28) (v := (-1)) dX11_march_27 rfl (by decide) ?_
        exact rf_iret C K dX11_march_28
noncomputable def s_X11_keep_31 (fu : Nat) (ih : Int32 → Int32 → hM → Option (Int32 × hM)) (x1 : Int32) (x2 : Int32) (m : hM) : Option (Int32 × hM) :=
  if 127 ≤ x2 then (
some (1, m)) else (
if hIn x2 127 then (
if hIn ((127 * x1) + x2) 381 then (
hLet (sI m 134 (Int32.toNatClampNeg ((127 * x1) + x2)) (gI m 114 (Int32.toNatClampNeg x2))) fun m10 =>
hLet (x2 + 1) fun y11 =>
ih x1 y11 m10) else none) else none)
noncomputable def f_X11_keep_31 (fu : Nat) (n : Nat) : Int32 → Int32 → hM → Option (Int32 × hM) :=
  Nat.rec (motive := fun _ => Int32 → Int32 → hM → Option (Int32 × hM)) (fun _ _ _ => none) (fun _ ih => s_X11_keep_31 fu ih) n
theorem f_X11_keep_31_s (fu : Nat) (n : Nat) (x1 : Int32) (x2 : Int32) (m : hM) : f_X11_keep_31 fu (n + 1) x1 x2 m = s_X11_keep_31 fu (f_X11_keep_31 fu n) x1 x2 m := rfl
set_option maxRecDepth 100000 in
set_option maxHeartbeats 4000000 in
theorem r_X11_keep_31 {G : hG} {X : hX} (C : Cx G X 2 cX11_keep 3 RX11 (some .boolean)) (K : Cr G X) (fu : Nat) (n : Nat) : ∀ (x1 : Int32) (x2 : Int32) (m : hM), Rf vI G X 31 [(0, hA G 96), (1, .int x1), (2, .int x2)] [] m (f_X11_keep_31 fu n x1 x2 m) := by
  induction n with
  | zero => intros; exact rf_none
  | succ n ih =>
    intro x1 x2 m
    show Rf vI G X 31 [(0, hA G 96), (1, .int x1), (2, .int x2)] [] m (s_X11_keep_31 fu (f_X11_keep_31 fu n) x1 x2 m)
    unfold s_X11_keep_31
    refine rf_iload_n C (n := 32) (q := 2) dX11_keep_31 rfl rfl rfl ?_
    refine rf_bipush C (n := 34) (v := 127) dX11_keep_32 rfl (by decide) ?_
    refine rf_icmp_ge C (tgt := 60) (n := 37) dX11_keep_34 (by decide) rfl (fun h7 => ?_) (fun h7 => ?_)
    · refine rf_iconst C (n := 61) (v := 1) dX11_keep_60 rfl (by decide) ?_
      exact rf_zret C K (by decide) dX11_keep_61
    · refine rf_aload_n C (n := 38) (q := 0) dX11_keep_37 rfl rfl rfl ?_
      refine rf_getS C (n := 41) fl_RX11_472 ly_96 rfl dX11_keep_38 rfl ?_
      refine rf_bipush C (n := 43) (v := 127) dX11_keep_41 rfl (by decide) ?_
      refine rf_iload_n C (n := 44) (q := 1) dX11_keep_43 rfl rfl rfl ?_
      refine rf_imul C (n := 45) dX11_keep_44 rfl ?_
      refine rf_iload_n C (n := 46) (q := 2) dX11_keep_45 rfl rfl rfl ?_
      refine rf_iadd C (n := 47) dX11_keep_46 rfl ?_
      refine rf_aload_n C (n := 48) (q := 0) dX11_keep_47 rfl rfl rfl ?_
      refine rf_getS C (n := 51) fl_RX11_140 ly_96 rfl dX11_keep_48 rfl ?_
      refine rf_iload_n C (n := 52) (q := 2) dX11_keep_51 rfl rfl rfl ?_
      refine rf_guard (fun h8 => ?_)
      refine rf_iald C (n := 53) ly_114 h8 rfl dX11_keep_52 rfl ?_
      refine rf_guard (fun h9 => ?_)
      refine rf_iast C (n := 54) ly_134 h9 rfl dX11_keep_53 rfl ?_
      refine rf_letM (fun m10 => ?_)
      refine rf_iinc2 C (n := 57) (q := 2) (fun y11 => [(2, .int y11), (0, hA G 96), (1, .int x1)]) dX11_keep_54 rfl rfl (by decide) (by decide) (fun _ => rfl) (fun y11 => ?_)
      refine rf_goto C (n := 31) dX11_keep_57 (by decide) ?_
      exact rf_lv _ [1, 2, 0] rfl (ih _ _ _)
noncomputable def f_X11_keep (fu : Nat) (x1 : Int32) (m : hM) : Option (Int32 × hM) :=
  hLet (sI m 96 0 0) fun m1 =>
hBd (f_X11_in fu (Int32.toInt64 x1) 0 2 m1) fun y2 m3 =>
if ¬ y2 = 0 then (
if hIn x1 3 then (
hLet (sI m3 133 (Int32.toNatClampNeg x1) (gI m3 96 16)) fun m6 =>
f_X11_keep_31 fu fu x1 0 m6) else none) else (
some (0, m3))
set_option maxRecDepth 100000 in
set_option maxHeartbeats 4000000 in
theorem c_X11_keep (G : hG) (fu : Nat) (x1 : Int32) (m : hM) : Mt vI G 2 yX11_keep cX11_keep 3 (some .boolean) [hA G 96, .int x1] m (f_X11_keep fu x1 m) := by
  refine mt_of (by decide +kernel) (Nat.le_of_ble_eq_true rfl) (fun X C K => ?_)
  have C : Cx G X 2 cX11_keep 3 RX11 (some .boolean) := C
  show Rf vI G X 0 [(0, hA G 96), (1, .int x1)] [] m _
  unfold f_X11_keep
  refine rf_aload_n C (n := 1) (q := 0) dX11_keep_0 rfl rfl rfl ?_
  refine rf_iconst C (n := 2) (v := 0) dX11_keep_1 rfl (by decide) ?_
  refine rf_putI C (n := 5) pl_RX11_3 ly_96 rfl ⟨rfl, rfl⟩ dX11_keep_2 rfl ?_
  refine rf_letM (fun m1 => ?_)
  refine rf_iload_n C (n := 6) (q := 1) dX11_keep_5 rfl rfl rfl ?_
  refine rf_i2l C (n := 7) dX11_keep_6 rfl ?_
  refine rf_lconst C (n := 8) (v := 0) dX11_keep_7 rfl (by decide) ?_
  refine rf_ldc2 C (n := 11) dX11_keep_8 rfl kl_RX11_392 ?_
  refine rf_callSi C (n := 14) (c_X11_in G fu _ _ _ _) sw_RX11_25 ⟨by decide, by decide⟩ rfl (Nat.le_of_ble_eq_true rfl) rfl dX11_keep_11 rfl (fun y2 m3 => ?_)
  refine rf_if_ne C (tgt := 19) (n := 17) dX11_keep_14 (by decide) rfl (fun h4 => ?_) (fun h4 => ?_)
  · refine rf_aload_n C (n := 20) (q := 0) dX11_keep_19 rfl rfl rfl ?_
    refine rf_getS C (n := 23) fl_RX11_469 ly_96 rfl dX11_keep_20 rfl ?_
    refine rf_iload_n C (n := 24) (q := 1) dX11_keep_23 rfl rfl rfl ?_
    refine rf_aload_n C (n := 25) (q := 0) dX11_keep_24 rfl rfl rfl ?_
    refine rf_getI C (n := 28) fl_RX11_151 ly_96 rfl dX11_keep_25 rfl ?_
    refine rf_guard (fun h5 => ?_)
    refine rf_iast C (n := 29) ly_133 h5 rfl dX11_keep_28 rfl ?_
    refine rf_letM (fun m6 => ?_)
    refine rf_iconst C (n := 30) (v := 0) dX11_keep_29 rfl (by decide) ?_
    refine rf_istore_n C (n := 31) [(2, .int 0), (0, hA G 96), (1, .int x1)] dX11_keep_30 rfl rfl (by decide) rfl ?_
    exact rf_lv _ [1, 2, 0] rfl (r_X11_keep_31 C K fu fu _ _ _)
  · refine rf_iconst C (n := 18) (v := 0) dX11_keep_17 rfl (by decide) ?_
    exact rf_zret C K (by decide) dX11_keep_18
noncomputable def s_X11_again_34 (fu : Nat) (ih : Int32 → Int32 → hM → Option (Int32 × hM)) (x1 : Int32) (x2 : Int32) (m : hM) : Option (Int32 × hM) :=
  if 127 ≤ x2 then (
some (1, m)) else (
if hIn ((127 * x1) + x2) 381 then (
if hIn x2 127 then (
hLet (sI m 114 (Int32.toNatClampNeg x2) (gI m 134 (Int32.toNatClampNeg ((127 * x1) + x2)))) fun m10 =>
hLet (x2 + 1) fun y11 =>
ih x1 y11 m10) else none) else none)
noncomputable def f_X11_again_34 (fu : Nat) (n : Nat) : Int32 → Int32 → hM → Option (Int32 × hM) :=
  Nat.rec (motive := fun _ => Int32 → Int32 → hM → Option (Int32 × hM)) (fun _ _ _ => none) (fun _ ih => s_X11_again_34 fu ih) n
theorem f_X11_again_34_s (fu : Nat) (n : Nat) (x1 : Int32) (x2 : Int32) (m : hM) : f_X11_again_34 fu (n + 1) x1 x2 m = s_X11_again_34 fu (f_X11_again_34 fu n) x1 x2 m := rfl
set_option maxRecDepth 100000 in
set_option maxHeartbeats 4000000 in
theorem r_X11_again_34 {G : hG} {X : hX} (C : Cx G X 2 cX11_again 3 RX11 (some .boolean)) (K : Cr G X) (fu : Nat) (n : Nat) : ∀ (x1 : Int32) (x2 : Int32) (m : hM), Rf vI G X 34 [(0, hA G 96), (1, .int x1), (2, .int x2)] [] m (f_X11_again_34 fu n x1 x2 m) := by
  induction n with
  | zero => intros; exact rf_none
  | succ n ih =>
    intro x1 x2 m
    show Rf vI G X 34 [(0, hA G 96), (1, .int x1), (2, .int x2)] [] m (s_X11_again_34 fu (f_X11_again_34 fu n) x1 x2 m)
    unfold s_X11_again_34
    refine rf_iload_n C (n := 35) (q := 2) dX11_again_34 rfl rfl rfl ?_
    refine rf_bipush C (n := 37) (v := 127) dX11_again_35 rfl (by decide) ?_
    refine rf_icmp_ge C (tgt := 63) (n := 40) dX11_again_37 (by decide) rfl (fun h7 => ?_) (fun h7 => ?_)
    · refine rf_iconst C (n := 64) (v := 1) dX11_again_63 rfl (by decide) ?_
      exact rf_zret C K (by decide) dX11_again_64
    · refine rf_aload_n C (n := 41) (q := 0) dX11_again_40 rfl rfl rfl ?_
      refine rf_getS C (n := 44) fl_RX11_140 ly_96 rfl dX11_again_41 rfl ?_
      refine rf_iload_n C (n := 45) (q := 2) dX11_again_44 rfl rfl rfl ?_
      refine rf_aload_n C (n := 46) (q := 0) dX11_again_45 rfl rfl rfl ?_
      refine rf_getS C (n := 49) fl_RX11_472 ly_96 rfl dX11_again_46 rfl ?_
      refine rf_bipush C (n := 51) (v := 127) dX11_again_49 rfl (by decide) ?_
      refine rf_iload_n C (n := 52) (q := 1) dX11_again_51 rfl rfl rfl ?_
      refine rf_imul C (n := 53) dX11_again_52 rfl ?_
      refine rf_iload_n C (n := 54) (q := 2) dX11_again_53 rfl rfl rfl ?_
      refine rf_iadd C (n := 55) dX11_again_54 rfl ?_
      refine rf_guard (fun h8 => ?_)
      refine rf_iald C (n := 56) ly_134 h8 rfl dX11_again_55 rfl ?_
      refine rf_guard (fun h9 => ?_)
      refine rf_iast C (n := 57) ly_114 h9 rfl dX11_again_56 rfl ?_
      refine rf_letM (fun m10 => ?_)
      refine rf_iinc2 C (n := 60) (q := 2) (fun y11 => [(2, .int y11), (0, hA G 96), (1, .int x1)]) dX11_again_57 rfl rfl (by decide) (by decide) (fun _ => rfl) (fun y11 => ?_)
      refine rf_goto C (n := 34) dX11_again_60 (by decide) ?_
      exact rf_lv _ [1, 2, 0] rfl (ih _ _ _)
noncomputable def f_X11_again (fu : Nat) (x1 : Int32) (m : hM) : Option (Int32 × hM) :=
  hLet (sI m 96 0 0) fun m1 =>
hBd (f_X11_in fu (Int32.toInt64 x1) 0 2 m1) fun y2 m3 =>
if y2 = 0 then (
some (0, m3)) else (
if hIn x1 3 then (
if (gI m3 133 (Int32.toNatClampNeg x1)) = (gI m3 96 16) then (
f_X11_again_34 fu fu x1 0 m3) else (
some (0, m3))) else none)
set_option maxRecDepth 100000 in
set_option maxHeartbeats 4000000 in
theorem c_X11_again (G : hG) (fu : Nat) (x1 : Int32) (m : hM) : Mt vI G 2 yX11_again cX11_again 3 (some .boolean) [hA G 96, .int x1] m (f_X11_again fu x1 m) := by
  refine mt_of (by decide +kernel) (Nat.le_of_ble_eq_true rfl) (fun X C K => ?_)
  have C : Cx G X 2 cX11_again 3 RX11 (some .boolean) := C
  show Rf vI G X 0 [(0, hA G 96), (1, .int x1)] [] m _
  unfold f_X11_again
  refine rf_aload_n C (n := 1) (q := 0) dX11_again_0 rfl rfl rfl ?_
  refine rf_iconst C (n := 2) (v := 0) dX11_again_1 rfl (by decide) ?_
  refine rf_putI C (n := 5) pl_RX11_3 ly_96 rfl ⟨rfl, rfl⟩ dX11_again_2 rfl ?_
  refine rf_letM (fun m1 => ?_)
  refine rf_iload_n C (n := 6) (q := 1) dX11_again_5 rfl rfl rfl ?_
  refine rf_i2l C (n := 7) dX11_again_6 rfl ?_
  refine rf_lconst C (n := 8) (v := 0) dX11_again_7 rfl (by decide) ?_
  refine rf_ldc2 C (n := 11) dX11_again_8 rfl kl_RX11_392 ?_
  refine rf_callSi C (n := 14) (c_X11_in G fu _ _ _ _) sw_RX11_25 ⟨by decide, by decide⟩ rfl (Nat.le_of_ble_eq_true rfl) rfl dX11_again_11 rfl (fun y2 m3 => ?_)
  refine rf_if_eq C (tgt := 30) (n := 17) dX11_again_14 (by decide) rfl (fun h4 => ?_) (fun h4 => ?_)
  · refine rf_iconst C (n := 31) (v := 0) dX11_again_30 rfl (by decide) ?_
    exact rf_zret C K (by decide) dX11_again_31
  · refine rf_aload_n C (n := 18) (q := 0) dX11_again_17 rfl rfl rfl ?_
    refine rf_getS C (n := 21) fl_RX11_469 ly_96 rfl dX11_again_18 rfl ?_
    refine rf_iload_n C (n := 22) (q := 1) dX11_again_21 rfl rfl rfl ?_
    refine rf_guard (fun h5 => ?_)
    refine rf_iald C (n := 23) ly_133 h5 rfl dX11_again_22 rfl ?_
    refine rf_aload_n C (n := 24) (q := 0) dX11_again_23 rfl rfl rfl ?_
    refine rf_getI C (n := 27) fl_RX11_151 ly_96 rfl dX11_again_24 rfl ?_
    refine rf_icmp_eq C (tgt := 32) (n := 30) dX11_again_27 (by decide) rfl (fun h6 => ?_) (fun h6 => ?_)
    · refine rf_iconst C (n := 33) (v := 0) dX11_again_32 rfl (by decide) ?_
      refine rf_istore_n C (n := 34) [(2, .int 0), (0, hA G 96), (1, .int x1)] dX11_again_33 rfl rfl (by decide) rfl ?_
      exact rf_lv _ [1, 2, 0] rfl (r_X11_again_34 C K fu fu _ _ _)
    · refine rf_iconst C (n := 31) (v := 0) dX11_again_30 rfl (by decide) ?_
      exact rf_zret C K (by decide) dX11_again_31
noncomputable def f_X11_doneBits_28 (fu : Nat) (k4 : Int32 → Int32 → hM → Option (Int32 × hM)) (x2 : Int32) (s0 : Int32) (s1 : Int32) (m : hM) : Option (Int32 × hM) :=
  hLet (s0 ||| s1) fun y5 =>
hLet (x2 + 1) fun y6 =>
k4 y5 y6 m
set_option maxRecDepth 100000 in
set_option maxHeartbeats 4000000 in
theorem r_X11_doneBits_28 {G : hG} {X : hX} (C : Cx G X 2 cX11_doneBits 3 RX11 (some .int)) (K : Cr G X) (fu : Nat) (k4 : Int32 → Int32 → hM → Option (Int32 × hM)) (hk4 : ∀ (x1 : Int32) (x2 : Int32) (m : hM), Rf vI G X 4 [(0, hA G 96), (1, .int x1), (2, .int x2)] [] m (k4 x1 x2 m)) (x2 : Int32) (s0 : Int32) (s1 : Int32) (m : hM) : Rf vI G X 28 [(0, hA G 96), (2, .int x2)] [.int s1, .int s0] m (f_X11_doneBits_28 fu k4 x2 s0 s1 m) := by
  unfold f_X11_doneBits_28
  refine rf_ior C (n := 29) dX11_doneBits_28 rfl ?_
  refine rf_letI (fun y5 => ?_)
  refine rf_istore_n C (n := 30) [(1, .int y5), (0, hA G 96), (2, .int x2)] dX11_doneBits_29 rfl rfl (by decide) rfl ?_
  refine rf_iinc2 C (n := 33) (q := 2) (fun y6 => [(2, .int y6), (1, .int y5), (0, hA G 96)]) dX11_doneBits_30 rfl rfl (by decide) (by decide) (fun _ => rfl) (fun y6 => ?_)
  refine rf_goto C (n := 4) dX11_doneBits_33 (by decide) ?_
  exact rf_lv _ [2, 1, 0] rfl (hk4 _ _ _)
noncomputable def s_X11_doneBits_4 (fu : Nat) (ih : Int32 → Int32 → hM → Option (Int32 × hM)) (x1 : Int32) (x2 : Int32) (m : hM) : Option (Int32 × hM) :=
  if (gI m 96 16) ≤ x2 then (
some (x1, m)) else (
hBd (f_X11_isDone fu x2 m) fun y2 m3 =>
if y2 = 0 then (
f_X11_doneBits_28 fu ih x2 x1 0 m3) else (
f_X11_doneBits_28 fu ih x2 x1 (1 <<< (x2 &&& 31)) m3))
noncomputable def f_X11_doneBits_4 (fu : Nat) (n : Nat) : Int32 → Int32 → hM → Option (Int32 × hM) :=
  Nat.rec (motive := fun _ => Int32 → Int32 → hM → Option (Int32 × hM)) (fun _ _ _ => none) (fun _ ih => s_X11_doneBits_4 fu ih) n
theorem f_X11_doneBits_4_s (fu : Nat) (n : Nat) (x1 : Int32) (x2 : Int32) (m : hM) : f_X11_doneBits_4 fu (n + 1) x1 x2 m = s_X11_doneBits_4 fu (f_X11_doneBits_4 fu n) x1 x2 m := rfl
set_option maxRecDepth 100000 in
set_option maxHeartbeats 4000000 in
theorem r_X11_doneBits_4 {G : hG} {X : hX} (C : Cx G X 2 cX11_doneBits 3 RX11 (some .int)) (K : Cr G X) (fu : Nat) (n : Nat) : ∀ (x1 : Int32) (x2 : Int32) (m : hM), Rf vI G X 4 [(0, hA G 96), (1, .int x1), (2, .int x2)] [] m (f_X11_doneBits_4 fu n x1 x2 m) := by
  induction n with
  | zero => intros; exact rf_none
  | succ n ih =>
    intro x1 x2 m
    show Rf vI G X 4 [(0, hA G 96), (1, .int x1), (2, .int x2)] [] m (s_X11_doneBits_4 fu (f_X11_doneBits_4 fu n) x1 x2 m)
    unfold s_X11_doneBits_4
    refine rf_iload_n C (n := 5) (q := 2) dX11_doneBits_4 rfl rfl rfl ?_
    refine rf_aload_n C (n := 6) (q := 0) dX11_doneBits_5 rfl rfl rfl ?_
    refine rf_getI C (n := 9) fl_RX11_151 ly_96 rfl dX11_doneBits_6 rfl ?_
    refine rf_icmp_ge C (tgt := 36) (n := 12) dX11_doneBits_9 (by decide) rfl (fun h1 => ?_) (fun h1 => ?_)
    · refine rf_iload_n C (n := 37) (q := 1) dX11_doneBits_36 rfl rfl rfl ?_
      exact rf_iret C K dX11_doneBits_37
    · refine rf_iload_n C (n := 13) (q := 1) dX11_doneBits_12 rfl rfl rfl ?_
      refine rf_aload_n C (n := 14) (q := 0) dX11_doneBits_13 rfl rfl rfl ?_
      refine rf_iload_n C (n := 15) (q := 2) dX11_doneBits_14 rfl rfl rfl ?_
      refine rf_callVi C (n := 18) (c_X11_isDone G fu _ _) mw_RX11_265 ly_96 rfl ⟨by decide, by decide⟩ rfl (Nat.le_of_ble_eq_true rfl) rfl dX11_doneBits_15 rfl (fun y2 m3 => ?_)
      refine rf_if_eq C (tgt := 27) (n := 21) dX11_doneBits_18 (by decide) rfl (fun h4 => ?_) (fun h4 => ?_)
      · refine rf_iconst C (n := 28) (v := 0) dX11_doneBits_27 rfl (by decide) ?_
        exact rf_lv _ [0, 2] rfl (r_X11_doneBits_28 C K fu _ ih _ _ _ _)
      · refine rf_iconst C (n := 22) (v := 1) dX11_doneBits_21 rfl (by decide) ?_
        refine rf_iload_n C (n := 23) (q := 2) dX11_doneBits_22 rfl rfl rfl ?_
        refine rf_ishl C (n := 24) dX11_doneBits_23 rfl ?_
        refine rf_goto C (n := 28) dX11_doneBits_24 (by decide) ?_
        exact rf_lv _ [0, 2] rfl (r_X11_doneBits_28 C K fu _ ih _ _ _ _)
noncomputable def f_X11_doneBits (fu : Nat) (m : hM) : Option (Int32 × hM) :=
  f_X11_doneBits_4 fu fu 0 0 m
set_option maxRecDepth 100000 in
set_option maxHeartbeats 4000000 in
theorem c_X11_doneBits (G : hG) (fu : Nat) (m : hM) : Mt vI G 2 yX11_doneBits cX11_doneBits 3 (some .int) [hA G 96] m (f_X11_doneBits fu m) := by
  refine mt_of (by decide +kernel) (Nat.le_of_ble_eq_true rfl) (fun X C K => ?_)
  have C : Cx G X 2 cX11_doneBits 3 RX11 (some .int) := C
  show Rf vI G X 0 [(0, hA G 96)] [] m _
  unfold f_X11_doneBits
  refine rf_iconst C (n := 1) (v := 0) dX11_doneBits_0 rfl (by decide) ?_
  refine rf_istore_n C (n := 2) [(1, .int 0), (0, hA G 96)] dX11_doneBits_1 rfl rfl (by decide) rfl ?_
  refine rf_iconst C (n := 3) (v := 0) dX11_doneBits_2 rfl (by decide) ?_
  refine rf_istore_n C (n := 4) [(2, .int 0), (1, .int 0), (0, hA G 96)] dX11_doneBits_3 rfl rfl (by decide) rfl ?_
  exact rf_lv _ [2, 1, 0] rfl (r_X11_doneBits_4 C K fu fu _ _ _)
noncomputable def f_X11_count (fu : Nat) (x1 : Int32) (m : hM) : Option (Int32 × hM) :=
  hLet (sI m 96 0 0) fun m1 =>
if x1 = 0 then (
some (gI m1 96 3, m1)) else if x1 = 1 then (
some (gI m1 96 16, m1)) else if x1 = 2 then (
some (gI m1 114 0, m1)) else if x1 = 3 then (
hBd (f_X11_doneBits fu m1) fun y6 m7 =>
some (y6, m7)) else if x1 = 4 then (
some (gI m1 96 50, m1)) else if x1 = 5 then (
hBd (f_X11_sumOf fu 51 m1) fun y10 m11 =>
some (y10, m11)) else if x1 = 6 then (
hBd (f_X11_sumOf fu 59 m1) fun y13 m14 =>
some (y13, m14)) else if x1 = 7 then (
some (gI m1 114 1, m1)) else if x1 = 8 then (
some (gI m1 96 1, m1)) else if x1 = 9 then (
some (gI m1 96 29, m1)) else (
some ((-1), m1))
set_option maxRecDepth 100000 in
set_option maxHeartbeats 4000000 in
theorem c_X11_count (G : hG) (fu : Nat) (x1 : Int32) (m : hM) : Mt vI G 3 yX11_count cX11_count 2 (some .int) [hA G 96, .int x1] m (f_X11_count fu x1 m) := by
  refine mt_of (by decide +kernel) (Nat.le_of_ble_eq_true rfl) (fun X C K => ?_)
  have C : Cx G X 3 cX11_count 2 RX11 (some .int) := C
  show Rf vI G X 0 [(0, hA G 96), (1, .int x1)] [] m _
  unfold f_X11_count
  refine rf_aload_n C (n := 1) (q := 0) dX11_count_0 rfl rfl rfl ?_
  refine rf_iconst C (n := 2) (v := 0) dX11_count_1 rfl (by decide) ?_
  refine rf_putI C (n := 5) pl_RX11_3 ly_96 rfl ⟨rfl, rfl⟩ dX11_count_2 rfl ?_
  refine rf_letM (fun m1 => ?_)
  refine rf_iload_n C (n := 6) (q := 1) dX11_count_5 rfl rfl rfl ?_
  refine rf_sw (fun h2 => ?_) (fun h2 => ?_)
  · refine rf_tabIn C (n := 60) (off := 54) dX11_count_6 h2 (by decide) (by decide) (by decide) (by decide) ?_
    refine rf_aload_n C (n := 61) (q := 0) dX11_count_60 rfl rfl rfl ?_
    refine rf_getI C (n := 64) fl_RX11_22 ly_96 rfl dX11_count_61 rfl ?_
    exact rf_iret C K dX11_count_64
  refine rf_sw (fun h3 => ?_) (fun h3 => ?_)
  · refine rf_tabIn C (n := 65) (off := 59) dX11_count_6 h3 (by decide) (by decide) (by decide) (by decide) ?_
    refine rf_aload_n C (n := 66) (q := 0) dX11_count_65 rfl rfl rfl ?_
    refine rf_getI C (n := 69) fl_RX11_151 ly_96 rfl dX11_count_66 rfl ?_
    exact rf_iret C K dX11_count_69
  refine rf_sw (fun h4 => ?_) (fun h4 => ?_)
  · refine rf_tabIn C (n := 70) (off := 64) dX11_count_6 h4 (by decide) (by decide) (by decide) (by decide) ?_
    refine rf_aload_n C (n := 71) (q := 0) dX11_count_70 rfl rfl rfl ?_
    refine rf_getS C (n := 74) fl_RX11_140 ly_96 rfl dX11_count_71 rfl ?_
    refine rf_iconst C (n := 75) (v := 0) dX11_count_74 rfl (by decide) ?_
    refine rf_iald C (n := 76) (j := 0) ly_114 (by decide) (by decide) dX11_count_75 rfl ?_
    exact rf_iret C K dX11_count_76
  refine rf_sw (fun h5 => ?_) (fun h5 => ?_)
  · refine rf_tabIn C (n := 77) (off := 71) dX11_count_6 h5 (by decide) (by decide) (by decide) (by decide) ?_
    refine rf_aload_n C (n := 78) (q := 0) dX11_count_77 rfl rfl rfl ?_
    refine rf_callVi C (n := 81) (c_X11_doneBits G fu _) mw_RX11_475 ly_96 rfl ⟨by decide, by decide⟩ rfl (Nat.le_of_ble_eq_true rfl) rfl dX11_count_78 rfl (fun y6 m7 => ?_)
    exact rf_iret C K dX11_count_81
  refine rf_sw (fun h8 => ?_) (fun h8 => ?_)
  · refine rf_tabIn C (n := 82) (off := 76) dX11_count_6 h8 (by decide) (by decide) (by decide) (by decide) ?_
    refine rf_aload_n C (n := 83) (q := 0) dX11_count_82 rfl rfl rfl ?_
    refine rf_getI C (n := 86) fl_RX11_434 ly_96 rfl dX11_count_83 rfl ?_
    exact rf_iret C K dX11_count_86
  refine rf_sw (fun h9 => ?_) (fun h9 => ?_)
  · refine rf_tabIn C (n := 87) (off := 81) dX11_count_6 h9 (by decide) (by decide) (by decide) (by decide) ?_
    refine rf_aload_n C (n := 88) (q := 0) dX11_count_87 rfl rfl rfl ?_
    refine rf_bipush C (n := 90) (v := 51) dX11_count_88 rfl (by decide) ?_
    refine rf_callVi C (n := 93) (c_X11_sumOf G fu _ _) mw_RX11_316 ly_96 rfl ⟨by decide, by decide⟩ rfl (Nat.le_of_ble_eq_true rfl) rfl dX11_count_90 rfl (fun y10 m11 => ?_)
    exact rf_iret C K dX11_count_93
  refine rf_sw (fun h12 => ?_) (fun h12 => ?_)
  · refine rf_tabIn C (n := 94) (off := 88) dX11_count_6 h12 (by decide) (by decide) (by decide) (by decide) ?_
    refine rf_aload_n C (n := 95) (q := 0) dX11_count_94 rfl rfl rfl ?_
    refine rf_bipush C (n := 97) (v := 59) dX11_count_95 rfl (by decide) ?_
    refine rf_callVi C (n := 100) (c_X11_sumOf G fu _ _) mw_RX11_316 ly_96 rfl ⟨by decide, by decide⟩ rfl (Nat.le_of_ble_eq_true rfl) rfl dX11_count_97 rfl (fun y13 m14 => ?_)
    exact rf_iret C K dX11_count_100
  refine rf_sw (fun h15 => ?_) (fun h15 => ?_)
  · refine rf_tabIn C (n := 101) (off := 95) dX11_count_6 h15 (by decide) (by decide) (by decide) (by decide) ?_
    refine rf_aload_n C (n := 102) (q := 0) dX11_count_101 rfl rfl rfl ?_
    refine rf_getS C (n := 105) fl_RX11_140 ly_96 rfl dX11_count_102 rfl ?_
    refine rf_iconst C (n := 106) (v := 1) dX11_count_105 rfl (by decide) ?_
    refine rf_iald C (n := 107) (j := 1) ly_114 (by decide) (by decide) dX11_count_106 rfl ?_
    exact rf_iret C K dX11_count_107
  refine rf_sw (fun h16 => ?_) (fun h16 => ?_)
  · refine rf_tabIn C (n := 108) (off := 102) dX11_count_6 h16 (by decide) (by decide) (by decide) (by decide) ?_
    refine rf_aload_n C (n := 109) (q := 0) dX11_count_108 rfl rfl rfl ?_
    refine rf_getI C (n := 112) fl_RX11_11 ly_96 rfl dX11_count_109 rfl ?_
    exact rf_iret C K dX11_count_112
  refine rf_sw (fun h17 => ?_) (fun h17 => ?_)
  · refine rf_tabIn C (n := 113) (off := 107) dX11_count_6 h17 (by decide) (by decide) (by decide) (by decide) ?_
    refine rf_aload_n C (n := 114) (q := 0) dX11_count_113 rfl rfl rfl ?_
    refine rf_getI C (n := 117) fl_RX11_170 ly_96 rfl dX11_count_114 rfl ?_
    exact rf_iret C K dX11_count_117
  refine rf_tabD C (n := 118) dX11_count_6 [0, 1, 2, 3, 4, 5, 6, 7, 8, 9] (by intro c hc; simp only [List.mem_cons, List.not_mem_nil, or_false] at hc; rcases hc with rfl | rfl | rfl | rfl | rfl | rfl | rfl | rfl | rfl | rfl <;> assumption) (by decide) (by decide) (by decide) ?_
  refine rf_iconst C (n := 119) (v := (-1)) dX11_count_118 rfl (by decide) ?_
  exact rf_iret C K dX11_count_119
noncomputable def f_X11_row (fu : Nat) (x1 : Int32) (m : hM) : Option (Int64 × hM) :=
  hLet (sI m 96 0 0) fun m1 =>
hBd (f_X11_in fu (Int32.toInt64 x1) 0 (Int32.toInt64 ((gI m1 96 1) - 1)) m1) fun y2 m3 =>
if ¬ y2 = 0 then (
if hIn x1 24 then (
some (gL m3 97 (Int32.toNatClampNeg x1), m3)) else none) else (
hLet (sI m3 96 0 1) fun m6 =>
some (0, m6))
set_option maxRecDepth 100000 in
set_option maxHeartbeats 4000000 in
theorem c_X11_row (G : hG) (fu : Nat) (x1 : Int32) (m : hM) : Mt vJ G 2 yX11_row cX11_row 2 (some .long) [hA G 96, .int x1] m (f_X11_row fu x1 m) := by
  refine mt_of (by decide +kernel) (Nat.le_of_ble_eq_true rfl) (fun X C K => ?_)
  have C : Cx G X 2 cX11_row 2 RX11 (some .long) := C
  show Rf vJ G X 0 [(0, hA G 96), (1, .int x1)] [] m _
  unfold f_X11_row
  refine rf_aload_n C (n := 1) (q := 0) dX11_row_0 rfl rfl rfl ?_
  refine rf_iconst C (n := 2) (v := 0) dX11_row_1 rfl (by decide) ?_
  refine rf_putI C (n := 5) pl_RX11_3 ly_96 rfl ⟨rfl, rfl⟩ dX11_row_2 rfl ?_
  refine rf_letM (fun m1 => ?_)
  refine rf_iload_n C (n := 6) (q := 1) dX11_row_5 rfl rfl rfl ?_
  refine rf_i2l C (n := 7) dX11_row_6 rfl ?_
  refine rf_lconst C (n := 8) (v := 0) dX11_row_7 rfl (by decide) ?_
  refine rf_aload_n C (n := 9) (q := 0) dX11_row_8 rfl rfl rfl ?_
  refine rf_getI C (n := 12) fl_RX11_11 ly_96 rfl dX11_row_9 rfl ?_
  refine rf_iconst C (n := 13) (v := 1) dX11_row_12 rfl (by decide) ?_
  refine rf_isub C (n := 14) dX11_row_13 rfl ?_
  refine rf_i2l C (n := 15) dX11_row_14 rfl ?_
  refine rf_callSi C (n := 18) (c_X11_in G fu _ _ _ _) sw_RX11_25 ⟨by decide, by decide⟩ rfl (Nat.le_of_ble_eq_true rfl) rfl dX11_row_15 rfl (fun y2 m3 => ?_)
  refine rf_if_ne C (tgt := 28) (n := 21) dX11_row_18 (by decide) rfl (fun h4 => ?_) (fun h4 => ?_)
  · refine rf_aload_n C (n := 29) (q := 0) dX11_row_28 rfl rfl rfl ?_
    refine rf_getS C (n := 32) fl_RX11_7 ly_96 rfl dX11_row_29 rfl ?_
    refine rf_iload_n C (n := 33) (q := 1) dX11_row_32 rfl rfl rfl ?_
    refine rf_guard (fun h5 => ?_)
    refine rf_lald C (n := 34) ly_97 h5 rfl dX11_row_33 rfl ?_
    exact rf_lret C K dX11_row_34
  · refine rf_aload_n C (n := 22) (q := 0) dX11_row_21 rfl rfl rfl ?_
    refine rf_iconst C (n := 23) (v := 1) dX11_row_22 rfl (by decide) ?_
    refine rf_putI C (n := 26) pl_RX11_3 ly_96 rfl ⟨rfl, rfl⟩ dX11_row_23 rfl ?_
    refine rf_letM (fun m6 => ?_)
    refine rf_lconst C (n := 27) (v := 0) dX11_row_26 rfl (by decide) ?_
    exact rf_lret C K dX11_row_27
