theorem dX6_takeThing_0 : decode cX6_takeThing 0 = .ok (.iload_n 1, 1) := by decide +kernel
theorem dX6_takeThing_1 : decode cX6_takeThing 1 = .ok (.bipush 33, 2) := by decide +kernel
theorem dX6_takeThing_3 : decode cX6_takeThing 3 = .ok (.if_icmp .eq 9, 3) := by decide +kernel
theorem dX6_takeThing_6 : decode cX6_takeThing 6 = .ok (.iload_n 1, 1) := by decide +kernel
theorem dX6_takeThing_7 : decode cX6_takeThing 7 = .ok (.bipush 45, 2) := by decide +kernel
theorem dX6_takeThing_9 : decode cX6_takeThing 9 = .ok (.if_icmp .ne 21, 3) := by decide +kernel
theorem dX6_takeThing_12 : decode cX6_takeThing 12 = .ok (.aload_n 0, 1) := by decide +kernel
theorem dX6_takeThing_13 : decode cX6_takeThing 13 = .ok (.iload_n 1, 1) := by decide +kernel
theorem dX6_takeThing_14 : decode cX6_takeThing 14 = .ok (.bipush 45, 2) := by decide +kernel
theorem dX6_takeThing_16 : decode cX6_takeThing 16 = .ok (.if_icmp .ne 8, 3) := by decide +kernel
theorem dX6_takeThing_19 : decode cX6_takeThing 19 = .ok (.bipush 126, 2) := by decide +kernel
theorem dX6_takeThing_21 : decode cX6_takeThing 21 = .ok (.goto 4, 3) := by decide +kernel
theorem dX6_takeThing_24 : decode cX6_takeThing 24 = .ok (.iload_n 1, 1) := by decide +kernel
theorem dX6_takeThing_25 : decode cX6_takeThing 25 = .ok (.invokevirtual 56, 3) := by decide +kernel
theorem dX6_takeThing_28 : decode cX6_takeThing 28 = .ok (.iconst 1, 1) := by decide +kernel
theorem dX6_takeThing_29 : decode cX6_takeThing 29 = .ok (.ireturn, 1) := by decide +kernel
theorem dX6_takeThing_30 : decode cX6_takeThing 30 = .ok (.iload_n 1, 1) := by decide +kernel
theorem dX6_takeThing_31 : decode cX6_takeThing 31 = .ok (.bipush 40, 2) := by decide +kernel
theorem dX6_takeThing_33 : decode cX6_takeThing 33 = .ok (.if_icmp .ne 8, 3) := by decide +kernel
theorem dX6_takeThing_36 : decode cX6_takeThing 36 = .ok (.aload_n 0, 1) := by decide +kernel
theorem dX6_takeThing_37 : decode cX6_takeThing 37 = .ok (.invokevirtual 59, 3) := by decide +kernel
theorem dX6_takeThing_40 : decode cX6_takeThing 40 = .ok (.ireturn, 1) := by decide +kernel
theorem dX6_takeThing_41 : decode cX6_takeThing 41 = .ok (.iload_n 1, 1) := by decide +kernel
theorem dX6_takeThing_42 : decode cX6_takeThing 42 = .ok (.invokestatic 63, 3) := by decide +kernel
theorem dX6_takeThing_45 : decode cX6_takeThing 45 = .ok (.ifCond .eq 19, 3) := by decide +kernel
theorem dX6_takeThing_48 : decode cX6_takeThing 48 = .ok (.aload_n 0, 1) := by decide +kernel
theorem dX6_takeThing_49 : decode cX6_takeThing 49 = .ok (.iload_n 1, 1) := by decide +kernel
theorem dX6_takeThing_50 : decode cX6_takeThing 50 = .ok (.bipush 48, 2) := by decide +kernel
theorem dX6_takeThing_52 : decode cX6_takeThing 52 = .ok (.isub, 1) := by decide +kernel
theorem dX6_takeThing_53 : decode cX6_takeThing 53 = .ok (.invokevirtual 66, 3) := by decide +kernel
theorem dX6_takeThing_56 : decode cX6_takeThing 56 = .ok (.aload_n 0, 1) := by decide +kernel
theorem dX6_takeThing_57 : decode cX6_takeThing 57 = .ok (.iconst 1, 1) := by decide +kernel
theorem dX6_takeThing_58 : decode cX6_takeThing 58 = .ok (.putfield 36, 3) := by decide +kernel
theorem dX6_takeThing_61 : decode cX6_takeThing 61 = .ok (.goto 31, 3) := by decide +kernel
theorem dX6_takeThing_64 : decode cX6_takeThing 64 = .ok (.ldc 69, 2) := by decide +kernel
theorem dX6_takeThing_66 : decode cX6_takeThing 66 = .ok (.iload_n 1, 1) := by decide +kernel
theorem dX6_takeThing_67 : decode cX6_takeThing 67 = .ok (.invokevirtual 71, 3) := by decide +kernel
theorem dX6_takeThing_70 : decode cX6_takeThing 70 = .ok (.ifCond .lt 20, 3) := by decide +kernel
theorem dX6_takeThing_73 : decode cX6_takeThing 73 = .ok (.aload_n 0, 1) := by decide +kernel
theorem dX6_takeThing_74 : decode cX6_takeThing 74 = .ok (.sipush 1000, 3) := by decide +kernel
theorem dX6_takeThing_77 : decode cX6_takeThing 77 = .ok (.iload_n 1, 1) := by decide +kernel
theorem dX6_takeThing_78 : decode cX6_takeThing 78 = .ok (.iadd, 1) := by decide +kernel
theorem dX6_takeThing_79 : decode cX6_takeThing 79 = .ok (.invokevirtual 66, 3) := by decide +kernel
theorem dX6_takeThing_82 : decode cX6_takeThing 82 = .ok (.aload_n 0, 1) := by decide +kernel
theorem dX6_takeThing_83 : decode cX6_takeThing 83 = .ok (.iconst 0, 1) := by decide +kernel
theorem dX6_takeThing_84 : decode cX6_takeThing 84 = .ok (.putfield 36, 3) := by decide +kernel
theorem dX6_takeThing_87 : decode cX6_takeThing 87 = .ok (.goto 5, 3) := by decide +kernel
theorem dX6_takeThing_90 : decode cX6_takeThing 90 = .ok (.iconst 0, 1) := by decide +kernel
theorem dX6_takeThing_91 : decode cX6_takeThing 91 = .ok (.ireturn, 1) := by decide +kernel
theorem dX6_takeThing_92 : decode cX6_takeThing 92 = .ok (.aload_n 0, 1) := by decide +kernel
theorem dX6_takeThing_93 : decode cX6_takeThing 93 = .ok (.iconst 0, 1) := by decide +kernel
theorem dX6_takeThing_94 : decode cX6_takeThing 94 = .ok (.putfield 32, 3) := by decide +kernel
theorem dX6_takeThing_97 : decode cX6_takeThing 97 = .ok (.iconst 1, 1) := by decide +kernel
theorem dX6_takeThing_98 : decode cX6_takeThing 98 = .ok (.ireturn, 1) := by decide +kernel
theorem dX6_read_0 : decode cX6_read 0 = .ok (.aload_n 0, 1) := by decide +kernel
theorem dX6_read_1 : decode cX6_read 1 = .ok (.iconst 0, 1) := by decide +kernel
theorem dX6_read_2 : decode cX6_read 2 = .ok (.putfield 15, 3) := by decide +kernel
theorem dX6_read_5 : decode cX6_read 5 = .ok (.aload_n 0, 1) := by decide +kernel
theorem dX6_read_6 : decode cX6_read 6 = .ok (.iconst 0, 1) := by decide +kernel
theorem dX6_read_7 : decode cX6_read 7 = .ok (.putfield 22, 3) := by decide +kernel
theorem dX6_read_10 : decode cX6_read 10 = .ok (.aload_n 0, 1) := by decide +kernel
theorem dX6_read_11 : decode cX6_read 11 = .ok (.iconst 0, 1) := by decide +kernel
theorem dX6_read_12 : decode cX6_read 12 = .ok (.putfield 25, 3) := by decide +kernel
theorem dX6_read_15 : decode cX6_read 15 = .ok (.aload_n 0, 1) := by decide +kernel
theorem dX6_read_16 : decode cX6_read 16 = .ok (.getfield 28, 3) := by decide +kernel
theorem dX6_read_19 : decode cX6_read 19 = .ok (.iconst 0, 1) := by decide +kernel
theorem dX6_read_20 : decode cX6_read 20 = .ok (.iconst 0, 1) := by decide +kernel
theorem dX6_read_21 : decode cX6_read 21 = .ok (.bastore, 1) := by decide +kernel
theorem dX6_read_22 : decode cX6_read 22 = .ok (.aload_n 0, 1) := by decide +kernel
theorem dX6_read_23 : decode cX6_read 23 = .ok (.iconst 1, 1) := by decide +kernel
theorem dX6_read_24 : decode cX6_read 24 = .ok (.putfield 32, 3) := by decide +kernel
theorem dX6_read_27 : decode cX6_read 27 = .ok (.aload_n 0, 1) := by decide +kernel
theorem dX6_read_28 : decode cX6_read 28 = .ok (.iconst 0, 1) := by decide +kernel
theorem dX6_read_29 : decode cX6_read 29 = .ok (.putfield 36, 3) := by decide +kernel
theorem dX6_read_32 : decode cX6_read 32 = .ok (.iload_n 2, 1) := by decide +kernel
theorem dX6_read_33 : decode cX6_read 33 = .ok (.bipush 40, 2) := by decide +kernel
theorem dX6_read_35 : decode cX6_read 35 = .ok (.invokestatic 39, 3) := by decide +kernel
theorem dX6_read_38 : decode cX6_read 38 = .ok (.aload_n 1, 1) := by decide +kernel
theorem dX6_read_39 : decode cX6_read 39 = .ok (.arraylength, 1) := by decide +kernel
theorem dX6_read_40 : decode cX6_read 40 = .ok (.invokestatic 39, 3) := by decide +kernel
theorem dX6_read_43 : decode cX6_read 43 = .ok (.istore_n 3, 1) := by decide +kernel
theorem dX6_read_44 : decode cX6_read 44 = .ok (.iconst 0, 1) := by decide +kernel
theorem dX6_read_45 : decode cX6_read 45 = .ok (.istore 4, 2) := by decide +kernel
theorem dX6_read_47 : decode cX6_read 47 = .ok (.iload 4, 2) := by decide +kernel
theorem dX6_read_49 : decode cX6_read 49 = .ok (.iload_n 3, 1) := by decide +kernel
theorem dX6_read_50 : decode cX6_read 50 = .ok (.if_icmp .ge 45, 3) := by decide +kernel
theorem dX6_read_53 : decode cX6_read 53 = .ok (.aload_n 0, 1) := by decide +kernel
theorem dX6_read_54 : decode cX6_read 54 = .ok (.getfield 32, 3) := by decide +kernel
theorem dX6_read_57 : decode cX6_read 57 = .ok (.ifCond .eq 14, 3) := by decide +kernel
theorem dX6_read_60 : decode cX6_read 60 = .ok (.aload_n 0, 1) := by decide +kernel
theorem dX6_read_61 : decode cX6_read 61 = .ok (.aload_n 1, 1) := by decide +kernel
theorem dX6_read_62 : decode cX6_read 62 = .ok (.iload 4, 2) := by decide +kernel
theorem dX6_read_64 : decode cX6_read 64 = .ok (.caload, 1) := by decide +kernel
theorem dX6_read_65 : decode cX6_read 65 = .ok (.invokevirtual 45, 3) := by decide +kernel
theorem dX6_read_68 : decode cX6_read 68 = .ok (.goto 11, 3) := by decide +kernel
theorem dX6_read_71 : decode cX6_read 71 = .ok (.aload_n 0, 1) := by decide +kernel
theorem dX6_read_72 : decode cX6_read 72 = .ok (.aload_n 1, 1) := by decide +kernel
theorem dX6_read_73 : decode cX6_read 73 = .ok (.iload 4, 2) := by decide +kernel
theorem dX6_read_75 : decode cX6_read 75 = .ok (.caload, 1) := by decide +kernel
theorem dX6_read_76 : decode cX6_read 76 = .ok (.invokevirtual 49, 3) := by decide +kernel
theorem dX6_read_79 : decode cX6_read 79 = .ok (.istore 5, 2) := by decide +kernel
theorem dX6_read_81 : decode cX6_read 81 = .ok (.iload 5, 2) := by decide +kernel
theorem dX6_read_83 : decode cX6_read 83 = .ok (.ifCond .ne 6, 3) := by decide +kernel
theorem dX6_read_86 : decode cX6_read 86 = .ok (.iload 4, 2) := by decide +kernel
theorem dX6_read_88 : decode cX6_read 88 = .ok (.ireturn, 1) := by decide +kernel
theorem dX6_read_89 : decode cX6_read 89 = .ok (.iinc 4 1, 3) := by decide +kernel
theorem dX6_read_92 : decode cX6_read 92 = .ok (.goto (-45), 3) := by decide +kernel
theorem dX6_read_95 : decode cX6_read 95 = .ok (.iload_n 2, 1) := by decide +kernel
theorem dX6_read_96 : decode cX6_read 96 = .ok (.bipush 40, 2) := by decide +kernel
theorem dX6_read_98 : decode cX6_read 98 = .ok (.if_icmp .gt 17, 3) := by decide +kernel
theorem dX6_read_101 : decode cX6_read 101 = .ok (.aload_n 0, 1) := by decide +kernel
theorem dX6_read_102 : decode cX6_read 102 = .ok (.getfield 32, 3) := by decide +kernel
theorem dX6_read_105 : decode cX6_read 105 = .ok (.ifCond .ne 10, 3) := by decide +kernel
theorem dX6_read_108 : decode cX6_read 108 = .ok (.aload_n 0, 1) := by decide +kernel
theorem dX6_read_109 : decode cX6_read 109 = .ok (.getfield 25, 3) := by decide +kernel
theorem dX6_read_112 : decode cX6_read 112 = .ok (.ifCond .le 5, 3) := by decide +kernel
theorem dX6_read_115 : decode cX6_read 115 = .ok (.iload_n 3, 1) := by decide +kernel
theorem dX6_read_116 : decode cX6_read 116 = .ok (.ireturn, 1) := by decide +kernel
theorem dX6_read_117 : decode cX6_read 117 = .ok (.aload_n 0, 1) := by decide +kernel
theorem dX6_read_118 : decode cX6_read 118 = .ok (.iconst 0, 1) := by decide +kernel
theorem dX6_read_119 : decode cX6_read 119 = .ok (.invokevirtual 52, 3) := by decide +kernel
theorem dX6_read_122 : decode cX6_read 122 = .ok (.iconst (-1), 1) := by decide +kernel
theorem dX6_read_123 : decode cX6_read 123 = .ok (.ireturn, 1) := by decide +kernel
theorem dX10_rule_0 : decode cX10_rule 0 = .ok (.aload_n 0, 1) := by decide +kernel
theorem dX10_rule_1 : decode cX10_rule 1 = .ok (.getfield 91, 3) := by decide +kernel
theorem dX10_rule_4 : decode cX10_rule 4 = .ok (.istore_n 1, 1) := by decide +kernel
theorem dX10_rule_5 : decode cX10_rule 5 = .ok (.aload_n 0, 1) := by decide +kernel
theorem dX10_rule_6 : decode cX10_rule 6 = .ok (.iconst 0, 1) := by decide +kernel
theorem dX10_rule_7 : decode cX10_rule 7 = .ok (.putfield 91, 3) := by decide +kernel
theorem dX10_rule_10 : decode cX10_rule 10 = .ok (.iload_n 1, 1) := by decide +kernel
theorem dX10_rule_11 : decode cX10_rule 11 = .ok (.ifCond .ne 13, 3) := by decide +kernel
theorem dX10_rule_14 : decode cX10_rule 14 = .ok (.aload_n 0, 1) := by decide +kernel
theorem dX10_rule_15 : decode cX10_rule 15 = .ok (.getfield 26, 3) := by decide +kernel
theorem dX10_rule_18 : decode cX10_rule 18 = .ok (.iconst 0, 1) := by decide +kernel
theorem dX10_rule_19 : decode cX10_rule 19 = .ok (.putfield 200, 3) := by decide +kernel
theorem dX10_rule_22 : decode cX10_rule 22 = .ok (.iconst 0, 1) := by decide +kernel
theorem dX10_rule_23 : decode cX10_rule 23 = .ok (.ireturn, 1) := by decide +kernel
theorem dX10_rule_24 : decode cX10_rule 24 = .ok (.aload_n 0, 1) := by decide +kernel
theorem dX10_rule_25 : decode cX10_rule 25 = .ok (.getfield 33, 3) := by decide +kernel
theorem dX10_rule_28 : decode cX10_rule 28 = .ok (.aload_n 0, 1) := by decide +kernel
theorem dX10_rule_29 : decode cX10_rule 29 = .ok (.getfield 87, 3) := by decide +kernel
theorem dX10_rule_32 : decode cX10_rule 32 = .ok (.iload_n 1, 1) := by decide +kernel
theorem dX10_rule_33 : decode cX10_rule 33 = .ok (.invokevirtual 202, 3) := by decide +kernel
theorem dX10_rule_36 : decode cX10_rule 36 = .ok (.istore_n 2, 1) := by decide +kernel
theorem dX10_rule_37 : decode cX10_rule 37 = .ok (.iload_n 2, 1) := by decide +kernel
theorem dX10_rule_38 : decode cX10_rule 38 = .ok (.iconst (-1), 1) := by decide +kernel
theorem dX10_rule_39 : decode cX10_rule 39 = .ok (.if_icmp .eq 7, 3) := by decide +kernel
theorem dX10_rule_42 : decode cX10_rule 42 = .ok (.iconst (-1), 1) := by decide +kernel
theorem dX10_rule_43 : decode cX10_rule 43 = .ok (.iload_n 2, 1) := by decide +kernel
theorem dX10_rule_44 : decode cX10_rule 44 = .ok (.isub, 1) := by decide +kernel
theorem dX10_rule_45 : decode cX10_rule 45 = .ok (.ireturn, 1) := by decide +kernel
theorem dX10_rule_46 : decode cX10_rule 46 = .ok (.aload_n 0, 1) := by decide +kernel
theorem dX10_rule_47 : decode cX10_rule 47 = .ok (.getfield 26, 3) := by decide +kernel
theorem dX10_rule_50 : decode cX10_rule 50 = .ok (.aload_n 0, 1) := by decide +kernel
theorem dX10_rule_51 : decode cX10_rule 51 = .ok (.getfield 33, 3) := by decide +kernel
theorem dX10_rule_54 : decode cX10_rule 54 = .ok (.getfield 206, 3) := by decide +kernel
theorem dX10_rule_57 : decode cX10_rule 57 = .ok (.aload_n 0, 1) := by decide +kernel
theorem dX10_rule_58 : decode cX10_rule 58 = .ok (.getfield 33, 3) := by decide +kernel
theorem dX10_rule_61 : decode cX10_rule 61 = .ok (.getfield 209, 3) := by decide +kernel
theorem dX10_rule_64 : decode cX10_rule 64 = .ok (.invokevirtual 210, 3) := by decide +kernel
theorem dX10_rule_67 : decode cX10_rule 67 = .ok (.iconst 0, 1) := by decide +kernel
theorem dX10_rule_68 : decode cX10_rule 68 = .ok (.ireturn, 1) := by decide +kernel
theorem dX11_rule_0 : decode cX11_rule 0 = .ok (.aload_n 0, 1) := by decide +kernel
theorem dX11_rule_1 : decode cX11_rule 1 = .ok (.iconst 0, 1) := by decide +kernel
theorem dX11_rule_2 : decode cX11_rule 2 = .ok (.putfield 3, 3) := by decide +kernel
theorem dX11_rule_5 : decode cX11_rule 5 = .ok (.aload_n 0, 1) := by decide +kernel
theorem dX11_rule_6 : decode cX11_rule 6 = .ok (.getfield 170, 3) := by decide +kernel
theorem dX11_rule_9 : decode cX11_rule 9 = .ok (.istore_n 1, 1) := by decide +kernel
theorem dX11_rule_10 : decode cX11_rule 10 = .ok (.aload_n 0, 1) := by decide +kernel
theorem dX11_rule_11 : decode cX11_rule 11 = .ok (.iconst 0, 1) := by decide +kernel
theorem dX11_rule_12 : decode cX11_rule 12 = .ok (.putfield 170, 3) := by decide +kernel
theorem dX11_rule_15 : decode cX11_rule 15 = .ok (.aload_n 0, 1) := by decide +kernel
theorem dX11_rule_16 : decode cX11_rule 16 = .ok (.iconst 0, 1) := by decide +kernel
theorem dX11_rule_17 : decode cX11_rule 17 = .ok (.putfield 176, 3) := by decide +kernel
theorem dX11_rule_20 : decode cX11_rule 20 = .ok (.aload_n 0, 1) := by decide +kernel
theorem dX11_rule_21 : decode cX11_rule 21 = .ok (.iconst 0, 1) := by decide +kernel
theorem dX11_rule_22 : decode cX11_rule 22 = .ok (.putfield 217, 3) := by decide +kernel
theorem dX11_rule_25 : decode cX11_rule 25 = .ok (.aload_n 0, 1) := by decide +kernel
theorem dX11_rule_26 : decode cX11_rule 26 = .ok (.iload_n 1, 1) := by decide +kernel
theorem dX11_rule_27 : decode cX11_rule 27 = .ok (.bipush 40, 2) := by decide +kernel
theorem dX11_rule_29 : decode cX11_rule 29 = .ok (.invokestatic 95, 3) := by decide +kernel
theorem dX11_rule_32 : decode cX11_rule 32 = .ok (.putfield 179, 3) := by decide +kernel
theorem dX11_rule_35 : decode cX11_rule 35 = .ok (.aload_n 0, 1) := by decide +kernel
theorem dX11_rule_36 : decode cX11_rule 36 = .ok (.getfield 199, 3) := by decide +kernel
theorem dX11_rule_39 : decode cX11_rule 39 = .ok (.iconst 1, 1) := by decide +kernel
theorem dX11_rule_40 : decode cX11_rule 40 = .ok (.iconst 0, 1) := by decide +kernel
theorem dX11_rule_41 : decode cX11_rule 41 = .ok (.iastore, 1) := by decide +kernel
theorem dX11_rule_42 : decode cX11_rule 42 = .ok (.iload_n 1, 1) := by decide +kernel
theorem dX11_rule_43 : decode cX11_rule 43 = .ok (.ifCond .ne 12, 3) := by decide +kernel
theorem dX11_rule_46 : decode cX11_rule 46 = .ok (.aload_n 0, 1) := by decide +kernel
theorem dX11_rule_47 : decode cX11_rule 47 = .ok (.getfield 199, 3) := by decide +kernel
theorem dX11_rule_50 : decode cX11_rule 50 = .ok (.iconst 0, 1) := by decide +kernel
theorem dX11_rule_51 : decode cX11_rule 51 = .ok (.iconst 0, 1) := by decide +kernel
theorem dX11_rule_52 : decode cX11_rule 52 = .ok (.iastore, 1) := by decide +kernel
theorem dX11_rule_53 : decode cX11_rule 53 = .ok (.iconst 0, 1) := by decide +kernel
theorem dX11_rule_54 : decode cX11_rule 54 = .ok (.ireturn, 1) := by decide +kernel
theorem dX11_rule_55 : decode cX11_rule 55 = .ok (.aload_n 0, 1) := by decide +kernel
theorem dX11_rule_56 : decode cX11_rule 56 = .ok (.iconst 0, 1) := by decide +kernel
theorem dX11_rule_57 : decode cX11_rule 57 = .ok (.invokevirtual 220, 3) := by decide +kernel
theorem dX11_rule_60 : decode cX11_rule 60 = .ok (.istore_n 2, 1) := by decide +kernel
theorem dX11_rule_61 : decode cX11_rule 61 = .ok (.iload_n 2, 1) := by decide +kernel
theorem dX11_rule_62 : decode cX11_rule 62 = .ok (.ifCond .eq 18, 3) := by decide +kernel
theorem dX11_rule_65 : decode cX11_rule 65 = .ok (.aload_n 0, 1) := by decide +kernel
theorem dX11_rule_66 : decode cX11_rule 66 = .ok (.getfield 176, 3) := by decide +kernel
theorem dX11_rule_69 : decode cX11_rule 69 = .ok (.aload_n 0, 1) := by decide +kernel
theorem dX11_rule_70 : decode cX11_rule 70 = .ok (.getfield 179, 3) := by decide +kernel
theorem dX11_rule_73 : decode cX11_rule 73 = .ok (.if_icmp .ne 7, 3) := by decide +kernel
theorem dX11_rule_76 : decode cX11_rule 76 = .ok (.iconst 1, 1) := by decide +kernel
theorem dX11_rule_77 : decode cX11_rule 77 = .ok (.goto 4, 3) := by decide +kernel
theorem dX11_rule_80 : decode cX11_rule 80 = .ok (.iconst 0, 1) := by decide +kernel
theorem dX11_rule_81 : decode cX11_rule 81 = .ok (.istore_n 3, 1) := by decide +kernel
theorem dX11_rule_82 : decode cX11_rule 82 = .ok (.iload_n 1, 1) := by decide +kernel
theorem dX11_rule_83 : decode cX11_rule 83 = .ok (.bipush 40, 2) := by decide +kernel
theorem dX11_rule_85 : decode cX11_rule 85 = .ok (.if_icmp .le 19, 3) := by decide +kernel
theorem dX11_rule_88 : decode cX11_rule 88 = .ok (.iload_n 3, 1) := by decide +kernel
theorem dX11_rule_89 : decode cX11_rule 89 = .ok (.ifCond .ne 12, 3) := by decide +kernel
theorem dX11_rule_92 : decode cX11_rule 92 = .ok (.aload_n 0, 1) := by decide +kernel
theorem dX11_rule_93 : decode cX11_rule 93 = .ok (.getfield 176, 3) := by decide +kernel
theorem dX11_rule_96 : decode cX11_rule 96 = .ok (.bipush 40, 2) := by decide +kernel
theorem dX11_rule_98 : decode cX11_rule 98 = .ok (.if_icmp .lt 6, 3) := by decide +kernel
theorem dX11_rule_101 : decode cX11_rule 101 = .ok (.bipush (-41), 2) := by decide +kernel
theorem dX11_rule_103 : decode cX11_rule 103 = .ok (.ireturn, 1) := by decide +kernel
theorem dX11_rule_104 : decode cX11_rule 104 = .ok (.iload_n 3, 1) := by decide +kernel
theorem dX11_rule_105 : decode cX11_rule 105 = .ok (.ifCond .ne 10, 3) := by decide +kernel
theorem dX11_rule_108 : decode cX11_rule 108 = .ok (.iconst (-1), 1) := by decide +kernel
theorem dX11_rule_109 : decode cX11_rule 109 = .ok (.aload_n 0, 1) := by decide +kernel
theorem dX11_rule_110 : decode cX11_rule 110 = .ok (.getfield 176, 3) := by decide +kernel
theorem dX11_rule_113 : decode cX11_rule 113 = .ok (.isub, 1) := by decide +kernel
theorem dX11_rule_114 : decode cX11_rule 114 = .ok (.ireturn, 1) := by decide +kernel
theorem dX11_rule_115 : decode cX11_rule 115 = .ok (.aload_n 0, 1) := by decide +kernel
theorem dX11_rule_116 : decode cX11_rule 116 = .ok (.getfield 199, 3) := by decide +kernel
theorem dX11_rule_119 : decode cX11_rule 119 = .ok (.iconst 0, 1) := by decide +kernel
theorem dX11_rule_120 : decode cX11_rule 120 = .ok (.aload_n 0, 1) := by decide +kernel
theorem dX11_rule_121 : decode cX11_rule 121 = .ok (.getfield 199, 3) := by decide +kernel
theorem dX11_rule_124 : decode cX11_rule 124 = .ok (.iconst 1, 1) := by decide +kernel
theorem dX11_rule_125 : decode cX11_rule 125 = .ok (.iaload, 1) := by decide +kernel
theorem dX11_rule_126 : decode cX11_rule 126 = .ok (.iastore, 1) := by decide +kernel
theorem dX11_rule_127 : decode cX11_rule 127 = .ok (.iconst 0, 1) := by decide +kernel
theorem dX11_rule_128 : decode cX11_rule 128 = .ok (.istore 4, 2) := by decide +kernel
theorem dX11_rule_130 : decode cX11_rule 130 = .ok (.iload 4, 2) := by decide +kernel
theorem dX11_rule_132 : decode cX11_rule 132 = .ok (.bipush 48, 2) := by decide +kernel
theorem dX11_rule_134 : decode cX11_rule 134 = .ok (.if_icmp .ge 26, 3) := by decide +kernel
theorem dX11_rule_137 : decode cX11_rule 137 = .ok (.aload_n 0, 1) := by decide +kernel
theorem dX11_rule_138 : decode cX11_rule 138 = .ok (.getfield 196, 3) := by decide +kernel
theorem dX11_rule_141 : decode cX11_rule 141 = .ok (.iload 4, 2) := by decide +kernel
theorem dX11_rule_143 : decode cX11_rule 143 = .ok (.aload_n 0, 1) := by decide +kernel
theorem dX11_rule_144 : decode cX11_rule 144 = .ok (.getfield 196, 3) := by decide +kernel
theorem dX11_rule_147 : decode cX11_rule 147 = .ok (.bipush 48, 2) := by decide +kernel
theorem dX11_rule_149 : decode cX11_rule 149 = .ok (.iload 4, 2) := by decide +kernel
theorem dX11_rule_151 : decode cX11_rule 151 = .ok (.iadd, 1) := by decide +kernel
theorem dX11_rule_152 : decode cX11_rule 152 = .ok (.iaload, 1) := by decide +kernel
theorem dX11_rule_153 : decode cX11_rule 153 = .ok (.iastore, 1) := by decide +kernel
theorem dX11_rule_154 : decode cX11_rule 154 = .ok (.iinc 4 1, 3) := by decide +kernel
theorem dX11_rule_157 : decode cX11_rule 157 = .ok (.goto (-27), 3) := by decide +kernel
theorem dX11_rule_160 : decode cX11_rule 160 = .ok (.iconst 0, 1) := by decide +kernel
theorem dX11_rule_161 : decode cX11_rule 161 = .ok (.ireturn, 1) := by decide +kernel
noncomputable def f_X6_takeThing_25 (fu : Nat) (s1 : Int32) (m : hM) : Option (Int32 × hM) :=
  hBd (f_X6_putPending fu s1 m) fun _ m3 =>
some (1, m3)
set_option maxRecDepth 100000 in
set_option maxHeartbeats 4000000 in
theorem r_X6_takeThing_25 {G : hG} {X : hX} (C : Cx G X 5 cX6_takeThing 2 RX6 (some .boolean)) (K : Cr G X) (Z : Cz G X) (fu : Nat) (s1 : Int32) (m : hM) : Rf vI G X 25 [] [.int s1, hA G 28] m (f_X6_takeThing_25 fu s1 m) := by
  unfold f_X6_takeThing_25
  refine rf_callVv C (n := 28) (c_X6_putPending G fu _ _) mw_RX6_56 ly_28 rfl ⟨by decide, by decide⟩ rfl (Nat.le_of_ble_eq_true rfl) rfl dX6_takeThing_25 rfl (fun _ m3 => ?_)
  refine rf_iconst C (n := 29) (v := 1) dX6_takeThing_28 rfl (by decide) ?_
  exact rf_zret C K (by decide) dX6_takeThing_29
noncomputable def f_X6_takeThing_12 (fu : Nat) (x1 : Int32) (m : hM) : Option (Int32 × hM) :=
  if ¬ x1 = 45 then (
f_X6_takeThing_25 fu x1 m) else (
f_X6_takeThing_25 fu 126 m)
set_option maxRecDepth 100000 in
set_option maxHeartbeats 4000000 in
theorem r_X6_takeThing_12 {G : hG} {X : hX} (C : Cx G X 5 cX6_takeThing 2 RX6 (some .boolean)) (K : Cr G X) (Z : Cz G X) (fu : Nat) (x1 : Int32) (m : hM) : Rf vI G X 12 [(0, hA G 28), (1, .int x1)] [] m (f_X6_takeThing_12 fu x1 m) := by
  unfold f_X6_takeThing_12
  refine rf_aload_n C (n := 13) (q := 0) dX6_takeThing_12 rfl rfl rfl ?_
  refine rf_iload_n C (n := 14) (q := 1) dX6_takeThing_13 rfl rfl rfl ?_
  refine rf_bipush C (n := 16) (v := 45) dX6_takeThing_14 rfl (by decide) ?_
  refine rf_icmp_ne C (tgt := 24) (n := 19) dX6_takeThing_16 (by decide) rfl (fun h2 => ?_) (fun h2 => ?_)
  · refine rf_iload_n C (n := 25) (q := 1) dX6_takeThing_24 rfl rfl rfl ?_
    exact rf_lv _ [] rfl (r_X6_takeThing_25 C K Z fu _ _)
  · refine rf_bipush C (n := 21) (v := 126) dX6_takeThing_19 rfl (by decide) ?_
    refine rf_goto C (n := 25) dX6_takeThing_21 (by decide) ?_
    exact rf_lv _ [] rfl (r_X6_takeThing_25 C K Z fu _ _)
noncomputable def f_X6_takeThing_92 (fu : Nat) (m : hM) : Option (Int32 × hM) :=
  hLet (sI m 28 6 0) fun m14 =>
some (1, m14)
set_option maxRecDepth 100000 in
set_option maxHeartbeats 4000000 in
theorem r_X6_takeThing_92 {G : hG} {X : hX} (C : Cx G X 5 cX6_takeThing 2 RX6 (some .boolean)) (K : Cr G X) (Z : Cz G X) (fu : Nat) (m : hM) : Rf vI G X 92 [(0, hA G 28)] [] m (f_X6_takeThing_92 fu m) := by
  unfold f_X6_takeThing_92
  refine rf_aload_n C (n := 93) (q := 0) dX6_takeThing_92 rfl rfl rfl ?_
  refine rf_iconst C (n := 94) (v := 0) dX6_takeThing_93 rfl (by decide) ?_
  refine rf_putI C (n := 97) pl_RX6_32 ly_28 rfl ⟨rfl, rfl⟩ dX6_takeThing_94 rfl ?_
  refine rf_letM (fun m14 => ?_)
  refine rf_iconst C (n := 98) (v := 1) dX6_takeThing_97 rfl (by decide) ?_
  exact rf_zret C K (by decide) dX6_takeThing_98
noncomputable def f_X6_takeThing (fu : Nat) (x1 : Int32) (m : hM) : Option (Int32 × hM) :=
  if x1 = 33 then (
f_X6_takeThing_12 fu x1 m) else (
if ¬ x1 = 45 then (
if ¬ x1 = 40 then (
hBd (f_X6_isDigit fu x1 m) fun y6 m7 =>
if y6 = 0 then (
hBd (f_J0_indexOf_0f7a4 fu 0 x1 m7) fun y9 m10 =>
if y9 < 0 then (
some (0, m10)) else (
hBd (f_X6_putCode fu (1000 + x1) m10) fun _ m12 =>
hLet (sI m12 28 7 0) fun m13 =>
f_X6_takeThing_92 fu m13)) else (
hBd (f_X6_putCode fu (x1 - 48) m7) fun _ m15 =>
hLet (sI m15 28 7 1) fun m16 =>
f_X6_takeThing_92 fu m16)) else (
hBd (f_X6_takeBracket fu m) fun y17 m18 =>
if y17 = 0 ∨ y17 = 1 then (
some (y17, m18)) else none)) else (
f_X6_takeThing_12 fu x1 m))
set_option maxRecDepth 100000 in
set_option maxHeartbeats 4000000 in
theorem c_X6_takeThing (G : hG) (fu : Nat) (x1 : Int32) (m : hM) : Mt2 vI G 5 yX6_takeThing cX6_takeThing 2 (some .boolean) [hA G 28, .int x1] m (f_X6_takeThing fu x1 m) := by
  refine mt2_of (by decide +kernel) (Nat.le_of_ble_eq_true rfl) (fun X C K Z => ?_)
  have C : Cx G X 5 cX6_takeThing 2 RX6 (some .boolean) := C
  show Rf vI G X 0 [(0, hA G 28), (1, .int x1)] [] m _
  unfold f_X6_takeThing
  refine rf_iload_n C (n := 1) (q := 1) dX6_takeThing_0 rfl rfl rfl ?_
  refine rf_bipush C (n := 3) (v := 33) dX6_takeThing_1 rfl (by decide) ?_
  refine rf_icmp_eq C (tgt := 12) (n := 6) dX6_takeThing_3 (by decide) rfl (fun h1 => ?_) (fun h1 => ?_)
  · exact rf_lv _ [0, 1] rfl (r_X6_takeThing_12 C K Z fu _ _)
  · refine rf_iload_n C (n := 7) (q := 1) dX6_takeThing_6 rfl rfl rfl ?_
    refine rf_bipush C (n := 9) (v := 45) dX6_takeThing_7 rfl (by decide) ?_
    refine rf_icmp_ne C (tgt := 30) (n := 12) dX6_takeThing_9 (by decide) rfl (fun h4 => ?_) (fun h4 => ?_)
    · refine rf_iload_n C (n := 31) (q := 1) dX6_takeThing_30 rfl rfl rfl ?_
      refine rf_bipush C (n := 33) (v := 40) dX6_takeThing_31 rfl (by decide) ?_
      refine rf_icmp_ne C (tgt := 41) (n := 36) dX6_takeThing_33 (by decide) rfl (fun h5 => ?_) (fun h5 => ?_)
      · refine rf_iload_n C (n := 42) (q := 1) dX6_takeThing_41 rfl rfl rfl ?_
        refine rf_callSi C (n := 45) (c_X6_isDigit G fu _ _) sw_RX6_63 ⟨by decide, by decide⟩ rfl (Nat.le_of_ble_eq_true rfl) rfl dX6_takeThing_42 rfl (fun y6 m7 => ?_)
        refine rf_if_eq C (tgt := 64) (n := 48) dX6_takeThing_45 (by decide) rfl (fun h8 => ?_) (fun h8 => ?_)
        · refine rz_ldcS C (n := 66) Z (i := 0) (tx := "klowrcsbqpfn") (by decide +kernel) dX6_takeThing_64 rfl ?_
          refine rf_iload_n C (n := 67) (q := 1) dX6_takeThing_66 rfl rfl rfl ?_
          refine rz_callTi C (n := 70) Z (c_J0_indexOf_0f7a4 G fu _ _ _) mw_RX6_71 (by decide) ⟨by decide, by decide⟩ rfl (Nat.le_of_ble_eq_true rfl) rfl dX6_takeThing_67 rfl (fun y9 m10 => ?_)
          refine rf_if_lt C (tgt := 90) (n := 73) dX6_takeThing_70 (by decide) rfl (fun h11 => ?_) (fun h11 => ?_)
          · refine rf_iconst C (n := 91) (v := 0) dX6_takeThing_90 rfl (by decide) ?_
            exact rf_zret C K (by decide) dX6_takeThing_91
          · refine rf_aload_n C (n := 74) (q := 0) dX6_takeThing_73 rfl rfl rfl ?_
            refine rf_sipush C (n := 77) (v := 1000) dX6_takeThing_74 rfl (by decide) ?_
            refine rf_iload_n C (n := 78) (q := 1) dX6_takeThing_77 rfl rfl rfl ?_
            refine rf_iadd C (n := 79) dX6_takeThing_78 rfl ?_
            refine rf_callVv C (n := 82) (c_X6_putCode G fu _ _) mw_RX6_66 ly_28 rfl ⟨by decide, by decide⟩ rfl (Nat.le_of_ble_eq_true rfl) rfl dX6_takeThing_79 rfl (fun _ m12 => ?_)
            refine rf_aload_n C (n := 83) (q := 0) dX6_takeThing_82 rfl rfl rfl ?_
            refine rf_iconst C (n := 84) (v := 0) dX6_takeThing_83 rfl (by decide) ?_
            refine rf_putI C (n := 87) pl_RX6_36 ly_28 rfl ⟨rfl, rfl⟩ dX6_takeThing_84 rfl ?_
            refine rf_letM (fun m13 => ?_)
            refine rf_goto C (n := 92) dX6_takeThing_87 (by decide) ?_
            exact rf_lv _ [0] rfl (r_X6_takeThing_92 C K Z fu _)
        · refine rf_aload_n C (n := 49) (q := 0) dX6_takeThing_48 rfl rfl rfl ?_
          refine rf_iload_n C (n := 50) (q := 1) dX6_takeThing_49 rfl rfl rfl ?_
          refine rf_bipush C (n := 52) (v := 48) dX6_takeThing_50 rfl (by decide) ?_
          refine rf_isub C (n := 53) dX6_takeThing_52 rfl ?_
          refine rf_callVv C (n := 56) (c_X6_putCode G fu _ _) mw_RX6_66 ly_28 rfl ⟨by decide, by decide⟩ rfl (Nat.le_of_ble_eq_true rfl) rfl dX6_takeThing_53 rfl (fun _ m15 => ?_)
          refine rf_aload_n C (n := 57) (q := 0) dX6_takeThing_56 rfl rfl rfl ?_
          refine rf_iconst C (n := 58) (v := 1) dX6_takeThing_57 rfl (by decide) ?_
          refine rf_putI C (n := 61) pl_RX6_36 ly_28 rfl ⟨rfl, rfl⟩ dX6_takeThing_58 rfl ?_
          refine rf_letM (fun m16 => ?_)
          refine rf_goto C (n := 92) dX6_takeThing_61 (by decide) ?_
          exact rf_lv _ [0] rfl (r_X6_takeThing_92 C K Z fu _)
      · refine rf_aload_n C (n := 37) (q := 0) dX6_takeThing_36 rfl rfl rfl ?_
        refine rf_callVi C (n := 40) (c_X6_takeBracket G fu _) mw_RX6_59 ly_28 rfl ⟨by decide, by decide⟩ rfl (Nat.le_of_ble_eq_true rfl) rfl dX6_takeThing_37 rfl (fun y17 m18 => ?_)
        refine rf_guard (fun h19 => ?_)
        exact rf_zret C K (hz_bool h19).1 dX6_takeThing_40
    · exact rf_lv _ [0, 1] rfl (r_X6_takeThing_12 C K Z fu _ _)
noncomputable def f_X6_read_95 (fu : Nat) (x2 : Int32) (x3 : Int32) (m : hM) : Option (Int32 × hM) :=
  if 40 < x2 then (
some (x3, m)) else (
if ¬ (gI m 28 6) = 0 then (
some (x3, m)) else (
if (gI m 28 4) ≤ 0 then (
hBd (f_X6_closeDownTo fu 0 m) fun _ m15 =>
some ((-1), m15)) else (
some (x3, m))))
set_option maxRecDepth 100000 in
set_option maxHeartbeats 4000000 in
theorem r_X6_read_95 {G : hG} {X : hX} (C : Cx G X 6 cX6_read 6 RX6 (some .int)) (K : Cr G X) (Z : Cz G X) (fu : Nat) (x2 : Int32) (x3 : Int32) (m : hM) : Rf vI G X 95 [(0, hA G 28), (2, .int x2), (3, .int x3)] [] m (f_X6_read_95 fu x2 x3 m) := by
  unfold f_X6_read_95
  refine rf_iload_n C (n := 96) (q := 1) dX6_read_95 rfl rfl rfl ?_
  refine rf_bipush C (n := 98) (v := 40) dX6_read_96 rfl (by decide) ?_
  refine rf_icmp_gt C (tgt := 115) (n := 101) dX6_read_98 (by decide) rfl (fun h12 => ?_) (fun h12 => ?_)
  · refine rf_iload_n C (n := 116) (q := 2) dX6_read_115 rfl rfl rfl ?_
    exact rf_iret C K dX6_read_116
  · refine rf_aload_n C (n := 102) (q := 0) dX6_read_101 rfl rfl rfl ?_
    refine rf_getI C (n := 105) fl_RX6_32 ly_28 rfl dX6_read_102 rfl ?_
    refine rf_if_ne C (tgt := 115) (n := 108) dX6_read_105 (by decide) rfl (fun h13 => ?_) (fun h13 => ?_)
    · refine rf_iload_n C (n := 116) (q := 2) dX6_read_115 rfl rfl rfl ?_
      exact rf_iret C K dX6_read_116
    · refine rf_aload_n C (n := 109) (q := 0) dX6_read_108 rfl rfl rfl ?_
      refine rf_getI C (n := 112) fl_RX6_25 ly_28 rfl dX6_read_109 rfl ?_
      refine rf_if_le C (tgt := 117) (n := 115) dX6_read_112 (by decide) rfl (fun h14 => ?_) (fun h14 => ?_)
      · refine rf_aload_n C (n := 118) (q := 0) dX6_read_117 rfl rfl rfl ?_
        refine rf_iconst C (n := 119) (v := 0) dX6_read_118 rfl (by decide) ?_
        refine rf_callVv C (n := 122) (c_X6_closeDownTo G fu _ _) mw_RX6_52 ly_28 rfl ⟨by decide, by decide⟩ rfl (Nat.le_of_ble_eq_true rfl) rfl dX6_read_119 rfl (fun _ m15 => ?_)
        refine rf_iconst C (n := 123) (v := (-1)) dX6_read_122 rfl (by decide) ?_
        exact rf_iret C K dX6_read_123
      · refine rf_iload_n C (n := 116) (q := 2) dX6_read_115 rfl rfl rfl ?_
        exact rf_iret C K dX6_read_116
noncomputable def f_X6_read_79 (fu : Nat) (k47 : Int32 → Int32 → Int32 → hM → Option (Int32 × hM)) (x2 : Int32) (x3 : Int32) (x4 : Int32) (s0 : Int32) (m : hM) : Option (Int32 × hM) :=
  if ¬ s0 = 0 then (
hLet (x4 + 1) fun y21 =>
k47 x2 x3 y21 m) else (
some (x4, m))
set_option maxRecDepth 100000 in
set_option maxHeartbeats 4000000 in
theorem r_X6_read_79 {G : hG} {X : hX} (C : Cx G X 6 cX6_read 6 RX6 (some .int)) (K : Cr G X) (Z : Cz G X) (fu : Nat) (k47 : Int32 → Int32 → Int32 → hM → Option (Int32 × hM)) (hk47 : ∀ (x2 : Int32) (x3 : Int32) (x4 : Int32) (m : hM), Rf vI G X 47 [(0, hA G 28), (1, hA G 68), (2, .int x2), (3, .int x3), (4, .int x4)] [] m (k47 x2 x3 x4 m)) (x2 : Int32) (x3 : Int32) (x4 : Int32) (s0 : Int32) (m : hM) : Rf vI G X 79 [(0, hA G 28), (1, hA G 68), (2, .int x2), (3, .int x3), (4, .int x4)] [.int s0] m (f_X6_read_79 fu k47 x2 x3 x4 s0 m) := by
  unfold f_X6_read_79
  refine rf_istore C (n := 81) [(5, .int s0), (0, hA G 28), (1, hA G 68), (2, .int x2), (3, .int x3), (4, .int x4)] dX6_read_79 rfl (by decide) rfl ?_
  refine rf_iload C (n := 83) (q := 0) dX6_read_81 rfl rfl ?_
  refine rf_if_ne C (tgt := 89) (n := 86) dX6_read_83 (by decide) rfl (fun h20 => ?_) (fun h20 => ?_)
  · refine rf_iinc2 C (n := 92) (q := 5) (fun y21 => [(4, .int y21), (5, .int s0), (0, hA G 28), (1, hA G 68), (2, .int x2), (3, .int x3)]) dX6_read_89 rfl rfl (by decide) (by decide) (fun _ => rfl) (fun y21 => ?_)
    refine rf_goto C (n := 47) dX6_read_92 (by decide) ?_
    exact rf_lv _ [2, 3, 4, 5, 0] rfl (hk47 _ _ _ _)
  · refine rf_iload C (n := 88) (q := 5) dX6_read_86 rfl rfl ?_
    exact rf_iret C K dX6_read_88
noncomputable def s_X6_read_47 (fu : Nat) (ih : Int32 → Int32 → Int32 → hM → Option (Int32 × hM)) (x2 : Int32) (x3 : Int32) (x4 : Int32) (m : hM) : Option (Int32 × hM) :=
  if x3 ≤ x4 then (
f_X6_read_95 fu x2 x3 m) else (
if (gI m 28 6) = 0 then (
if hIn x4 60 then (
hBd (f_X6_takeBehindThing fu (gI m 68 (Int32.toNatClampNeg x4)) m) fun y18 m19 =>
f_X6_read_79 fu ih x2 x3 x4 y18 m19) else none) else (
if hIn x4 60 then (
hBd (f_X6_takeThing fu (gI m 68 (Int32.toNatClampNeg x4)) m) fun y23 m24 =>
f_X6_read_79 fu ih x2 x3 x4 y23 m24) else none))
noncomputable def f_X6_read_47 (fu : Nat) (n : Nat) : Int32 → Int32 → Int32 → hM → Option (Int32 × hM) :=
  Nat.rec (motive := fun _ => Int32 → Int32 → Int32 → hM → Option (Int32 × hM)) (fun _ _ _ _ => none) (fun _ ih => s_X6_read_47 fu ih) n
theorem f_X6_read_47_s (fu : Nat) (n : Nat) (x2 : Int32) (x3 : Int32) (x4 : Int32) (m : hM) : f_X6_read_47 fu (n + 1) x2 x3 x4 m = s_X6_read_47 fu (f_X6_read_47 fu n) x2 x3 x4 m := rfl
set_option maxRecDepth 100000 in
set_option maxHeartbeats 4000000 in
theorem r_X6_read_47 {G : hG} {X : hX} (C : Cx G X 6 cX6_read 6 RX6 (some .int)) (K : Cr G X) (Z : Cz G X) (fu : Nat) (n : Nat) : ∀ (x2 : Int32) (x3 : Int32) (x4 : Int32) (m : hM), Rf vI G X 47 [(0, hA G 28), (1, hA G 68), (2, .int x2), (3, .int x3), (4, .int x4)] [] m (f_X6_read_47 fu n x2 x3 x4 m) := by
  induction n with
  | zero => intros; exact rf_none
  | succ n ih =>
    intro x2 x3 x4 m
    show Rf vI G X 47 [(0, hA G 28), (1, hA G 68), (2, .int x2), (3, .int x3), (4, .int x4)] [] m (s_X6_read_47 fu (f_X6_read_47 fu n) x2 x3 x4 m)
    unfold s_X6_read_47
    refine rf_iload C (n := 49) (q := 4) dX6_read_47 rfl rfl ?_
    refine rf_iload_n C (n := 50) (q := 3) dX6_read_49 rfl rfl rfl ?_
    refine rf_icmp_ge C (tgt := 95) (n := 53) dX6_read_50 (by decide) rfl (fun h11 => ?_) (fun h11 => ?_)
    · exact rf_lv _ [0, 2, 3] rfl (r_X6_read_95 C K Z fu _ _ _)
    · refine rf_aload_n C (n := 54) (q := 0) dX6_read_53 rfl rfl rfl ?_
      refine rf_getI C (n := 57) fl_RX6_32 ly_28 rfl dX6_read_54 rfl ?_
      refine rf_if_eq C (tgt := 71) (n := 60) dX6_read_57 (by decide) rfl (fun h16 => ?_) (fun h16 => ?_)
      · refine rf_aload_n C (n := 72) (q := 0) dX6_read_71 rfl rfl rfl ?_
        refine rf_aload_n C (n := 73) (q := 1) dX6_read_72 rfl rfl rfl ?_
        refine rf_iload C (n := 75) (q := 4) dX6_read_73 rfl rfl ?_
        refine rf_guard (fun h17 => ?_)
        refine rf_cald C (n := 76) ly_68 h17 rfl dX6_read_75 rfl ?_
        refine rf_callVi C (n := 79) (c_X6_takeBehindThing G fu _ _) mw_RX6_49 ly_28 rfl ⟨by decide, by decide⟩ rfl (Nat.le_of_ble_eq_true rfl) rfl dX6_read_76 rfl (fun y18 m19 => ?_)
        exact rf_lv _ [0, 1, 2, 3, 4] rfl (r_X6_read_79 C K Z fu _ ih _ _ _ _ _)
      · refine rf_aload_n C (n := 61) (q := 0) dX6_read_60 rfl rfl rfl ?_
        refine rf_aload_n C (n := 62) (q := 1) dX6_read_61 rfl rfl rfl ?_
        refine rf_iload C (n := 64) (q := 4) dX6_read_62 rfl rfl ?_
        refine rf_guard (fun h22 => ?_)
        refine rf_cald C (n := 65) ly_68 h22 rfl dX6_read_64 rfl ?_
        refine rz_callVi C (n := 68) Z (c_X6_takeThing G fu _ _) mw_RX6_45 ly_28 rfl ⟨by decide, by decide⟩ rfl (Nat.le_of_ble_eq_true rfl) rfl dX6_read_65 rfl (fun y23 m24 => ?_)
        refine rf_goto C (n := 79) dX6_read_68 (by decide) ?_
        exact rf_lv _ [0, 1, 2, 3, 4] rfl (r_X6_read_79 C K Z fu _ ih _ _ _ _ _)
noncomputable def f_X6_read (fu : Nat) (x2 : Int32) (m : hM) : Option (Int32 × hM) :=
  hLet (sI m 28 1 0) fun m1 =>
hLet (sI m1 28 3 0) fun m2 =>
hLet (sI m2 28 4 0) fun m3 =>
hLet (sI m3 31 0 (vp_nar .boolean 0)) fun m4 =>
hLet (sI m4 28 6 1) fun m5 =>
hLet (sI m5 28 7 0) fun m6 =>
hBd (f_J9_min_7cf53 fu x2 40 m6) fun y7 m8 =>
hBd (f_J9_min_7cf53 fu y7 60 m8) fun y9 m10 =>
f_X6_read_47 fu fu x2 y9 0 m10
set_option maxRecDepth 100000 in
set_option maxHeartbeats 4000000 in
theorem c_X6_read (G : hG) (fu : Nat) (x2 : Int32) (m : hM) : Mt2 vI G 6 yX6_read cX6_read 6 (some .int) [hA G 28, hA G 68, .int x2] m (f_X6_read fu x2 m) := by
  refine mt2_of (by decide +kernel) (Nat.le_of_ble_eq_true rfl) (fun X C K Z => ?_)
  have C : Cx G X 6 cX6_read 6 RX6 (some .int) := C
  show Rf vI G X 0 [(0, hA G 28), (1, hA G 68), (2, .int x2)] [] m _
  unfold f_X6_read
  refine rf_aload_n C (n := 1) (q := 0) dX6_read_0 rfl rfl rfl ?_
  refine rf_iconst C (n := 2) (v := 0) dX6_read_1 rfl (by decide) ?_
  refine rf_putI C (n := 5) pl_RX6_15 ly_28 rfl ⟨rfl, rfl⟩ dX6_read_2 rfl ?_
  refine rf_letM (fun m1 => ?_)
  refine rf_aload_n C (n := 6) (q := 0) dX6_read_5 rfl rfl rfl ?_
  refine rf_iconst C (n := 7) (v := 0) dX6_read_6 rfl (by decide) ?_
  refine rf_putI C (n := 10) pl_RX6_22 ly_28 rfl ⟨rfl, rfl⟩ dX6_read_7 rfl ?_
  refine rf_letM (fun m2 => ?_)
  refine rf_aload_n C (n := 11) (q := 0) dX6_read_10 rfl rfl rfl ?_
  refine rf_iconst C (n := 12) (v := 0) dX6_read_11 rfl (by decide) ?_
  refine rf_putI C (n := 15) pl_RX6_25 ly_28 rfl ⟨rfl, rfl⟩ dX6_read_12 rfl ?_
  refine rf_letM (fun m3 => ?_)
  refine rf_aload_n C (n := 16) (q := 0) dX6_read_15 rfl rfl rfl ?_
  refine rf_getS C (n := 19) fl_RX6_28 ly_28 rfl dX6_read_16 rfl ?_
  refine rf_iconst C (n := 20) (v := 0) dX6_read_19 rfl (by decide) ?_
  refine rf_iconst C (n := 21) (v := 0) dX6_read_20 rfl (by decide) ?_
  refine rf_zast C (n := 22) (j0 := 0) ly_31 (by decide) (by decide) dX6_read_21 rfl ?_
  refine rf_letM (fun m4 => ?_)
  refine rf_aload_n C (n := 23) (q := 0) dX6_read_22 rfl rfl rfl ?_
  refine rf_iconst C (n := 24) (v := 1) dX6_read_23 rfl (by decide) ?_
  refine rf_putI C (n := 27) pl_RX6_32 ly_28 rfl ⟨rfl, rfl⟩ dX6_read_24 rfl ?_
  refine rf_letM (fun m5 => ?_)
  refine rf_aload_n C (n := 28) (q := 0) dX6_read_27 rfl rfl rfl ?_
  refine rf_iconst C (n := 29) (v := 0) dX6_read_28 rfl (by decide) ?_
  refine rf_putI C (n := 32) pl_RX6_36 ly_28 rfl ⟨rfl, rfl⟩ dX6_read_29 rfl ?_
  refine rf_letM (fun m6 => ?_)
  refine rf_iload_n C (n := 33) (q := 2) dX6_read_32 rfl rfl rfl ?_
  refine rf_bipush C (n := 35) (v := 40) dX6_read_33 rfl (by decide) ?_
  refine rf_callSi C (n := 38) (c_J9_min_7cf53 G fu _ _ _) sw_RX6_39 ⟨by decide, by decide⟩ rfl (Nat.le_of_ble_eq_true rfl) rfl dX6_read_35 rfl (fun y7 m8 => ?_)
  refine rf_aload_n C (n := 39) (q := 1) dX6_read_38 rfl rfl rfl ?_
  refine rf_alen C (n := 40) (v := 60) ly_68 (by decide) (by decide) dX6_read_39 rfl ?_
  refine rf_callSi C (n := 43) (c_J9_min_7cf53 G fu _ _ _) sw_RX6_39 ⟨by decide, by decide⟩ rfl (Nat.le_of_ble_eq_true rfl) rfl dX6_read_40 rfl (fun y9 m10 => ?_)
  refine rf_istore_n C (n := 44) [(3, .int y9), (0, hA G 28), (1, hA G 68), (2, .int x2)] dX6_read_43 rfl rfl (by decide) rfl ?_
  refine rf_iconst C (n := 45) (v := 0) dX6_read_44 rfl (by decide) ?_
  refine rf_istore C (n := 47) [(4, .int 0), (3, .int y9), (0, hA G 28), (1, hA G 68), (2, .int x2)] dX6_read_45 rfl (by decide) rfl ?_
  exact rf_lv _ [2, 3, 4, 1, 0] rfl (r_X6_read_47 C K Z fu fu _ _ _ _)
noncomputable def f_X10_rule (fu : Nat) (m : hM) : Option (Int32 × hM) :=
  hLet (gI m 0 13) fun y1 =>
hLet (sI m 0 13 0) fun m2 =>
if ¬ y1 = 0 then (
hBd (f_X6_read fu y1 m2) fun y4 m5 =>
if y4 = (-1) then (
hBd (f_X5_take fu (gI m5 28 1) m5) fun _ m7 =>
some (0, m7)) else (
some ((-1) - y4, m5))) else (
hLet (sI m2 25 1 0) fun m8 =>
some (0, m8))
set_option maxRecDepth 100000 in
set_option maxHeartbeats 4000000 in
theorem c_X10_rule (G : hG) (fu : Nat) (m : hM) : Mt2 vI G 7 yX10_rule cX10_rule 3 (some .int) [hA G 0] m (f_X10_rule fu m) := by
  refine mt2_of (by decide +kernel) (Nat.le_of_ble_eq_true rfl) (fun X C K Z => ?_)
  have C : Cx G X 7 cX10_rule 3 RX10 (some .int) := C
  show Rf vI G X 0 [(0, hA G 0)] [] m _
  unfold f_X10_rule
  refine rf_aload_n C (n := 1) (q := 0) dX10_rule_0 rfl rfl rfl ?_
  refine rf_getI C (n := 4) fl_RX10_91 ly_0 rfl dX10_rule_1 rfl ?_
  refine rf_letI (fun y1 => ?_)
  refine rf_istore_n C (n := 5) [(1, .int y1), (0, hA G 0)] dX10_rule_4 rfl rfl (by decide) rfl ?_
  refine rf_aload_n C (n := 6) (q := 1) dX10_rule_5 rfl rfl rfl ?_
  refine rf_iconst C (n := 7) (v := 0) dX10_rule_6 rfl (by decide) ?_
  refine rf_putI C (n := 10) pl_RX10_91 ly_0 rfl ⟨rfl, rfl⟩ dX10_rule_7 rfl ?_
  refine rf_letM (fun m2 => ?_)
  refine rf_iload_n C (n := 11) (q := 0) dX10_rule_10 rfl rfl rfl ?_
  refine rf_if_ne C (tgt := 24) (n := 14) dX10_rule_11 (by decide) rfl (fun h3 => ?_) (fun h3 => ?_)
  · refine rf_aload_n C (n := 25) (q := 1) dX10_rule_24 rfl rfl rfl ?_
    refine rf_getS C (n := 28) fl_RX10_33 ly_0 rfl dX10_rule_25 rfl ?_
    refine rf_aload_n C (n := 29) (q := 1) dX10_rule_28 rfl rfl rfl ?_
    refine rf_getS C (n := 32) fl_RX10_87 ly_0 rfl dX10_rule_29 rfl ?_
    refine rf_iload_n C (n := 33) (q := 0) dX10_rule_32 rfl rfl rfl ?_
    refine rz_callVi C (n := 36) Z (c_X6_read G fu _ _) mw_RX10_202 ly_28 rfl ⟨by decide, by decide⟩ rfl (Nat.le_of_ble_eq_true rfl) rfl dX10_rule_33 rfl (fun y4 m5 => ?_)
    refine rf_istore_n C (n := 37) [(2, .int y4), (1, .int y1), (0, hA G 0)] dX10_rule_36 rfl rfl (by decide) rfl ?_
    refine rf_iload_n C (n := 38) (q := 0) dX10_rule_37 rfl rfl rfl ?_
    refine rf_iconst C (n := 39) (v := (-1)) dX10_rule_38 rfl (by decide) ?_
    refine rf_icmp_eq C (tgt := 46) (n := 42) dX10_rule_39 (by decide) rfl (fun h6 => ?_) (fun h6 => ?_)
    · refine rf_aload_n C (n := 47) (q := 2) dX10_rule_46 rfl rfl rfl ?_
      refine rf_getS C (n := 50) fl_RX10_26 ly_0 rfl dX10_rule_47 rfl ?_
      refine rf_aload_n C (n := 51) (q := 2) dX10_rule_50 rfl rfl rfl ?_
      refine rf_getS C (n := 54) fl_RX10_33 ly_0 rfl dX10_rule_51 rfl ?_
      refine rf_getS C (n := 57) fl_RX10_206 ly_28 rfl dX10_rule_54 rfl ?_
      refine rf_aload_n C (n := 58) (q := 2) dX10_rule_57 rfl rfl rfl ?_
      refine rf_getS C (n := 61) fl_RX10_33 ly_0 rfl dX10_rule_58 rfl ?_
      refine rf_getI C (n := 64) fl_RX10_209 ly_28 rfl dX10_rule_61 rfl ?_
      refine rf_callVv C (n := 67) (c_X5_take G fu _ _) mw_RX10_210 ly_25 rfl ⟨by decide, by decide⟩ rfl (Nat.le_of_ble_eq_true rfl) rfl dX10_rule_64 rfl (fun _ m7 => ?_)
      refine rf_iconst C (n := 68) (v := 0) dX10_rule_67 rfl (by decide) ?_
      exact rf_iret C K dX10_rule_68
    · refine rf_iconst C (n := 43) (v := (-1)) dX10_rule_42 rfl (by decide) ?_
      refine rf_iload_n C (n := 44) (q := 0) dX10_rule_43 rfl rfl rfl ?_
      refine rf_isub C (n := 45) dX10_rule_44 rfl ?_
      exact rf_iret C K dX10_rule_45
  · refine rf_aload_n C (n := 15) (q := 1) dX10_rule_14 rfl rfl rfl ?_
    refine rf_getS C (n := 18) fl_RX10_26 ly_0 rfl dX10_rule_15 rfl ?_
    refine rf_iconst C (n := 19) (v := 0) dX10_rule_18 rfl (by decide) ?_
    refine rf_putI C (n := 22) pl_RX10_200 ly_25 rfl ⟨rfl, rfl⟩ dX10_rule_19 rfl ?_
    refine rf_letM (fun m8 => ?_)
    refine rf_iconst C (n := 23) (v := 0) dX10_rule_22 rfl (by decide) ?_
    exact rf_iret C K dX10_rule_23
noncomputable def s_X11_rule_130 (fu : Nat) (ih : Int32 → hM → Option (Int32 × hM)) (x4 : Int32) (m : hM) : Option (Int32 × hM) :=
  if 48 ≤ x4 then (
some (0, m)) else (
if hIn (48 + x4) 96 then (
if hIn x4 96 then (
hLet (sI m 116 (Int32.toNatClampNeg x4) (gI m 116 (Int32.toNatClampNeg (48 + x4)))) fun m20 =>
hLet (x4 + 1) fun y21 =>
ih y21 m20) else none) else none)
noncomputable def f_X11_rule_130 (fu : Nat) (n : Nat) : Int32 → hM → Option (Int32 × hM) :=
  Nat.rec (motive := fun _ => Int32 → hM → Option (Int32 × hM)) (fun _ _ => none) (fun _ ih => s_X11_rule_130 fu ih) n
theorem f_X11_rule_130_s (fu : Nat) (n : Nat) (x4 : Int32) (m : hM) : f_X11_rule_130 fu (n + 1) x4 m = s_X11_rule_130 fu (f_X11_rule_130 fu n) x4 m := rfl
set_option maxRecDepth 100000 in
set_option maxHeartbeats 4000000 in
theorem r_X11_rule_130 {G : hG} {X : hX} (C : Cx G X 181 cX11_rule 5 RX11 (some .int)) (K : Cr G X) (Z : Cz G X) (fu : Nat) (n : Nat) : ∀ (x4 : Int32) (m : hM), Rf vI G X 130 [(0, hA G 96), (4, .int x4)] [] m (f_X11_rule_130 fu n x4 m) := by
  induction n with
  | zero => intros; exact rf_none
  | succ n ih =>
    intro x4 m
    show Rf vI G X 130 [(0, hA G 96), (4, .int x4)] [] m (s_X11_rule_130 fu (f_X11_rule_130 fu n) x4 m)
    unfold s_X11_rule_130
    refine rf_iload C (n := 132) (q := 1) dX11_rule_130 rfl rfl ?_
    refine rf_bipush C (n := 134) (v := 48) dX11_rule_132 rfl (by decide) ?_
    refine rf_icmp_ge C (tgt := 160) (n := 137) dX11_rule_134 (by decide) rfl (fun h17 => ?_) (fun h17 => ?_)
    · refine rf_iconst C (n := 161) (v := 0) dX11_rule_160 rfl (by decide) ?_
      exact rf_iret C K dX11_rule_161
    · refine rf_aload_n C (n := 138) (q := 0) dX11_rule_137 rfl rfl rfl ?_
      refine rf_getS C (n := 141) fl_RX11_196 ly_96 rfl dX11_rule_138 rfl ?_
      refine rf_iload C (n := 143) (q := 1) dX11_rule_141 rfl rfl ?_
      refine rf_aload_n C (n := 144) (q := 0) dX11_rule_143 rfl rfl rfl ?_
      refine rf_getS C (n := 147) fl_RX11_196 ly_96 rfl dX11_rule_144 rfl ?_
      refine rf_bipush C (n := 149) (v := 48) dX11_rule_147 rfl (by decide) ?_
      refine rf_iload C (n := 151) (q := 1) dX11_rule_149 rfl rfl ?_
      refine rf_iadd C (n := 152) dX11_rule_151 rfl ?_
      refine rf_guard (fun h18 => ?_)
      refine rf_iald C (n := 153) ly_116 h18 rfl dX11_rule_152 rfl ?_
      refine rf_guard (fun h19 => ?_)
      refine rf_iast C (n := 154) ly_116 h19 rfl dX11_rule_153 rfl ?_
      refine rf_letM (fun m20 => ?_)
      refine rf_iinc2 C (n := 157) (q := 1) (fun y21 => [(4, .int y21), (0, hA G 96)]) dX11_rule_154 rfl rfl (by decide) (by decide) (fun _ => rfl) (fun y21 => ?_)
      refine rf_goto C (n := 130) dX11_rule_157 (by decide) ?_
      exact rf_lv _ [1, 0] rfl (ih _ _)
noncomputable def f_X11_rule_104 (fu : Nat) (x3 : Int32) (m : hM) : Option (Int32 × hM) :=
  if ¬ x3 = 0 then (
hLet (sI m 117 0 (gI m 117 1)) fun m16 =>
f_X11_rule_130 fu fu 0 m16) else (
some ((-1) - (gI m 96 30), m))
set_option maxRecDepth 100000 in
set_option maxHeartbeats 4000000 in
theorem r_X11_rule_104 {G : hG} {X : hX} (C : Cx G X 181 cX11_rule 5 RX11 (some .int)) (K : Cr G X) (Z : Cz G X) (fu : Nat) (x3 : Int32) (m : hM) : Rf vI G X 104 [(0, hA G 96), (3, .int x3)] [] m (f_X11_rule_104 fu x3 m) := by
  unfold f_X11_rule_104
  refine rf_iload_n C (n := 105) (q := 1) dX11_rule_104 rfl rfl rfl ?_
  refine rf_if_ne C (tgt := 115) (n := 108) dX11_rule_105 (by decide) rfl (fun h15 => ?_) (fun h15 => ?_)
  · refine rf_aload_n C (n := 116) (q := 0) dX11_rule_115 rfl rfl rfl ?_
    refine rf_getS C (n := 119) fl_RX11_199 ly_96 rfl dX11_rule_116 rfl ?_
    refine rf_iconst C (n := 120) (v := 0) dX11_rule_119 rfl (by decide) ?_
    refine rf_aload_n C (n := 121) (q := 0) dX11_rule_120 rfl rfl rfl ?_
    refine rf_getS C (n := 124) fl_RX11_199 ly_96 rfl dX11_rule_121 rfl ?_
    refine rf_iconst C (n := 125) (v := 1) dX11_rule_124 rfl (by decide) ?_
    refine rf_iald C (n := 126) (j := 1) ly_117 (by decide) (by decide) dX11_rule_125 rfl ?_
    refine rf_iast C (n := 127) (j0 := 0) ly_117 (by decide) (by decide) dX11_rule_126 rfl ?_
    refine rf_letM (fun m16 => ?_)
    refine rf_iconst C (n := 128) (v := 0) dX11_rule_127 rfl (by decide) ?_
    refine rf_istore C (n := 130) [(4, .int 0), (0, hA G 96), (3, .int x3)] dX11_rule_128 rfl (by decide) rfl ?_
    exact rf_lv _ [1, 0] rfl (r_X11_rule_130 C K Z fu fu _ _)
  · refine rf_iconst C (n := 109) (v := (-1)) dX11_rule_108 rfl (by decide) ?_
    refine rf_aload_n C (n := 110) (q := 0) dX11_rule_109 rfl rfl rfl ?_
    refine rf_getI C (n := 113) fl_RX11_176 ly_96 rfl dX11_rule_110 rfl ?_
    refine rf_isub C (n := 114) dX11_rule_113 rfl ?_
    exact rf_iret C K dX11_rule_114
noncomputable def f_X11_rule_81 (fu : Nat) (x1 : Int32) (s0 : Int32) (m : hM) : Option (Int32 × hM) :=
  if x1 ≤ 40 then (
f_X11_rule_104 fu s0 m) else (
if ¬ s0 = 0 then (
some ((-41), m)) else (
if (gI m 96 30) < 40 then (
f_X11_rule_104 fu s0 m) else (
some ((-41), m))))
set_option maxRecDepth 100000 in
set_option maxHeartbeats 4000000 in
theorem r_X11_rule_81 {G : hG} {X : hX} (C : Cx G X 181 cX11_rule 5 RX11 (some .int)) (K : Cr G X) (Z : Cz G X) (fu : Nat) (x1 : Int32) (s0 : Int32) (m : hM) : Rf vI G X 81 [(0, hA G 96), (1, .int x1)] [.int s0] m (f_X11_rule_81 fu x1 s0 m) := by
  unfold f_X11_rule_81
  refine rf_istore_n C (n := 82) [(3, .int s0), (0, hA G 96), (1, .int x1)] dX11_rule_81 rfl rfl (by decide) rfl ?_
  refine rf_iload_n C (n := 83) (q := 2) dX11_rule_82 rfl rfl rfl ?_
  refine rf_bipush C (n := 85) (v := 40) dX11_rule_83 rfl (by decide) ?_
  refine rf_icmp_le C (tgt := 104) (n := 88) dX11_rule_85 (by decide) rfl (fun h14 => ?_) (fun h14 => ?_)
  · exact rf_lv _ [1, 0] rfl (r_X11_rule_104 C K Z fu _ _)
  · refine rf_iload_n C (n := 89) (q := 0) dX11_rule_88 rfl rfl rfl ?_
    refine rf_if_ne C (tgt := 101) (n := 92) dX11_rule_89 (by decide) rfl (fun h22 => ?_) (fun h22 => ?_)
    · refine rf_bipush C (n := 103) (v := (-41)) dX11_rule_101 rfl (by decide) ?_
      exact rf_iret C K dX11_rule_103
    · refine rf_aload_n C (n := 93) (q := 1) dX11_rule_92 rfl rfl rfl ?_
      refine rf_getI C (n := 96) fl_RX11_176 ly_96 rfl dX11_rule_93 rfl ?_
      refine rf_bipush C (n := 98) (v := 40) dX11_rule_96 rfl (by decide) ?_
      refine rf_icmp_lt C (tgt := 104) (n := 101) dX11_rule_98 (by decide) rfl (fun h23 => ?_) (fun h23 => ?_)
      · exact rf_lv _ [1, 0] rfl (r_X11_rule_104 C K Z fu _ _)
      · refine rf_bipush C (n := 103) (v := (-41)) dX11_rule_101 rfl (by decide) ?_
        exact rf_iret C K dX11_rule_103
noncomputable def f_X11_rule_80 (fu : Nat) (x1 : Int32) (m : hM) : Option (Int32 × hM) :=
  f_X11_rule_81 fu x1 0 m
set_option maxRecDepth 100000 in
set_option maxHeartbeats 4000000 in
theorem r_X11_rule_80 {G : hG} {X : hX} (C : Cx G X 181 cX11_rule 5 RX11 (some .int)) (K : Cr G X) (Z : Cz G X) (fu : Nat) (x1 : Int32) (m : hM) : Rf vI G X 80 [(0, hA G 96), (1, .int x1)] [] m (f_X11_rule_80 fu x1 m) := by
  unfold f_X11_rule_80
  refine rf_iconst C (n := 81) (v := 0) dX11_rule_80 rfl (by decide) ?_
  exact rf_lv _ [0, 1] rfl (r_X11_rule_81 C K Z fu _ _ _)
noncomputable def f_X11_rule (fu : Nat) (m : hM) : Option (Int32 × hM) :=
  hLet (sI m 96 0 0) fun m1 =>
hLet (gI m1 96 29) fun y2 =>
hLet (sI m1 96 29 0) fun m3 =>
hLet (sI m3 96 30 0) fun m4 =>
hLet (sI m4 96 32 0) fun m5 =>
hBd (f_J9_min_7cf53 fu y2 40 m5) fun y6 m7 =>
hLet (sI m7 96 31 y6) fun m8 =>
hLet (sI m8 117 1 0) fun m9 =>
if ¬ y2 = 0 then (
hBd (f_X11_ranked fu 170 0 m9) fun y11 m12 =>
if y11 = 0 then (
f_X11_rule_80 fu y2 m12) else (
if ¬ (gI m12 96 30) = (gI m12 96 31) then (
f_X11_rule_80 fu y2 m12) else (
f_X11_rule_81 fu y2 1 m12))) else (
hLet (sI m9 117 0 0) fun m25 =>
some (0, m25))
set_option maxRecDepth 100000 in
set_option maxHeartbeats 4000000 in
theorem c_X11_rule (G : hG) (fu : Nat) (m : hM) : Mt2 vI G 181 yX11_rule cX11_rule 5 (some .int) [hA G 96] m (f_X11_rule fu m) := by
  refine mt2_of (by decide +kernel) (Nat.le_of_ble_eq_true rfl) (fun X C K Z => ?_)
  have C : Cx G X 181 cX11_rule 5 RX11 (some .int) := C
  show Rf vI G X 0 [(0, hA G 96)] [] m _
  unfold f_X11_rule
  refine rf_aload_n C (n := 1) (q := 0) dX11_rule_0 rfl rfl rfl ?_
  refine rf_iconst C (n := 2) (v := 0) dX11_rule_1 rfl (by decide) ?_
  refine rf_putI C (n := 5) pl_RX11_3 ly_96 rfl ⟨rfl, rfl⟩ dX11_rule_2 rfl ?_
  refine rf_letM (fun m1 => ?_)
  refine rf_aload_n C (n := 6) (q := 0) dX11_rule_5 rfl rfl rfl ?_
  refine rf_getI C (n := 9) fl_RX11_170 ly_96 rfl dX11_rule_6 rfl ?_
  refine rf_letI (fun y2 => ?_)
  refine rf_istore_n C (n := 10) [(1, .int y2), (0, hA G 96)] dX11_rule_9 rfl rfl (by decide) rfl ?_
  refine rf_aload_n C (n := 11) (q := 1) dX11_rule_10 rfl rfl rfl ?_
  refine rf_iconst C (n := 12) (v := 0) dX11_rule_11 rfl (by decide) ?_
  refine rf_putI C (n := 15) pl_RX11_170 ly_96 rfl ⟨rfl, rfl⟩ dX11_rule_12 rfl ?_
  refine rf_letM (fun m3 => ?_)
  refine rf_aload_n C (n := 16) (q := 1) dX11_rule_15 rfl rfl rfl ?_
  refine rf_iconst C (n := 17) (v := 0) dX11_rule_16 rfl (by decide) ?_
  refine rf_putI C (n := 20) pl_RX11_176 ly_96 rfl ⟨rfl, rfl⟩ dX11_rule_17 rfl ?_
  refine rf_letM (fun m4 => ?_)
  refine rf_aload_n C (n := 21) (q := 1) dX11_rule_20 rfl rfl rfl ?_
  refine rf_iconst C (n := 22) (v := 0) dX11_rule_21 rfl (by decide) ?_
  refine rf_putI C (n := 25) pl_RX11_217 ly_96 rfl ⟨rfl, rfl⟩ dX11_rule_22 rfl ?_
  refine rf_letM (fun m5 => ?_)
  refine rf_aload_n C (n := 26) (q := 1) dX11_rule_25 rfl rfl rfl ?_
  refine rf_iload_n C (n := 27) (q := 0) dX11_rule_26 rfl rfl rfl ?_
  refine rf_bipush C (n := 29) (v := 40) dX11_rule_27 rfl (by decide) ?_
  refine rf_callSi C (n := 32) (c_J9_min_7cf53 G fu _ _ _) sw_RX11_95 ⟨by decide, by decide⟩ rfl (Nat.le_of_ble_eq_true rfl) rfl dX11_rule_29 rfl (fun y6 m7 => ?_)
  refine rf_putI C (n := 35) pl_RX11_179 ly_96 rfl ⟨rfl, rfl⟩ dX11_rule_32 rfl ?_
  refine rf_letM (fun m8 => ?_)
  refine rf_aload_n C (n := 36) (q := 1) dX11_rule_35 rfl rfl rfl ?_
  refine rf_getS C (n := 39) fl_RX11_199 ly_96 rfl dX11_rule_36 rfl ?_
  refine rf_iconst C (n := 40) (v := 1) dX11_rule_39 rfl (by decide) ?_
  refine rf_iconst C (n := 41) (v := 0) dX11_rule_40 rfl (by decide) ?_
  refine rf_iast C (n := 42) (j0 := 1) ly_117 (by decide) (by decide) dX11_rule_41 rfl ?_
  refine rf_letM (fun m9 => ?_)
  refine rf_iload_n C (n := 43) (q := 0) dX11_rule_42 rfl rfl rfl ?_
  refine rf_if_ne C (tgt := 55) (n := 46) dX11_rule_43 (by decide) rfl (fun h10 => ?_) (fun h10 => ?_)
  · refine rf_aload_n C (n := 56) (q := 1) dX11_rule_55 rfl rfl rfl ?_
    refine rf_iconst C (n := 57) (v := 0) dX11_rule_56 rfl (by decide) ?_
    refine rz_callVi C (n := 60) Z (c_X11_ranked G fu 170 _ _) mw_RX11_220 ly_96 rfl ⟨by decide, by decide⟩ rfl (Nat.le_of_ble_eq_true rfl) rfl dX11_rule_57 rfl (fun y11 m12 => ?_)
    refine rf_istore_n C (n := 61) [(2, .int y11), (1, .int y2), (0, hA G 96)] dX11_rule_60 rfl rfl (by decide) rfl ?_
    refine rf_iload_n C (n := 62) (q := 0) dX11_rule_61 rfl rfl rfl ?_
    refine rf_if_eq C (tgt := 80) (n := 65) dX11_rule_62 (by decide) rfl (fun h13 => ?_) (fun h13 => ?_)
    · exact rf_lv _ [2, 1] rfl (r_X11_rule_80 C K Z fu _ _)
    · refine rf_aload_n C (n := 66) (q := 2) dX11_rule_65 rfl rfl rfl ?_
      refine rf_getI C (n := 69) fl_RX11_176 ly_96 rfl dX11_rule_66 rfl ?_
      refine rf_aload_n C (n := 70) (q := 2) dX11_rule_69 rfl rfl rfl ?_
      refine rf_getI C (n := 73) fl_RX11_179 ly_96 rfl dX11_rule_70 rfl ?_
      refine rf_icmp_ne C (tgt := 80) (n := 76) dX11_rule_73 (by decide) rfl (fun h24 => ?_) (fun h24 => ?_)
      · exact rf_lv _ [2, 1] rfl (r_X11_rule_80 C K Z fu _ _)
      · refine rf_iconst C (n := 77) (v := 1) dX11_rule_76 rfl (by decide) ?_
        refine rf_goto C (n := 81) dX11_rule_77 (by decide) ?_
        exact rf_lv _ [2, 1] rfl (r_X11_rule_81 C K Z fu _ _ _)
  · refine rf_aload_n C (n := 47) (q := 1) dX11_rule_46 rfl rfl rfl ?_
    refine rf_getS C (n := 50) fl_RX11_199 ly_96 rfl dX11_rule_47 rfl ?_
    refine rf_iconst C (n := 51) (v := 0) dX11_rule_50 rfl (by decide) ?_
    refine rf_iconst C (n := 52) (v := 0) dX11_rule_51 rfl (by decide) ?_
    refine rf_iast C (n := 53) (j0 := 0) ly_117 (by decide) (by decide) dX11_rule_52 rfl ?_
    refine rf_letM (fun m25 => ?_)
    refine rf_iconst C (n := 54) (v := 0) dX11_rule_53 rfl (by decide) ?_
    exact rf_iret C K dX11_rule_54
