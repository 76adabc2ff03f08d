theorem dX8_hourGoesBy_0 : decode cX8_hourGoesBy 0 = .ok (.aload_n 1, 1) := by decide +kernel
theorem dX8_hourGoesBy_1 : decode cX8_hourGoesBy 1 = .ok (.getfield 54, 3) := by decide +kernel
theorem dX8_hourGoesBy_4 : decode cX8_hourGoesBy 4 = .ok (.ifCond .lt 13, 3) := by decide +kernel
theorem dX8_hourGoesBy_7 : decode cX8_hourGoesBy 7 = .ok (.aload_n 1, 1) := by decide +kernel
theorem dX8_hourGoesBy_8 : decode cX8_hourGoesBy 8 = .ok (.getfield 54, 3) := by decide +kernel
theorem dX8_hourGoesBy_11 : decode cX8_hourGoesBy 11 = .ok (.sipush 2399, 3) := by decide +kernel
theorem dX8_hourGoesBy_14 : decode cX8_hourGoesBy 14 = .ok (.if_icmp .lt 4, 3) := by decide +kernel
theorem dX8_hourGoesBy_17 : decode cX8_hourGoesBy 17 = .ok (.return_, 1) := by decide +kernel
theorem dX8_hourGoesBy_18 : decode cX8_hourGoesBy 18 = .ok (.aload_n 0, 1) := by decide +kernel
theorem dX8_hourGoesBy_19 : decode cX8_hourGoesBy 19 = .ok (.aload_n 1, 1) := by decide +kernel
theorem dX8_hourGoesBy_20 : decode cX8_hourGoesBy 20 = .ok (.invokevirtual 57, 3) := by decide +kernel
theorem dX8_hourGoesBy_23 : decode cX8_hourGoesBy 23 = .ok (.istore_n 2, 1) := by decide +kernel
theorem dX8_hourGoesBy_24 : decode cX8_hourGoesBy 24 = .ok (.aload_n 0, 1) := by decide +kernel
theorem dX8_hourGoesBy_25 : decode cX8_hourGoesBy 25 = .ok (.getfield 29, 3) := by decide +kernel
theorem dX8_hourGoesBy_28 : decode cX8_hourGoesBy 28 = .ok (.getfield 61, 3) := by decide +kernel
theorem dX8_hourGoesBy_31 : decode cX8_hourGoesBy 31 = .ok (.aload_n 1, 1) := by decide +kernel
theorem dX8_hourGoesBy_32 : decode cX8_hourGoesBy 32 = .ok (.getfield 54, 3) := by decide +kernel
theorem dX8_hourGoesBy_35 : decode cX8_hourGoesBy 35 = .ok (.iaload, 1) := by decide +kernel
theorem dX8_hourGoesBy_36 : decode cX8_hourGoesBy 36 = .ok (.istore_n 3, 1) := by decide +kernel
theorem dX8_hourGoesBy_37 : decode cX8_hourGoesBy 37 = .ok (.iload_n 3, 1) := by decide +kernel
theorem dX8_hourGoesBy_38 : decode cX8_hourGoesBy 38 = .ok (.aload_n 0, 1) := by decide +kernel
theorem dX8_hourGoesBy_39 : decode cX8_hourGoesBy 39 = .ok (.getfield 29, 3) := by decide +kernel
theorem dX8_hourGoesBy_42 : decode cX8_hourGoesBy 42 = .ok (.getfield 61, 3) := by decide +kernel
theorem dX8_hourGoesBy_45 : decode cX8_hourGoesBy 45 = .ok (.aload_n 1, 1) := by decide +kernel
theorem dX8_hourGoesBy_46 : decode cX8_hourGoesBy 46 = .ok (.getfield 54, 3) := by decide +kernel
theorem dX8_hourGoesBy_49 : decode cX8_hourGoesBy 49 = .ok (.iconst 1, 1) := by decide +kernel
theorem dX8_hourGoesBy_50 : decode cX8_hourGoesBy 50 = .ok (.iadd, 1) := by decide +kernel
theorem dX8_hourGoesBy_51 : decode cX8_hourGoesBy 51 = .ok (.iaload, 1) := by decide +kernel
theorem dX8_hourGoesBy_52 : decode cX8_hourGoesBy 52 = .ok (.iconst (-1), 1) := by decide +kernel
theorem dX8_hourGoesBy_53 : decode cX8_hourGoesBy 53 = .ok (.ixor, 1) := by decide +kernel
theorem dX8_hourGoesBy_54 : decode cX8_hourGoesBy 54 = .ok (.iand, 1) := by decide +kernel
theorem dX8_hourGoesBy_55 : decode cX8_hourGoesBy 55 = .ok (.istore 4, 2) := by decide +kernel
theorem dX8_hourGoesBy_57 : decode cX8_hourGoesBy 57 = .ok (.aload_n 0, 1) := by decide +kernel
theorem dX8_hourGoesBy_58 : decode cX8_hourGoesBy 58 = .ok (.aload_n 1, 1) := by decide +kernel
theorem dX8_hourGoesBy_59 : decode cX8_hourGoesBy 59 = .ok (.iload_n 2, 1) := by decide +kernel
theorem dX8_hourGoesBy_60 : decode cX8_hourGoesBy 60 = .ok (.iload_n 3, 1) := by decide +kernel
theorem dX8_hourGoesBy_61 : decode cX8_hourGoesBy 61 = .ok (.invokevirtual 66, 3) := by decide +kernel
theorem dX8_hourGoesBy_64 : decode cX8_hourGoesBy 64 = .ok (.iload 4, 2) := by decide +kernel
theorem dX8_hourGoesBy_66 : decode cX8_hourGoesBy 66 = .ok (.ifCond .eq 35, 3) := by decide +kernel
theorem dX8_hourGoesBy_69 : decode cX8_hourGoesBy 69 = .ok (.aload_n 0, 1) := by decide +kernel
theorem dX8_hourGoesBy_70 : decode cX8_hourGoesBy 70 = .ok (.getfield 9, 3) := by decide +kernel
theorem dX8_hourGoesBy_73 : decode cX8_hourGoesBy 73 = .ok (.ifCond .eq 28, 3) := by decide +kernel
theorem dX8_hourGoesBy_76 : decode cX8_hourGoesBy 76 = .ok (.aload_n 0, 1) := by decide +kernel
theorem dX8_hourGoesBy_77 : decode cX8_hourGoesBy 77 = .ok (.getfield 37, 3) := by decide +kernel
theorem dX8_hourGoesBy_80 : decode cX8_hourGoesBy 80 = .ok (.getfield 70, 3) := by decide +kernel
theorem dX8_hourGoesBy_83 : decode cX8_hourGoesBy 83 = .ok (.ifCond .le 18, 3) := by decide +kernel
theorem dX8_hourGoesBy_86 : decode cX8_hourGoesBy 86 = .ok (.aload_n 0, 1) := by decide +kernel
theorem dX8_hourGoesBy_87 : decode cX8_hourGoesBy 87 = .ok (.aload_n 1, 1) := by decide +kernel
theorem dX8_hourGoesBy_88 : decode cX8_hourGoesBy 88 = .ok (.iload_n 2, 1) := by decide +kernel
theorem dX8_hourGoesBy_89 : decode cX8_hourGoesBy 89 = .ok (.aload_n 1, 1) := by decide +kernel
theorem dX8_hourGoesBy_90 : decode cX8_hourGoesBy 90 = .ok (.getfield 46, 3) := by decide +kernel
theorem dX8_hourGoesBy_93 : decode cX8_hourGoesBy 93 = .ok (.iconst (-1), 1) := by decide +kernel
theorem dX8_hourGoesBy_94 : decode cX8_hourGoesBy 94 = .ok (.ixor, 1) := by decide +kernel
theorem dX8_hourGoesBy_95 : decode cX8_hourGoesBy 95 = .ok (.iand, 1) := by decide +kernel
theorem dX8_hourGoesBy_96 : decode cX8_hourGoesBy 96 = .ok (.iload 4, 2) := by decide +kernel
theorem dX8_hourGoesBy_98 : decode cX8_hourGoesBy 98 = .ok (.invokevirtual 75, 3) := by decide +kernel
theorem dX8_hourGoesBy_101 : decode cX8_hourGoesBy 101 = .ok (.aload_n 1, 1) := by decide +kernel
theorem dX8_hourGoesBy_102 : decode cX8_hourGoesBy 102 = .ok (.dup, 1) := by decide +kernel
theorem dX8_hourGoesBy_103 : decode cX8_hourGoesBy 103 = .ok (.getfield 54, 3) := by decide +kernel
theorem dX8_hourGoesBy_106 : decode cX8_hourGoesBy 106 = .ok (.iconst 1, 1) := by decide +kernel
theorem dX8_hourGoesBy_107 : decode cX8_hourGoesBy 107 = .ok (.iadd, 1) := by decide +kernel
theorem dX8_hourGoesBy_108 : decode cX8_hourGoesBy 108 = .ok (.putfield 54, 3) := by decide +kernel
theorem dX8_hourGoesBy_111 : decode cX8_hourGoesBy 111 = .ok (.return_, 1) := by decide +kernel
theorem dX8_isHopeless_0 : decode cX8_isHopeless 0 = .ok (.aload_n 0, 1) := by decide +kernel
theorem dX8_isHopeless_1 : decode cX8_isHopeless 1 = .ok (.getfield 9, 3) := by decide +kernel
theorem dX8_isHopeless_4 : decode cX8_isHopeless 4 = .ok (.ifCond .eq 17, 3) := by decide +kernel
theorem dX8_isHopeless_7 : decode cX8_isHopeless 7 = .ok (.aload_n 0, 1) := by decide +kernel
theorem dX8_isHopeless_8 : decode cX8_isHopeless 8 = .ok (.getfield 37, 3) := by decide +kernel
theorem dX8_isHopeless_11 : decode cX8_isHopeless 11 = .ok (.getfield 70, 3) := by decide +kernel
theorem dX8_isHopeless_14 : decode cX8_isHopeless 14 = .ok (.ifCond .le 7, 3) := by decide +kernel
theorem dX8_isHopeless_17 : decode cX8_isHopeless 17 = .ok (.iconst 1, 1) := by decide +kernel
theorem dX8_isHopeless_18 : decode cX8_isHopeless 18 = .ok (.goto 4, 3) := by decide +kernel
theorem dX8_isHopeless_21 : decode cX8_isHopeless 21 = .ok (.iconst 0, 1) := by decide +kernel
theorem dX8_isHopeless_22 : decode cX8_isHopeless 22 = .ok (.istore_n 2, 1) := by decide +kernel
theorem dX8_isHopeless_23 : decode cX8_isHopeless 23 = .ok (.iconst 0, 1) := by decide +kernel
theorem dX8_isHopeless_24 : decode cX8_isHopeless 24 = .ok (.istore_n 3, 1) := by decide +kernel
theorem dX8_isHopeless_25 : decode cX8_isHopeless 25 = .ok (.iload_n 3, 1) := by decide +kernel
theorem dX8_isHopeless_26 : decode cX8_isHopeless 26 = .ok (.aload_n 0, 1) := by decide +kernel
theorem dX8_isHopeless_27 : decode cX8_isHopeless 27 = .ok (.getfield 33, 3) := by decide +kernel
theorem dX8_isHopeless_30 : decode cX8_isHopeless 30 = .ok (.getfield 41, 3) := by decide +kernel
theorem dX8_isHopeless_33 : decode cX8_isHopeless 33 = .ok (.if_icmp .ge 67, 3) := by decide +kernel
theorem dX8_isHopeless_36 : decode cX8_isHopeless 36 = .ok (.aload_n 0, 1) := by decide +kernel
theorem dX8_isHopeless_37 : decode cX8_isHopeless 37 = .ok (.getfield 29, 3) := by decide +kernel
theorem dX8_isHopeless_40 : decode cX8_isHopeless 40 = .ok (.aload_n 0, 1) := by decide +kernel
theorem dX8_isHopeless_41 : decode cX8_isHopeless 41 = .ok (.getfield 33, 3) := by decide +kernel
theorem dX8_isHopeless_44 : decode cX8_isHopeless 44 = .ok (.getfield 113, 3) := by decide +kernel
theorem dX8_isHopeless_47 : decode cX8_isHopeless 47 = .ok (.iload_n 3, 1) := by decide +kernel
theorem dX8_isHopeless_48 : decode cX8_isHopeless 48 = .ok (.iaload, 1) := by decide +kernel
theorem dX8_isHopeless_49 : decode cX8_isHopeless 49 = .ok (.invokevirtual 213, 3) := by decide +kernel
theorem dX8_isHopeless_52 : decode cX8_isHopeless 52 = .ok (.istore 4, 2) := by decide +kernel
theorem dX8_isHopeless_54 : decode cX8_isHopeless 54 = .ok (.iload_n 2, 1) := by decide +kernel
theorem dX8_isHopeless_55 : decode cX8_isHopeless 55 = .ok (.ifCond .eq 8, 3) := by decide +kernel
theorem dX8_isHopeless_58 : decode cX8_isHopeless 58 = .ok (.iload 4, 2) := by decide +kernel
theorem dX8_isHopeless_60 : decode cX8_isHopeless 60 = .ok (.goto 14, 3) := by decide +kernel
theorem dX8_isHopeless_63 : decode cX8_isHopeless 63 = .ok (.iload 4, 2) := by decide +kernel
theorem dX8_isHopeless_65 : decode cX8_isHopeless 65 = .ok (.iconst 1, 1) := by decide +kernel
theorem dX8_isHopeless_66 : decode cX8_isHopeless 66 = .ok (.aload_n 1, 1) := by decide +kernel
theorem dX8_isHopeless_67 : decode cX8_isHopeless 67 = .ok (.getfield 84, 3) := by decide +kernel
theorem dX8_isHopeless_70 : decode cX8_isHopeless 70 = .ok (.iload_n 3, 1) := by decide +kernel
theorem dX8_isHopeless_71 : decode cX8_isHopeless 71 = .ok (.iaload, 1) := by decide +kernel
theorem dX8_isHopeless_72 : decode cX8_isHopeless 72 = .ok (.ishl, 1) := by decide +kernel
theorem dX8_isHopeless_73 : decode cX8_isHopeless 73 = .ok (.iand, 1) := by decide +kernel
theorem dX8_isHopeless_74 : decode cX8_isHopeless 74 = .ok (.istore 5, 2) := by decide +kernel
theorem dX8_isHopeless_76 : decode cX8_isHopeless 76 = .ok (.aload_n 1, 1) := by decide +kernel
theorem dX8_isHopeless_77 : decode cX8_isHopeless 77 = .ok (.getfield 46, 3) := by decide +kernel
theorem dX8_isHopeless_80 : decode cX8_isHopeless 80 = .ok (.iload_n 3, 1) := by decide +kernel
theorem dX8_isHopeless_81 : decode cX8_isHopeless 81 = .ok (.ishr, 1) := by decide +kernel
theorem dX8_isHopeless_82 : decode cX8_isHopeless 82 = .ok (.iconst 1, 1) := by decide +kernel
theorem dX8_isHopeless_83 : decode cX8_isHopeless 83 = .ok (.iand, 1) := by decide +kernel
theorem dX8_isHopeless_84 : decode cX8_isHopeless 84 = .ok (.ifCond .ne 10, 3) := by decide +kernel
theorem dX8_isHopeless_87 : decode cX8_isHopeless 87 = .ok (.iload 5, 2) := by decide +kernel
theorem dX8_isHopeless_89 : decode cX8_isHopeless 89 = .ok (.ifCond .ne 5, 3) := by decide +kernel
theorem dX8_isHopeless_92 : decode cX8_isHopeless 92 = .ok (.iconst 1, 1) := by decide +kernel
theorem dX8_isHopeless_93 : decode cX8_isHopeless 93 = .ok (.ireturn, 1) := by decide +kernel
theorem dX8_isHopeless_94 : decode cX8_isHopeless 94 = .ok (.iinc 3 1, 3) := by decide +kernel
theorem dX8_isHopeless_97 : decode cX8_isHopeless 97 = .ok (.goto (-72), 3) := by decide +kernel
theorem dX8_isHopeless_100 : decode cX8_isHopeless 100 = .ok (.iconst 0, 1) := by decide +kernel
theorem dX8_isHopeless_101 : decode cX8_isHopeless 101 = .ok (.ireturn, 1) := by decide +kernel
theorem dX8_runToEnd_0 : decode cX8_runToEnd 0 = .ok (.aload_n 0, 1) := by decide +kernel
theorem dX8_runToEnd_1 : decode cX8_runToEnd 1 = .ok (.getfield 33, 3) := by decide +kernel
theorem dX8_runToEnd_4 : decode cX8_runToEnd 4 = .ok (.invokevirtual 202, 3) := by decide +kernel
theorem dX8_runToEnd_7 : decode cX8_runToEnd 7 = .ok (.istore_n 3, 1) := by decide +kernel
theorem dX8_runToEnd_8 : decode cX8_runToEnd 8 = .ok (.aload_n 0, 1) := by decide +kernel
theorem dX8_runToEnd_9 : decode cX8_runToEnd 9 = .ok (.aload_n 1, 1) := by decide +kernel
theorem dX8_runToEnd_10 : decode cX8_runToEnd 10 = .ok (.invokevirtual 205, 3) := by decide +kernel
theorem dX8_runToEnd_13 : decode cX8_runToEnd 13 = .ok (.ifCond .eq 6, 3) := by decide +kernel
theorem dX8_runToEnd_16 : decode cX8_runToEnd 16 = .ok (.bipush (-2), 2) := by decide +kernel
theorem dX8_runToEnd_18 : decode cX8_runToEnd 18 = .ok (.ireturn, 1) := by decide +kernel
theorem dX8_runToEnd_19 : decode cX8_runToEnd 19 = .ok (.aload_n 1, 1) := by decide +kernel
theorem dX8_runToEnd_20 : decode cX8_runToEnd 20 = .ok (.getfield 54, 3) := by decide +kernel
theorem dX8_runToEnd_23 : decode cX8_runToEnd 23 = .ok (.istore 4, 2) := by decide +kernel
theorem dX8_runToEnd_25 : decode cX8_runToEnd 25 = .ok (.iload 4, 2) := by decide +kernel
theorem dX8_runToEnd_27 : decode cX8_runToEnd 27 = .ok (.iload_n 2, 1) := by decide +kernel
theorem dX8_runToEnd_28 : decode cX8_runToEnd 28 = .ok (.if_icmp .ge 30, 3) := by decide +kernel
theorem dX8_runToEnd_31 : decode cX8_runToEnd 31 = .ok (.iload 4, 2) := by decide +kernel
theorem dX8_runToEnd_33 : decode cX8_runToEnd 33 = .ok (.sipush 2399, 3) := by decide +kernel
theorem dX8_runToEnd_36 : decode cX8_runToEnd 36 = .ok (.if_icmp .ge 22, 3) := by decide +kernel
theorem dX8_runToEnd_39 : decode cX8_runToEnd 39 = .ok (.aload_n 1, 1) := by decide +kernel
theorem dX8_runToEnd_40 : decode cX8_runToEnd 40 = .ok (.getfield 46, 3) := by decide +kernel
theorem dX8_runToEnd_43 : decode cX8_runToEnd 43 = .ok (.iload_n 3, 1) := by decide +kernel
theorem dX8_runToEnd_44 : decode cX8_runToEnd 44 = .ok (.if_icmp .eq 14, 3) := by decide +kernel
theorem dX8_runToEnd_47 : decode cX8_runToEnd 47 = .ok (.aload_n 0, 1) := by decide +kernel
theorem dX8_runToEnd_48 : decode cX8_runToEnd 48 = .ok (.aload_n 1, 1) := by decide +kernel
theorem dX8_runToEnd_49 : decode cX8_runToEnd 49 = .ok (.invokevirtual 209, 3) := by decide +kernel
theorem dX8_runToEnd_52 : decode cX8_runToEnd 52 = .ok (.iinc 4 1, 3) := by decide +kernel
theorem dX8_runToEnd_55 : decode cX8_runToEnd 55 = .ok (.goto (-30), 3) := by decide +kernel
theorem dX8_runToEnd_58 : decode cX8_runToEnd 58 = .ok (.aload_n 1, 1) := by decide +kernel
theorem dX8_runToEnd_59 : decode cX8_runToEnd 59 = .ok (.getfield 46, 3) := by decide +kernel
theorem dX8_runToEnd_62 : decode cX8_runToEnd 62 = .ok (.iload_n 3, 1) := by decide +kernel
theorem dX8_runToEnd_63 : decode cX8_runToEnd 63 = .ok (.if_icmp .ne 10, 3) := by decide +kernel
theorem dX8_runToEnd_66 : decode cX8_runToEnd 66 = .ok (.aload_n 1, 1) := by decide +kernel
theorem dX8_runToEnd_67 : decode cX8_runToEnd 67 = .ok (.getfield 54, 3) := by decide +kernel
theorem dX8_runToEnd_70 : decode cX8_runToEnd 70 = .ok (.goto 5, 3) := by decide +kernel
theorem dX8_runToEnd_73 : decode cX8_runToEnd 73 = .ok (.bipush (-2), 2) := by decide +kernel
theorem dX8_runToEnd_75 : decode cX8_runToEnd 75 = .ok (.ireturn, 1) := by decide +kernel
theorem dX8_idleThough_0 : decode cX8_idleThough 0 = .ok (.iconst 0, 1) := by decide +kernel
theorem dX8_idleThough_1 : decode cX8_idleThough 1 = .ok (.istore_n 3, 1) := by decide +kernel
theorem dX8_idleThough_2 : decode cX8_idleThough 2 = .ok (.iload_n 3, 1) := by decide +kernel
theorem dX8_idleThough_3 : decode cX8_idleThough 3 = .ok (.aload_n 0, 1) := by decide +kernel
theorem dX8_idleThough_4 : decode cX8_idleThough 4 = .ok (.getfield 33, 3) := by decide +kernel
theorem dX8_idleThough_7 : decode cX8_idleThough 7 = .ok (.getfield 41, 3) := by decide +kernel
theorem dX8_idleThough_10 : decode cX8_idleThough 10 = .ok (.if_icmp .ge 110, 3) := by decide +kernel
theorem dX8_idleThough_13 : decode cX8_idleThough 13 = .ok (.iconst 0, 1) := by decide +kernel
theorem dX8_idleThough_14 : decode cX8_idleThough 14 = .ok (.istore 4, 2) := by decide +kernel
theorem dX8_idleThough_16 : decode cX8_idleThough 16 = .ok (.iload 4, 2) := by decide +kernel
theorem dX8_idleThough_18 : decode cX8_idleThough 18 = .ok (.aload_n 0, 1) := by decide +kernel
theorem dX8_idleThough_19 : decode cX8_idleThough 19 = .ok (.getfield 29, 3) := by decide +kernel
theorem dX8_idleThough_22 : decode cX8_idleThough 22 = .ok (.getfield 139, 3) := by decide +kernel
theorem dX8_idleThough_25 : decode cX8_idleThough 25 = .ok (.if_icmp .ge 89, 3) := by decide +kernel
theorem dX8_idleThough_28 : decode cX8_idleThough 28 = .ok (.iload_n 1, 1) := by decide +kernel
theorem dX8_idleThough_29 : decode cX8_idleThough 29 = .ok (.iload_n 3, 1) := by decide +kernel
theorem dX8_idleThough_30 : decode cX8_idleThough 30 = .ok (.ishr, 1) := by decide +kernel
theorem dX8_idleThough_31 : decode cX8_idleThough 31 = .ok (.iconst 1, 1) := by decide +kernel
theorem dX8_idleThough_32 : decode cX8_idleThough 32 = .ok (.iand, 1) := by decide +kernel
theorem dX8_idleThough_33 : decode cX8_idleThough 33 = .ok (.iconst 1, 1) := by decide +kernel
theorem dX8_idleThough_34 : decode cX8_idleThough 34 = .ok (.if_icmp .ne 80, 3) := by decide +kernel
theorem dX8_idleThough_37 : decode cX8_idleThough 37 = .ok (.aload_n 0, 1) := by decide +kernel
theorem dX8_idleThough_38 : decode cX8_idleThough 38 = .ok (.getfield 29, 3) := by decide +kernel
theorem dX8_idleThough_41 : decode cX8_idleThough 41 = .ok (.getfield 61, 3) := by decide +kernel
theorem dX8_idleThough_44 : decode cX8_idleThough 44 = .ok (.iload_n 2, 1) := by decide +kernel
theorem dX8_idleThough_45 : decode cX8_idleThough 45 = .ok (.iaload, 1) := by decide +kernel
theorem dX8_idleThough_46 : decode cX8_idleThough 46 = .ok (.iload 4, 2) := by decide +kernel
theorem dX8_idleThough_48 : decode cX8_idleThough 48 = .ok (.ishr, 1) := by decide +kernel
theorem dX8_idleThough_49 : decode cX8_idleThough 49 = .ok (.iconst 1, 1) := by decide +kernel
theorem dX8_idleThough_50 : decode cX8_idleThough 50 = .ok (.iand, 1) := by decide +kernel
theorem dX8_idleThough_51 : decode cX8_idleThough 51 = .ok (.iconst 1, 1) := by decide +kernel
theorem dX8_idleThough_52 : decode cX8_idleThough 52 = .ok (.if_icmp .ne 7, 3) := by decide +kernel
theorem dX8_idleThough_55 : decode cX8_idleThough 55 = .ok (.iconst 1, 1) := by decide +kernel
theorem dX8_idleThough_56 : decode cX8_idleThough 56 = .ok (.goto 4, 3) := by decide +kernel
theorem dX8_idleThough_59 : decode cX8_idleThough 59 = .ok (.iconst 0, 1) := by decide +kernel
theorem dX8_idleThough_60 : decode cX8_idleThough 60 = .ok (.istore 5, 2) := by decide +kernel
theorem dX8_idleThough_62 : decode cX8_idleThough 62 = .ok (.iload 5, 2) := by decide +kernel
theorem dX8_idleThough_64 : decode cX8_idleThough 64 = .ok (.ifCond .eq 44, 3) := by decide +kernel
theorem dX8_idleThough_67 : decode cX8_idleThough 67 = .ok (.aload_n 0, 1) := by decide +kernel
theorem dX8_idleThough_68 : decode cX8_idleThough 68 = .ok (.iload_n 3, 1) := by decide +kernel
theorem dX8_idleThough_69 : decode cX8_idleThough 69 = .ok (.iload 4, 2) := by decide +kernel
theorem dX8_idleThough_71 : decode cX8_idleThough 71 = .ok (.invokevirtual 93, 3) := by decide +kernel
theorem dX8_idleThough_74 : decode cX8_idleThough 74 = .ok (.ifCond .eq 34, 3) := by decide +kernel
theorem dX8_idleThough_77 : decode cX8_idleThough 77 = .ok (.aload_n 0, 1) := by decide +kernel
theorem dX8_idleThough_78 : decode cX8_idleThough 78 = .ok (.getfield 22, 3) := by decide +kernel
theorem dX8_idleThough_81 : decode cX8_idleThough 81 = .ok (.iload 4, 2) := by decide +kernel
theorem dX8_idleThough_83 : decode cX8_idleThough 83 = .ok (.iaload, 1) := by decide +kernel
theorem dX8_idleThough_84 : decode cX8_idleThough 84 = .ok (.aload_n 0, 1) := by decide +kernel
theorem dX8_idleThough_85 : decode cX8_idleThough 85 = .ok (.getfield 29, 3) := by decide +kernel
theorem dX8_idleThough_88 : decode cX8_idleThough 88 = .ok (.getfield 97, 3) := by decide +kernel
theorem dX8_idleThough_91 : decode cX8_idleThough 91 = .ok (.iload 4, 2) := by decide +kernel
theorem dX8_idleThough_93 : decode cX8_idleThough 93 = .ok (.aaload, 1) := by decide +kernel
theorem dX8_idleThough_94 : decode cX8_idleThough 94 = .ok (.getfield 101, 3) := by decide +kernel
theorem dX8_idleThough_97 : decode cX8_idleThough 97 = .ok (.if_icmp .ge 11, 3) := by decide +kernel
theorem dX8_idleThough_100 : decode cX8_idleThough 100 = .ok (.iload_n 3, 1) := by decide +kernel
theorem dX8_idleThough_101 : decode cX8_idleThough 101 = .ok (.bipush 6, 2) := by decide +kernel
theorem dX8_idleThough_103 : decode cX8_idleThough 103 = .ok (.imul, 1) := by decide +kernel
theorem dX8_idleThough_104 : decode cX8_idleThough 104 = .ok (.iload 4, 2) := by decide +kernel
theorem dX8_idleThough_106 : decode cX8_idleThough 106 = .ok (.iadd, 1) := by decide +kernel
theorem dX8_idleThough_107 : decode cX8_idleThough 107 = .ok (.ireturn, 1) := by decide +kernel
theorem dX8_idleThough_108 : decode cX8_idleThough 108 = .ok (.iinc 4 1, 3) := by decide +kernel
theorem dX8_idleThough_111 : decode cX8_idleThough 111 = .ok (.goto (-95), 3) := by decide +kernel
theorem dX8_idleThough_114 : decode cX8_idleThough 114 = .ok (.iinc 3 1, 3) := by decide +kernel
theorem dX8_idleThough_117 : decode cX8_idleThough 117 = .ok (.goto (-115), 3) := by decide +kernel
theorem dX8_idleThough_120 : decode cX8_idleThough 120 = .ok (.iconst (-1), 1) := by decide +kernel
theorem dX8_idleThough_121 : decode cX8_idleThough 121 = .ok (.ireturn, 1) := by decide +kernel
theorem dX8_doneAlone_0 : decode cX8_doneAlone 0 = .ok (.aload_n 0, 1) := by decide +kernel
theorem dX8_doneAlone_1 : decode cX8_doneAlone 1 = .ok (.iconst 0, 1) := by decide +kernel
theorem dX8_doneAlone_2 : decode cX8_doneAlone 2 = .ok (.putfield 26, 3) := by decide +kernel
theorem dX8_doneAlone_5 : decode cX8_doneAlone 5 = .ok (.aload_n 0, 1) := by decide +kernel
theorem dX8_doneAlone_6 : decode cX8_doneAlone 6 = .ok (.iload_n 1, 1) := by decide +kernel
theorem dX8_doneAlone_7 : decode cX8_doneAlone 7 = .ok (.iload_n 2, 1) := by decide +kernel
theorem dX8_doneAlone_8 : decode cX8_doneAlone 8 = .ok (.invokevirtual 93, 3) := by decide +kernel
theorem dX8_doneAlone_11 : decode cX8_doneAlone 11 = .ok (.ifCond .ne 6, 3) := by decide +kernel
theorem dX8_doneAlone_14 : decode cX8_doneAlone 14 = .ok (.bipush (-2), 2) := by decide +kernel
theorem dX8_doneAlone_16 : decode cX8_doneAlone 16 = .ok (.ireturn, 1) := by decide +kernel
theorem dX8_doneAlone_17 : decode cX8_doneAlone 17 = .ok (.aload_n 0, 1) := by decide +kernel
theorem dX8_doneAlone_18 : decode cX8_doneAlone 18 = .ok (.getfield 33, 3) := by decide +kernel
theorem dX8_doneAlone_21 : decode cX8_doneAlone 21 = .ok (.getfield 90, 3) := by decide +kernel
theorem dX8_doneAlone_24 : decode cX8_doneAlone 24 = .ok (.iload_n 1, 1) := by decide +kernel
theorem dX8_doneAlone_25 : decode cX8_doneAlone 25 = .ok (.iaload, 1) := by decide +kernel
theorem dX8_doneAlone_26 : decode cX8_doneAlone 26 = .ok (.istore 5, 2) := by decide +kernel
theorem dX8_doneAlone_28 : decode cX8_doneAlone 28 = .ok (.aload_n 0, 1) := by decide +kernel
theorem dX8_doneAlone_29 : decode cX8_doneAlone 29 = .ok (.getfield 33, 3) := by decide +kernel
theorem dX8_doneAlone_32 : decode cX8_doneAlone 32 = .ok (.getfield 216, 3) := by decide +kernel
theorem dX8_doneAlone_35 : decode cX8_doneAlone 35 = .ok (.iload_n 1, 1) := by decide +kernel
theorem dX8_doneAlone_36 : decode cX8_doneAlone 36 = .ok (.iaload, 1) := by decide +kernel
theorem dX8_doneAlone_37 : decode cX8_doneAlone 37 = .ok (.istore 6, 2) := by decide +kernel
theorem dX8_doneAlone_39 : decode cX8_doneAlone 39 = .ok (.iconst 0, 1) := by decide +kernel
theorem dX8_doneAlone_40 : decode cX8_doneAlone 40 = .ok (.istore 7, 2) := by decide +kernel
theorem dX8_doneAlone_42 : decode cX8_doneAlone 42 = .ok (.iconst 0, 1) := by decide +kernel
theorem dX8_doneAlone_43 : decode cX8_doneAlone 43 = .ok (.istore 8, 2) := by decide +kernel
theorem dX8_doneAlone_45 : decode cX8_doneAlone 45 = .ok (.iload_n 3, 1) := by decide +kernel
theorem dX8_doneAlone_46 : decode cX8_doneAlone 46 = .ok (.istore 9, 2) := by decide +kernel
theorem dX8_doneAlone_48 : decode cX8_doneAlone 48 = .ok (.iload 9, 2) := by decide +kernel
theorem dX8_doneAlone_50 : decode cX8_doneAlone 50 = .ok (.iload 4, 2) := by decide +kernel
theorem dX8_doneAlone_52 : decode cX8_doneAlone 52 = .ok (.if_icmp .ge 149, 3) := by decide +kernel
theorem dX8_doneAlone_55 : decode cX8_doneAlone 55 = .ok (.aload_n 0, 1) := by decide +kernel
theorem dX8_doneAlone_56 : decode cX8_doneAlone 56 = .ok (.getfield 29, 3) := by decide +kernel
theorem dX8_doneAlone_59 : decode cX8_doneAlone 59 = .ok (.getfield 61, 3) := by decide +kernel
theorem dX8_doneAlone_62 : decode cX8_doneAlone 62 = .ok (.iload 9, 2) := by decide +kernel
theorem dX8_doneAlone_64 : decode cX8_doneAlone 64 = .ok (.iaload, 1) := by decide +kernel
theorem dX8_doneAlone_65 : decode cX8_doneAlone 65 = .ok (.iload_n 2, 1) := by decide +kernel
theorem dX8_doneAlone_66 : decode cX8_doneAlone 66 = .ok (.ishr, 1) := by decide +kernel
theorem dX8_doneAlone_67 : decode cX8_doneAlone 67 = .ok (.iconst 1, 1) := by decide +kernel
theorem dX8_doneAlone_68 : decode cX8_doneAlone 68 = .ok (.iand, 1) := by decide +kernel
theorem dX8_doneAlone_69 : decode cX8_doneAlone 69 = .ok (.iconst 1, 1) := by decide +kernel
theorem dX8_doneAlone_70 : decode cX8_doneAlone 70 = .ok (.if_icmp .ne 7, 3) := by decide +kernel
theorem dX8_doneAlone_73 : decode cX8_doneAlone 73 = .ok (.iconst 1, 1) := by decide +kernel
theorem dX8_doneAlone_74 : decode cX8_doneAlone 74 = .ok (.goto 4, 3) := by decide +kernel
theorem dX8_doneAlone_77 : decode cX8_doneAlone 77 = .ok (.iconst 0, 1) := by decide +kernel
theorem dX8_doneAlone_78 : decode cX8_doneAlone 78 = .ok (.istore 10, 2) := by decide +kernel
theorem dX8_doneAlone_80 : decode cX8_doneAlone 80 = .ok (.iload 8, 2) := by decide +kernel
theorem dX8_doneAlone_82 : decode cX8_doneAlone 82 = .ok (.ifCond .eq 52, 3) := by decide +kernel
theorem dX8_doneAlone_85 : decode cX8_doneAlone 85 = .ok (.aload_n 0, 1) := by decide +kernel
theorem dX8_doneAlone_86 : decode cX8_doneAlone 86 = .ok (.dup, 1) := by decide +kernel
theorem dX8_doneAlone_87 : decode cX8_doneAlone 87 = .ok (.getfield 26, 3) := by decide +kernel
theorem dX8_doneAlone_90 : decode cX8_doneAlone 90 = .ok (.iconst 1, 1) := by decide +kernel
theorem dX8_doneAlone_91 : decode cX8_doneAlone 91 = .ok (.iadd, 1) := by decide +kernel
theorem dX8_doneAlone_92 : decode cX8_doneAlone 92 = .ok (.putfield 26, 3) := by decide +kernel
theorem dX8_doneAlone_95 : decode cX8_doneAlone 95 = .ok (.iload 10, 2) := by decide +kernel
theorem dX8_doneAlone_97 : decode cX8_doneAlone 97 = .ok (.ifCond .eq 27, 3) := by decide +kernel
theorem dX8_doneAlone_100 : decode cX8_doneAlone 100 = .ok (.iload 5, 2) := by decide +kernel
theorem dX8_doneAlone_102 : decode cX8_doneAlone 102 = .ok (.iconst (-1), 1) := by decide +kernel
theorem dX8_doneAlone_103 : decode cX8_doneAlone 103 = .ok (.if_icmp .eq 21, 3) := by decide +kernel
theorem dX8_doneAlone_106 : decode cX8_doneAlone 106 = .ok (.aload_n 0, 1) := by decide +kernel
theorem dX8_doneAlone_107 : decode cX8_doneAlone 107 = .ok (.getfield 29, 3) := by decide +kernel
theorem dX8_doneAlone_110 : decode cX8_doneAlone 110 = .ok (.getfield 61, 3) := by decide +kernel
theorem dX8_doneAlone_113 : decode cX8_doneAlone 113 = .ok (.iload 9, 2) := by decide +kernel
theorem dX8_doneAlone_115 : decode cX8_doneAlone 115 = .ok (.iaload, 1) := by decide +kernel
theorem dX8_doneAlone_116 : decode cX8_doneAlone 116 = .ok (.iload 5, 2) := by decide +kernel
theorem dX8_doneAlone_118 : decode cX8_doneAlone 118 = .ok (.ishr, 1) := by decide +kernel
theorem dX8_doneAlone_119 : decode cX8_doneAlone 119 = .ok (.iconst 1, 1) := by decide +kernel
theorem dX8_doneAlone_120 : decode cX8_doneAlone 120 = .ok (.iand, 1) := by decide +kernel
theorem dX8_doneAlone_121 : decode cX8_doneAlone 121 = .ok (.ifCond .ne 7, 3) := by decide +kernel
theorem dX8_doneAlone_124 : decode cX8_doneAlone 124 = .ok (.iconst 1, 1) := by decide +kernel
theorem dX8_doneAlone_125 : decode cX8_doneAlone 125 = .ok (.goto 4, 3) := by decide +kernel
theorem dX8_doneAlone_128 : decode cX8_doneAlone 128 = .ok (.iconst 0, 1) := by decide +kernel
theorem dX8_doneAlone_129 : decode cX8_doneAlone 129 = .ok (.istore 8, 2) := by decide +kernel
theorem dX8_doneAlone_131 : decode cX8_doneAlone 131 = .ok (.goto 64, 3) := by decide +kernel
theorem dX8_doneAlone_134 : decode cX8_doneAlone 134 = .ok (.iload 10, 2) := by decide +kernel
theorem dX8_doneAlone_136 : decode cX8_doneAlone 136 = .ok (.ifCond .eq 59, 3) := by decide +kernel
theorem dX8_doneAlone_139 : decode cX8_doneAlone 139 = .ok (.iinc 6 (-1), 3) := by decide +kernel
theorem dX8_doneAlone_142 : decode cX8_doneAlone 142 = .ok (.iinc 7 1, 3) := by decide +kernel
theorem dX8_doneAlone_145 : decode cX8_doneAlone 145 = .ok (.iload 6, 2) := by decide +kernel
theorem dX8_doneAlone_147 : decode cX8_doneAlone 147 = .ok (.ifCond .ne 8, 3) := by decide +kernel
theorem dX8_doneAlone_150 : decode cX8_doneAlone 150 = .ok (.iload 9, 2) := by decide +kernel
theorem dX8_doneAlone_152 : decode cX8_doneAlone 152 = .ok (.iconst 1, 1) := by decide +kernel
theorem dX8_doneAlone_153 : decode cX8_doneAlone 153 = .ok (.iadd, 1) := by decide +kernel
theorem dX8_doneAlone_154 : decode cX8_doneAlone 154 = .ok (.ireturn, 1) := by decide +kernel
theorem dX8_doneAlone_155 : decode cX8_doneAlone 155 = .ok (.iload 5, 2) := by decide +kernel
theorem dX8_doneAlone_157 : decode cX8_doneAlone 157 = .ok (.iconst (-1), 1) := by decide +kernel
theorem dX8_doneAlone_158 : decode cX8_doneAlone 158 = .ok (.if_icmp .eq 21, 3) := by decide +kernel
theorem dX8_doneAlone_161 : decode cX8_doneAlone 161 = .ok (.iload 7, 2) := by decide +kernel
theorem dX8_doneAlone_163 : decode cX8_doneAlone 163 = .ok (.aload_n 0, 1) := by decide +kernel
theorem dX8_doneAlone_164 : decode cX8_doneAlone 164 = .ok (.getfield 33, 3) := by decide +kernel
theorem dX8_doneAlone_167 : decode cX8_doneAlone 167 = .ok (.getfield 132, 3) := by decide +kernel
theorem dX8_doneAlone_170 : decode cX8_doneAlone 170 = .ok (.iload_n 1, 1) := by decide +kernel
theorem dX8_doneAlone_171 : decode cX8_doneAlone 171 = .ok (.iaload, 1) := by decide +kernel
theorem dX8_doneAlone_172 : decode cX8_doneAlone 172 = .ok (.if_icmp .ne 7, 3) := by decide +kernel
theorem dX8_doneAlone_175 : decode cX8_doneAlone 175 = .ok (.iconst 1, 1) := by decide +kernel
theorem dX8_doneAlone_176 : decode cX8_doneAlone 176 = .ok (.goto 4, 3) := by decide +kernel
theorem dX8_doneAlone_179 : decode cX8_doneAlone 179 = .ok (.iconst 0, 1) := by decide +kernel
theorem dX8_doneAlone_180 : decode cX8_doneAlone 180 = .ok (.istore 8, 2) := by decide +kernel
theorem dX8_doneAlone_182 : decode cX8_doneAlone 182 = .ok (.iload 8, 2) := by decide +kernel
theorem dX8_doneAlone_184 : decode cX8_doneAlone 184 = .ok (.ifCond .eq 7, 3) := by decide +kernel
theorem dX8_doneAlone_187 : decode cX8_doneAlone 187 = .ok (.iconst 0, 1) := by decide +kernel
theorem dX8_doneAlone_188 : decode cX8_doneAlone 188 = .ok (.goto 5, 3) := by decide +kernel
theorem dX8_doneAlone_191 : decode cX8_doneAlone 191 = .ok (.iload 7, 2) := by decide +kernel
theorem dX8_doneAlone_193 : decode cX8_doneAlone 193 = .ok (.istore 7, 2) := by decide +kernel
theorem dX8_doneAlone_195 : decode cX8_doneAlone 195 = .ok (.iinc 9 1, 3) := by decide +kernel
theorem dX8_doneAlone_198 : decode cX8_doneAlone 198 = .ok (.goto (-150), 3) := by decide +kernel
theorem dX8_doneAlone_201 : decode cX8_doneAlone 201 = .ok (.bipush (-2), 2) := by decide +kernel
theorem dX8_doneAlone_203 : decode cX8_doneAlone 203 = .ok (.ireturn, 1) := by decide +kernel
theorem dX9_branch_0 : decode cX9_branch 0 = .ok (.iconst 0, 1) := by decide +kernel
theorem dX9_branch_1 : decode cX9_branch 1 = .ok (.istore_n 3, 1) := by decide +kernel
theorem dX9_branch_2 : decode cX9_branch 2 = .ok (.iload_n 3, 1) := by decide +kernel
theorem dX9_branch_3 : decode cX9_branch 3 = .ok (.aload_n 0, 1) := by decide +kernel
theorem dX9_branch_4 : decode cX9_branch 4 = .ok (.getfield 37, 3) := by decide +kernel
theorem dX9_branch_7 : decode cX9_branch 7 = .ok (.getfield 45, 3) := by decide +kernel
theorem dX9_branch_10 : decode cX9_branch 10 = .ok (.if_icmp .ge 69, 3) := by decide +kernel
theorem dX9_branch_13 : decode cX9_branch 13 = .ok (.aload_n 0, 1) := by decide +kernel
theorem dX9_branch_14 : decode cX9_branch 14 = .ok (.getfield 21, 3) := by decide +kernel
theorem dX9_branch_17 : decode cX9_branch 17 = .ok (.sipush 156, 3) := by decide +kernel
theorem dX9_branch_20 : decode cX9_branch 20 = .ok (.if_icmp .ge 59, 3) := by decide +kernel
theorem dX9_branch_23 : decode cX9_branch 23 = .ok (.iload_n 3, 1) := by decide +kernel
theorem dX9_branch_24 : decode cX9_branch 24 = .ok (.aload_n 0, 1) := by decide +kernel
theorem dX9_branch_25 : decode cX9_branch 25 = .ok (.getfield 15, 3) := by decide +kernel
theorem dX9_branch_28 : decode cX9_branch 28 = .ok (.iload_n 1, 1) := by decide +kernel
theorem dX9_branch_29 : decode cX9_branch 29 = .ok (.iaload, 1) := by decide +kernel
theorem dX9_branch_30 : decode cX9_branch 30 = .ok (.if_icmp .eq 43, 3) := by decide +kernel
theorem dX9_branch_33 : decode cX9_branch 33 = .ok (.aload_n 0, 1) := by decide +kernel
theorem dX9_branch_34 : decode cX9_branch 34 = .ok (.getfield 9, 3) := by decide +kernel
theorem dX9_branch_37 : decode cX9_branch 37 = .ok (.aload_n 0, 1) := by decide +kernel
theorem dX9_branch_38 : decode cX9_branch 38 = .ok (.getfield 21, 3) := by decide +kernel
theorem dX9_branch_41 : decode cX9_branch 41 = .ok (.iload_n 1, 1) := by decide +kernel
theorem dX9_branch_42 : decode cX9_branch 42 = .ok (.iastore, 1) := by decide +kernel
theorem dX9_branch_43 : decode cX9_branch 43 = .ok (.aload_n 0, 1) := by decide +kernel
theorem dX9_branch_44 : decode cX9_branch 44 = .ok (.getfield 15, 3) := by decide +kernel
theorem dX9_branch_47 : decode cX9_branch 47 = .ok (.aload_n 0, 1) := by decide +kernel
theorem dX9_branch_48 : decode cX9_branch 48 = .ok (.getfield 21, 3) := by decide +kernel
theorem dX9_branch_51 : decode cX9_branch 51 = .ok (.iload_n 3, 1) := by decide +kernel
theorem dX9_branch_52 : decode cX9_branch 52 = .ok (.iastore, 1) := by decide +kernel
theorem dX9_branch_53 : decode cX9_branch 53 = .ok (.aload_n 0, 1) := by decide +kernel
theorem dX9_branch_54 : decode cX9_branch 54 = .ok (.getfield 18, 3) := by decide +kernel
theorem dX9_branch_57 : decode cX9_branch 57 = .ok (.aload_n 0, 1) := by decide +kernel
theorem dX9_branch_58 : decode cX9_branch 58 = .ok (.getfield 21, 3) := by decide +kernel
theorem dX9_branch_61 : decode cX9_branch 61 = .ok (.iload_n 2, 1) := by decide +kernel
theorem dX9_branch_62 : decode cX9_branch 62 = .ok (.iastore, 1) := by decide +kernel
theorem dX9_branch_63 : decode cX9_branch 63 = .ok (.aload_n 0, 1) := by decide +kernel
theorem dX9_branch_64 : decode cX9_branch 64 = .ok (.dup, 1) := by decide +kernel
theorem dX9_branch_65 : decode cX9_branch 65 = .ok (.getfield 21, 3) := by decide +kernel
theorem dX9_branch_68 : decode cX9_branch 68 = .ok (.iconst 1, 1) := by decide +kernel
theorem dX9_branch_69 : decode cX9_branch 69 = .ok (.iadd, 1) := by decide +kernel
theorem dX9_branch_70 : decode cX9_branch 70 = .ok (.putfield 21, 3) := by decide +kernel
theorem dX9_branch_73 : decode cX9_branch 73 = .ok (.iinc 3 1, 3) := by decide +kernel
theorem dX9_branch_76 : decode cX9_branch 76 = .ok (.goto (-74), 3) := by decide +kernel
theorem dX9_branch_79 : decode cX9_branch 79 = .ok (.return_, 1) := by decide +kernel
theorem dX9_grow_0 : decode cX9_grow 0 = .ok (.aload_n 0, 1) := by decide +kernel
theorem dX9_grow_1 : decode cX9_grow 1 = .ok (.getfield 9, 3) := by decide +kernel
theorem dX9_grow_4 : decode cX9_grow 4 = .ok (.iconst 0, 1) := by decide +kernel
theorem dX9_grow_5 : decode cX9_grow 5 = .ok (.iconst (-1), 1) := by decide +kernel
theorem dX9_grow_6 : decode cX9_grow 6 = .ok (.iastore, 1) := by decide +kernel
theorem dX9_grow_7 : decode cX9_grow 7 = .ok (.aload_n 0, 1) := by decide +kernel
theorem dX9_grow_8 : decode cX9_grow 8 = .ok (.getfield 15, 3) := by decide +kernel
theorem dX9_grow_11 : decode cX9_grow 11 = .ok (.iconst 0, 1) := by decide +kernel
theorem dX9_grow_12 : decode cX9_grow 12 = .ok (.iload_n 1, 1) := by decide +kernel
theorem dX9_grow_13 : decode cX9_grow 13 = .ok (.iastore, 1) := by decide +kernel
theorem dX9_grow_14 : decode cX9_grow 14 = .ok (.aload_n 0, 1) := by decide +kernel
theorem dX9_grow_15 : decode cX9_grow 15 = .ok (.getfield 18, 3) := by decide +kernel
theorem dX9_grow_18 : decode cX9_grow 18 = .ok (.iconst 0, 1) := by decide +kernel
theorem dX9_grow_19 : decode cX9_grow 19 = .ok (.iconst 0, 1) := by decide +kernel
theorem dX9_grow_20 : decode cX9_grow 20 = .ok (.iastore, 1) := by decide +kernel
theorem dX9_grow_21 : decode cX9_grow 21 = .ok (.aload_n 0, 1) := by decide +kernel
theorem dX9_grow_22 : decode cX9_grow 22 = .ok (.iconst 1, 1) := by decide +kernel
theorem dX9_grow_23 : decode cX9_grow 23 = .ok (.putfield 21, 3) := by decide +kernel
theorem dX9_grow_26 : decode cX9_grow 26 = .ok (.iconst 0, 1) := by decide +kernel
theorem dX9_grow_27 : decode cX9_grow 27 = .ok (.istore_n 3, 1) := by decide +kernel
theorem dX9_grow_28 : decode cX9_grow 28 = .ok (.iconst 1, 1) := by decide +kernel
theorem dX9_grow_29 : decode cX9_grow 29 = .ok (.istore 4, 2) := by decide +kernel
theorem dX9_grow_31 : decode cX9_grow 31 = .ok (.iload 4, 2) := by decide +kernel
theorem dX9_grow_33 : decode cX9_grow 33 = .ok (.iload_n 2, 1) := by decide +kernel
theorem dX9_grow_34 : decode cX9_grow 34 = .ok (.if_icmp .gt 42, 3) := by decide +kernel
theorem dX9_grow_37 : decode cX9_grow 37 = .ok (.aload_n 0, 1) := by decide +kernel
theorem dX9_grow_38 : decode cX9_grow 38 = .ok (.getfield 21, 3) := by decide +kernel
theorem dX9_grow_41 : decode cX9_grow 41 = .ok (.istore 5, 2) := by decide +kernel
theorem dX9_grow_43 : decode cX9_grow 43 = .ok (.iload_n 3, 1) := by decide +kernel
theorem dX9_grow_44 : decode cX9_grow 44 = .ok (.istore 6, 2) := by decide +kernel
theorem dX9_grow_46 : decode cX9_grow 46 = .ok (.iload 6, 2) := by decide +kernel
theorem dX9_grow_48 : decode cX9_grow 48 = .ok (.iload 5, 2) := by decide +kernel
theorem dX9_grow_50 : decode cX9_grow 50 = .ok (.if_icmp .ge 17, 3) := by decide +kernel
theorem dX9_grow_53 : decode cX9_grow 53 = .ok (.aload_n 0, 1) := by decide +kernel
theorem dX9_grow_54 : decode cX9_grow 54 = .ok (.iload 6, 2) := by decide +kernel
theorem dX9_grow_56 : decode cX9_grow 56 = .ok (.iload 4, 2) := by decide +kernel
theorem dX9_grow_58 : decode cX9_grow 58 = .ok (.invokevirtual 41, 3) := by decide +kernel
theorem dX9_grow_61 : decode cX9_grow 61 = .ok (.iinc 6 1, 3) := by decide +kernel
theorem dX9_grow_64 : decode cX9_grow 64 = .ok (.goto (-18), 3) := by decide +kernel
theorem dX9_grow_67 : decode cX9_grow 67 = .ok (.iload 5, 2) := by decide +kernel
theorem dX9_grow_69 : decode cX9_grow 69 = .ok (.istore_n 3, 1) := by decide +kernel
theorem dX9_grow_70 : decode cX9_grow 70 = .ok (.iinc 4 1, 3) := by decide +kernel
theorem dX9_grow_73 : decode cX9_grow 73 = .ok (.goto (-42), 3) := by decide +kernel
theorem dX9_grow_76 : decode cX9_grow 76 = .ok (.return_, 1) := by decide +kernel
theorem dX9_loseFrom_0 : decode cX9_loseFrom 0 = .ok (.iconst 0, 1) := by decide +kernel
theorem dX9_loseFrom_1 : decode cX9_loseFrom 1 = .ok (.istore_n 2, 1) := by decide +kernel
theorem dX9_loseFrom_2 : decode cX9_loseFrom 2 = .ok (.iload_n 2, 1) := by decide +kernel
theorem dX9_loseFrom_3 : decode cX9_loseFrom 3 = .ok (.aload_n 0, 1) := by decide +kernel
theorem dX9_loseFrom_4 : decode cX9_loseFrom 4 = .ok (.getfield 37, 3) := by decide +kernel
theorem dX9_loseFrom_7 : decode cX9_loseFrom 7 = .ok (.getfield 45, 3) := by decide +kernel
theorem dX9_loseFrom_10 : decode cX9_loseFrom 10 = .ok (.if_icmp .ge 74, 3) := by decide +kernel
theorem dX9_loseFrom_13 : decode cX9_loseFrom 13 = .ok (.iconst 0, 1) := by decide +kernel
theorem dX9_loseFrom_14 : decode cX9_loseFrom 14 = .ok (.istore_n 3, 1) := by decide +kernel
theorem dX9_loseFrom_15 : decode cX9_loseFrom 15 = .ok (.iload_n 3, 1) := by decide +kernel
theorem dX9_loseFrom_16 : decode cX9_loseFrom 16 = .ok (.iload_n 2, 1) := by decide +kernel
theorem dX9_loseFrom_17 : decode cX9_loseFrom 17 = .ok (.if_icmp .ge 61, 3) := by decide +kernel
theorem dX9_loseFrom_20 : decode cX9_loseFrom 20 = .ok (.iload_n 2, 1) := by decide +kernel
theorem dX9_loseFrom_21 : decode cX9_loseFrom 21 = .ok (.bipush 6, 2) := by decide +kernel
theorem dX9_loseFrom_23 : decode cX9_loseFrom 23 = .ok (.imul, 1) := by decide +kernel
theorem dX9_loseFrom_24 : decode cX9_loseFrom 24 = .ok (.iload_n 3, 1) := by decide +kernel
theorem dX9_loseFrom_25 : decode cX9_loseFrom 25 = .ok (.iadd, 1) := by decide +kernel
theorem dX9_loseFrom_26 : decode cX9_loseFrom 26 = .ok (.istore 4, 2) := by decide +kernel
theorem dX9_loseFrom_28 : decode cX9_loseFrom 28 = .ok (.aload_n 0, 1) := by decide +kernel
theorem dX9_loseFrom_29 : decode cX9_loseFrom 29 = .ok (.getfield 34, 3) := by decide +kernel
theorem dX9_loseFrom_32 : decode cX9_loseFrom 32 = .ok (.iload 4, 2) := by decide +kernel
theorem dX9_loseFrom_34 : decode cX9_loseFrom 34 = .ok (.aload_n 0, 1) := by decide +kernel
theorem dX9_loseFrom_35 : decode cX9_loseFrom 35 = .ok (.getfield 37, 3) := by decide +kernel
theorem dX9_loseFrom_38 : decode cX9_loseFrom 38 = .ok (.iload_n 2, 1) := by decide +kernel
theorem dX9_loseFrom_39 : decode cX9_loseFrom 39 = .ok (.iload_n 3, 1) := by decide +kernel
theorem dX9_loseFrom_40 : decode cX9_loseFrom 40 = .ok (.aload_n 0, 1) := by decide +kernel
theorem dX9_loseFrom_41 : decode cX9_loseFrom 41 = .ok (.getfield 37, 3) := by decide +kernel
theorem dX9_loseFrom_44 : decode cX9_loseFrom 44 = .ok (.iload_n 2, 1) := by decide +kernel
theorem dX9_loseFrom_45 : decode cX9_loseFrom 45 = .ok (.iload_n 3, 1) := by decide +kernel
theorem dX9_loseFrom_46 : decode cX9_loseFrom 46 = .ok (.iload_n 1, 1) := by decide +kernel
theorem dX9_loseFrom_47 : decode cX9_loseFrom 47 = .ok (.invokevirtual 94, 3) := by decide +kernel
theorem dX9_loseFrom_50 : decode cX9_loseFrom 50 = .ok (.invokevirtual 98, 3) := by decide +kernel
theorem dX9_loseFrom_53 : decode cX9_loseFrom 53 = .ok (.iastore, 1) := by decide +kernel
theorem dX9_loseFrom_54 : decode cX9_loseFrom 54 = .ok (.aload_n 0, 1) := by decide +kernel
theorem dX9_loseFrom_55 : decode cX9_loseFrom 55 = .ok (.getfield 34, 3) := by decide +kernel
theorem dX9_loseFrom_58 : decode cX9_loseFrom 58 = .ok (.iload_n 3, 1) := by decide +kernel
theorem dX9_loseFrom_59 : decode cX9_loseFrom 59 = .ok (.bipush 6, 2) := by decide +kernel
theorem dX9_loseFrom_61 : decode cX9_loseFrom 61 = .ok (.imul, 1) := by decide +kernel
theorem dX9_loseFrom_62 : decode cX9_loseFrom 62 = .ok (.iload_n 2, 1) := by decide +kernel
theorem dX9_loseFrom_63 : decode cX9_loseFrom 63 = .ok (.iadd, 1) := by decide +kernel
theorem dX9_loseFrom_64 : decode cX9_loseFrom 64 = .ok (.aload_n 0, 1) := by decide +kernel
theorem dX9_loseFrom_65 : decode cX9_loseFrom 65 = .ok (.getfield 34, 3) := by decide +kernel
theorem dX9_loseFrom_68 : decode cX9_loseFrom 68 = .ok (.iload 4, 2) := by decide +kernel
theorem dX9_loseFrom_70 : decode cX9_loseFrom 70 = .ok (.iaload, 1) := by decide +kernel
theorem dX9_loseFrom_71 : decode cX9_loseFrom 71 = .ok (.iastore, 1) := by decide +kernel
theorem dX9_loseFrom_72 : decode cX9_loseFrom 72 = .ok (.iinc 3 1, 3) := by decide +kernel
theorem dX9_loseFrom_75 : decode cX9_loseFrom 75 = .ok (.goto (-60), 3) := by decide +kernel
theorem dX9_loseFrom_78 : decode cX9_loseFrom 78 = .ok (.iinc 2 1, 3) := by decide +kernel
theorem dX9_loseFrom_81 : decode cX9_loseFrom 81 = .ok (.goto (-79), 3) := by decide +kernel
theorem dX9_loseFrom_84 : decode cX9_loseFrom 84 = .ok (.return_, 1) := by decide +kernel
theorem dX9_soonest_0 : decode cX9_soonest 0 = .ok (.aload_n 0, 1) := by decide +kernel
theorem dX9_soonest_1 : decode cX9_soonest 1 = .ok (.getfield 37, 3) := by decide +kernel
theorem dX9_soonest_4 : decode cX9_soonest 4 = .ok (.aload_n 1, 1) := by decide +kernel
theorem dX9_soonest_5 : decode cX9_soonest 5 = .ok (.getfield 48, 3) := by decide +kernel
theorem dX9_soonest_8 : decode cX9_soonest 8 = .ok (.iload_n 2, 1) := by decide +kernel
theorem dX9_soonest_9 : decode cX9_soonest 9 = .ok (.iaload, 1) := by decide +kernel
theorem dX9_soonest_10 : decode cX9_soonest 10 = .ok (.invokevirtual 53, 3) := by decide +kernel
theorem dX9_soonest_13 : decode cX9_soonest 13 = .ok (.istore 5, 2) := by decide +kernel
theorem dX9_soonest_15 : decode cX9_soonest 15 = .ok (.iload 5, 2) := by decide +kernel
theorem dX9_soonest_17 : decode cX9_soonest 17 = .ok (.ifCond .ne 6, 3) := by decide +kernel
theorem dX9_soonest_20 : decode cX9_soonest 20 = .ok (.bipush (-2), 2) := by decide +kernel
theorem dX9_soonest_22 : decode cX9_soonest 22 = .ok (.ireturn, 1) := by decide +kernel
theorem dX9_soonest_23 : decode cX9_soonest 23 = .ok (.aload_n 0, 1) := by decide +kernel
theorem dX9_soonest_24 : decode cX9_soonest 24 = .ok (.getfield 28, 3) := by decide +kernel
theorem dX9_soonest_27 : decode cX9_soonest 27 = .ok (.ldc 57, 2) := by decide +kernel
theorem dX9_soonest_29 : decode cX9_soonest 29 = .ok (.invokestatic 58, 3) := by decide +kernel
theorem dX9_soonest_32 : decode cX9_soonest 32 = .ok (.aload_n 0, 1) := by decide +kernel
theorem dX9_soonest_33 : decode cX9_soonest 33 = .ok (.getfield 28, 3) := by decide +kernel
theorem dX9_soonest_36 : decode cX9_soonest 36 = .ok (.iconst 0, 1) := by decide +kernel
theorem dX9_soonest_37 : decode cX9_soonest 37 = .ok (.aload_n 1, 1) := by decide +kernel
theorem dX9_soonest_38 : decode cX9_soonest 38 = .ok (.getfield 64, 3) := by decide +kernel
theorem dX9_soonest_41 : decode cX9_soonest 41 = .ok (.iload_n 2, 1) := by decide +kernel
theorem dX9_soonest_42 : decode cX9_soonest 42 = .ok (.iaload, 1) := by decide +kernel
theorem dX9_soonest_43 : decode cX9_soonest 43 = .ok (.iastore, 1) := by decide +kernel
theorem dX9_soonest_44 : decode cX9_soonest 44 = .ok (.iload_n 3, 1) := by decide +kernel
theorem dX9_soonest_45 : decode cX9_soonest 45 = .ok (.istore 6, 2) := by decide +kernel
theorem dX9_soonest_47 : decode cX9_soonest 47 = .ok (.iload 6, 2) := by decide +kernel
theorem dX9_soonest_49 : decode cX9_soonest 49 = .ok (.iload 4, 2) := by decide +kernel
theorem dX9_soonest_51 : decode cX9_soonest 51 = .ok (.if_icmp .ge 185, 3) := by decide +kernel
theorem dX9_soonest_54 : decode cX9_soonest 54 = .ok (.aload_n 0, 1) := by decide +kernel
theorem dX9_soonest_55 : decode cX9_soonest 55 = .ok (.getfield 37, 3) := by decide +kernel
theorem dX9_soonest_58 : decode cX9_soonest 58 = .ok (.getfield 67, 3) := by decide +kernel
theorem dX9_soonest_61 : decode cX9_soonest 61 = .ok (.iload 6, 2) := by decide +kernel
theorem dX9_soonest_63 : decode cX9_soonest 63 = .ok (.iaload, 1) := by decide +kernel
theorem dX9_soonest_64 : decode cX9_soonest 64 = .ok (.iload 5, 2) := by decide +kernel
theorem dX9_soonest_66 : decode cX9_soonest 66 = .ok (.iand, 1) := by decide +kernel
theorem dX9_soonest_67 : decode cX9_soonest 67 = .ok (.istore 7, 2) := by decide +kernel
theorem dX9_soonest_69 : decode cX9_soonest 69 = .ok (.iconst 0, 1) := by decide +kernel
theorem dX9_soonest_70 : decode cX9_soonest 70 = .ok (.istore 8, 2) := by decide +kernel
theorem dX9_soonest_72 : decode cX9_soonest 72 = .ok (.iload 8, 2) := by decide +kernel
theorem dX9_soonest_74 : decode cX9_soonest 74 = .ok (.aload_n 0, 1) := by decide +kernel
theorem dX9_soonest_75 : decode cX9_soonest 75 = .ok (.getfield 21, 3) := by decide +kernel
theorem dX9_soonest_78 : decode cX9_soonest 78 = .ok (.if_icmp .ge 52, 3) := by decide +kernel
theorem dX9_soonest_81 : decode cX9_soonest 81 = .ok (.aload_n 0, 1) := by decide +kernel
theorem dX9_soonest_82 : decode cX9_soonest 82 = .ok (.getfield 28, 3) := by decide +kernel
theorem dX9_soonest_85 : decode cX9_soonest 85 = .ok (.iload 8, 2) := by decide +kernel
theorem dX9_soonest_87 : decode cX9_soonest 87 = .ok (.dup2, 1) := by decide +kernel
theorem dX9_soonest_88 : decode cX9_soonest 88 = .ok (.iaload, 1) := by decide +kernel
theorem dX9_soonest_89 : decode cX9_soonest 89 = .ok (.iload 7, 2) := by decide +kernel
theorem dX9_soonest_91 : decode cX9_soonest 91 = .ok (.aload_n 0, 1) := by decide +kernel
theorem dX9_soonest_92 : decode cX9_soonest 92 = .ok (.getfield 15, 3) := by decide +kernel
theorem dX9_soonest_95 : decode cX9_soonest 95 = .ok (.iload 8, 2) := by decide +kernel
theorem dX9_soonest_97 : decode cX9_soonest 97 = .ok (.iaload, 1) := by decide +kernel
theorem dX9_soonest_98 : decode cX9_soonest 98 = .ok (.ishr, 1) := by decide +kernel
theorem dX9_soonest_99 : decode cX9_soonest 99 = .ok (.iconst 1, 1) := by decide +kernel
theorem dX9_soonest_100 : decode cX9_soonest 100 = .ok (.iand, 1) := by decide +kernel
theorem dX9_soonest_101 : decode cX9_soonest 101 = .ok (.isub, 1) := by decide +kernel
theorem dX9_soonest_102 : decode cX9_soonest 102 = .ok (.iastore, 1) := by decide +kernel
theorem dX9_soonest_103 : decode cX9_soonest 103 = .ok (.aload_n 0, 1) := by decide +kernel
theorem dX9_soonest_104 : decode cX9_soonest 104 = .ok (.getfield 28, 3) := by decide +kernel
theorem dX9_soonest_107 : decode cX9_soonest 107 = .ok (.iload 8, 2) := by decide +kernel
theorem dX9_soonest_109 : decode cX9_soonest 109 = .ok (.iaload, 1) := by decide +kernel
theorem dX9_soonest_110 : decode cX9_soonest 110 = .ok (.ifCond .ne 14, 3) := by decide +kernel
theorem dX9_soonest_113 : decode cX9_soonest 113 = .ok (.aload_n 0, 1) := by decide +kernel
theorem dX9_soonest_114 : decode cX9_soonest 114 = .ok (.iload 8, 2) := by decide +kernel
theorem dX9_soonest_116 : decode cX9_soonest 116 = .ok (.putfield 25, 3) := by decide +kernel
theorem dX9_soonest_119 : decode cX9_soonest 119 = .ok (.iload 6, 2) := by decide +kernel
theorem dX9_soonest_121 : decode cX9_soonest 121 = .ok (.iconst 1, 1) := by decide +kernel
theorem dX9_soonest_122 : decode cX9_soonest 122 = .ok (.iadd, 1) := by decide +kernel
theorem dX9_soonest_123 : decode cX9_soonest 123 = .ok (.ireturn, 1) := by decide +kernel
theorem dX9_soonest_124 : decode cX9_soonest 124 = .ok (.iinc 8 1, 3) := by decide +kernel
theorem dX9_soonest_127 : decode cX9_soonest 127 = .ok (.goto (-55), 3) := by decide +kernel
theorem dX9_soonest_130 : decode cX9_soonest 130 = .ok (.aload_n 0, 1) := by decide +kernel
theorem dX9_soonest_131 : decode cX9_soonest 131 = .ok (.iload 6, 2) := by decide +kernel
theorem dX9_soonest_133 : decode cX9_soonest 133 = .ok (.iconst 1, 1) := by decide +kernel
theorem dX9_soonest_134 : decode cX9_soonest 134 = .ok (.iadd, 1) := by decide +kernel
theorem dX9_soonest_135 : decode cX9_soonest 135 = .ok (.invokevirtual 70, 3) := by decide +kernel
theorem dX9_soonest_138 : decode cX9_soonest 138 = .ok (.aload_n 0, 1) := by decide +kernel
theorem dX9_soonest_139 : decode cX9_soonest 139 = .ok (.getfield 21, 3) := by decide +kernel
theorem dX9_soonest_142 : decode cX9_soonest 142 = .ok (.iconst 1, 1) := by decide +kernel
theorem dX9_soonest_143 : decode cX9_soonest 143 = .ok (.isub, 1) := by decide +kernel
theorem dX9_soonest_144 : decode cX9_soonest 144 = .ok (.istore 8, 2) := by decide +kernel
theorem dX9_soonest_146 : decode cX9_soonest 146 = .ok (.iload 8, 2) := by decide +kernel
theorem dX9_soonest_148 : decode cX9_soonest 148 = .ok (.ifCond .le 82, 3) := by decide +kernel
theorem dX9_soonest_151 : decode cX9_soonest 151 = .ok (.aload_n 0, 1) := by decide +kernel
theorem dX9_soonest_152 : decode cX9_soonest 152 = .ok (.getfield 9, 3) := by decide +kernel
theorem dX9_soonest_155 : decode cX9_soonest 155 = .ok (.iload 8, 2) := by decide +kernel
theorem dX9_soonest_157 : decode cX9_soonest 157 = .ok (.iaload, 1) := by decide +kernel
theorem dX9_soonest_158 : decode cX9_soonest 158 = .ok (.istore 9, 2) := by decide +kernel
theorem dX9_soonest_160 : decode cX9_soonest 160 = .ok (.aload_n 0, 1) := by decide +kernel
theorem dX9_soonest_161 : decode cX9_soonest 161 = .ok (.getfield 28, 3) := by decide +kernel
theorem dX9_soonest_164 : decode cX9_soonest 164 = .ok (.iload 9, 2) := by decide +kernel
theorem dX9_soonest_166 : decode cX9_soonest 166 = .ok (.iaload, 1) := by decide +kernel
theorem dX9_soonest_167 : decode cX9_soonest 167 = .ok (.aload_n 0, 1) := by decide +kernel
theorem dX9_soonest_168 : decode cX9_soonest 168 = .ok (.getfield 34, 3) := by decide +kernel
theorem dX9_soonest_171 : decode cX9_soonest 171 = .ok (.aload_n 0, 1) := by decide +kernel
theorem dX9_soonest_172 : decode cX9_soonest 172 = .ok (.getfield 15, 3) := by decide +kernel
theorem dX9_soonest_175 : decode cX9_soonest 175 = .ok (.iload 9, 2) := by decide +kernel
theorem dX9_soonest_177 : decode cX9_soonest 177 = .ok (.iaload, 1) := by decide +kernel
theorem dX9_soonest_178 : decode cX9_soonest 178 = .ok (.bipush 6, 2) := by decide +kernel
theorem dX9_soonest_180 : decode cX9_soonest 180 = .ok (.imul, 1) := by decide +kernel
theorem dX9_soonest_181 : decode cX9_soonest 181 = .ok (.aload_n 0, 1) := by decide +kernel
theorem dX9_soonest_182 : decode cX9_soonest 182 = .ok (.getfield 15, 3) := by decide +kernel
theorem dX9_soonest_185 : decode cX9_soonest 185 = .ok (.iload 8, 2) := by decide +kernel
theorem dX9_soonest_187 : decode cX9_soonest 187 = .ok (.iaload, 1) := by decide +kernel
theorem dX9_soonest_188 : decode cX9_soonest 188 = .ok (.iadd, 1) := by decide +kernel
theorem dX9_soonest_189 : decode cX9_soonest 189 = .ok (.iaload, 1) := by decide +kernel
theorem dX9_soonest_190 : decode cX9_soonest 190 = .ok (.iadd, 1) := by decide +kernel
theorem dX9_soonest_191 : decode cX9_soonest 191 = .ok (.istore 10, 2) := by decide +kernel
theorem dX9_soonest_193 : decode cX9_soonest 193 = .ok (.aload_n 0, 1) := by decide +kernel
theorem dX9_soonest_194 : decode cX9_soonest 194 = .ok (.getfield 28, 3) := by decide +kernel
theorem dX9_soonest_197 : decode cX9_soonest 197 = .ok (.iload 8, 2) := by decide +kernel
theorem dX9_soonest_199 : decode cX9_soonest 199 = .ok (.iload 10, 2) := by decide +kernel
theorem dX9_soonest_201 : decode cX9_soonest 201 = .ok (.aload_n 0, 1) := by decide +kernel
theorem dX9_soonest_202 : decode cX9_soonest 202 = .ok (.getfield 28, 3) := by decide +kernel
theorem dX9_soonest_205 : decode cX9_soonest 205 = .ok (.iload 8, 2) := by decide +kernel
theorem dX9_soonest_207 : decode cX9_soonest 207 = .ok (.iaload, 1) := by decide +kernel
theorem dX9_soonest_208 : decode cX9_soonest 208 = .ok (.if_icmp .ge 8, 3) := by decide +kernel
theorem dX9_soonest_211 : decode cX9_soonest 211 = .ok (.iload 10, 2) := by decide +kernel
theorem dX9_soonest_213 : decode cX9_soonest 213 = .ok (.goto 10, 3) := by decide +kernel
theorem dX9_soonest_216 : decode cX9_soonest 216 = .ok (.aload_n 0, 1) := by decide +kernel
theorem dX9_soonest_217 : decode cX9_soonest 217 = .ok (.getfield 28, 3) := by decide +kernel
theorem dX9_soonest_220 : decode cX9_soonest 220 = .ok (.iload 8, 2) := by decide +kernel
theorem dX9_soonest_222 : decode cX9_soonest 222 = .ok (.iaload, 1) := by decide +kernel
theorem dX9_soonest_223 : decode cX9_soonest 223 = .ok (.iastore, 1) := by decide +kernel
theorem dX9_soonest_224 : decode cX9_soonest 224 = .ok (.iinc 8 (-1), 3) := by decide +kernel
theorem dX9_soonest_227 : decode cX9_soonest 227 = .ok (.goto (-81), 3) := by decide +kernel
theorem dX9_soonest_230 : decode cX9_soonest 230 = .ok (.iinc 6 1, 3) := by decide +kernel
theorem dX9_soonest_233 : decode cX9_soonest 233 = .ok (.goto (-186), 3) := by decide +kernel
theorem dX9_soonest_236 : decode cX9_soonest 236 = .ok (.bipush (-2), 2) := by decide +kernel
theorem dX9_soonest_238 : decode cX9_soonest 238 = .ok (.ireturn, 1) := by decide +kernel
theorem dX9_handForPay_0 : decode cX9_handForPay 0 = .ok (.aload_n 0, 1) := by decide +kernel
theorem dX9_handForPay_1 : decode cX9_handForPay 1 = .ok (.getfield 9, 3) := by decide +kernel
theorem dX9_handForPay_4 : decode cX9_handForPay 4 = .ok (.iload_n 1, 1) := by decide +kernel
theorem dX9_handForPay_5 : decode cX9_handForPay 5 = .ok (.iaload, 1) := by decide +kernel
theorem dX9_handForPay_6 : decode cX9_handForPay 6 = .ok (.istore_n 2, 1) := by decide +kernel
theorem dX9_handForPay_7 : decode cX9_handForPay 7 = .ok (.aload_n 0, 1) := by decide +kernel
theorem dX9_handForPay_8 : decode cX9_handForPay 8 = .ok (.getfield 34, 3) := by decide +kernel
theorem dX9_handForPay_11 : decode cX9_handForPay 11 = .ok (.aload_n 0, 1) := by decide +kernel
theorem dX9_handForPay_12 : decode cX9_handForPay 12 = .ok (.getfield 15, 3) := by decide +kernel
theorem dX9_handForPay_15 : decode cX9_handForPay 15 = .ok (.iload_n 2, 1) := by decide +kernel
theorem dX9_handForPay_16 : decode cX9_handForPay 16 = .ok (.iaload, 1) := by decide +kernel
theorem dX9_handForPay_17 : decode cX9_handForPay 17 = .ok (.bipush 6, 2) := by decide +kernel
theorem dX9_handForPay_19 : decode cX9_handForPay 19 = .ok (.imul, 1) := by decide +kernel
theorem dX9_handForPay_20 : decode cX9_handForPay 20 = .ok (.aload_n 0, 1) := by decide +kernel
theorem dX9_handForPay_21 : decode cX9_handForPay 21 = .ok (.getfield 15, 3) := by decide +kernel
theorem dX9_handForPay_24 : decode cX9_handForPay 24 = .ok (.iload_n 1, 1) := by decide +kernel
theorem dX9_handForPay_25 : decode cX9_handForPay 25 = .ok (.iaload, 1) := by decide +kernel
theorem dX9_handForPay_26 : decode cX9_handForPay 26 = .ok (.iadd, 1) := by decide +kernel
theorem dX9_handForPay_27 : decode cX9_handForPay 27 = .ok (.iaload, 1) := by decide +kernel
theorem dX9_handForPay_28 : decode cX9_handForPay 28 = .ok (.istore_n 3, 1) := by decide +kernel
theorem dX9_handForPay_29 : decode cX9_handForPay 29 = .ok (.iload_n 2, 1) := by decide +kernel
theorem dX9_handForPay_30 : decode cX9_handForPay 30 = .ok (.bipush 105, 2) := by decide +kernel
theorem dX9_handForPay_32 : decode cX9_handForPay 32 = .ok (.imul, 1) := by decide +kernel
theorem dX9_handForPay_33 : decode cX9_handForPay 33 = .ok (.istore 4, 2) := by decide +kernel
theorem dX9_handForPay_35 : decode cX9_handForPay 35 = .ok (.iload_n 1, 1) := by decide +kernel
theorem dX9_handForPay_36 : decode cX9_handForPay 36 = .ok (.bipush 105, 2) := by decide +kernel
theorem dX9_handForPay_38 : decode cX9_handForPay 38 = .ok (.imul, 1) := by decide +kernel
theorem dX9_handForPay_39 : decode cX9_handForPay 39 = .ok (.iload_n 3, 1) := by decide +kernel
theorem dX9_handForPay_40 : decode cX9_handForPay 40 = .ok (.iadd, 1) := by decide +kernel
theorem dX9_handForPay_41 : decode cX9_handForPay 41 = .ok (.istore 5, 2) := by decide +kernel
theorem dX9_handForPay_43 : decode cX9_handForPay 43 = .ok (.iconst 1, 1) := by decide +kernel
theorem dX9_handForPay_44 : decode cX9_handForPay 44 = .ok (.istore 6, 2) := by decide +kernel
theorem dX9_handForPay_46 : decode cX9_handForPay 46 = .ok (.iload 6, 2) := by decide +kernel
theorem dX9_handForPay_48 : decode cX9_handForPay 48 = .ok (.iload_n 3, 1) := by decide +kernel
theorem dX9_handForPay_49 : decode cX9_handForPay 49 = .ok (.iadd, 1) := by decide +kernel
theorem dX9_handForPay_50 : decode cX9_handForPay 50 = .ok (.bipush 104, 2) := by decide +kernel
theorem dX9_handForPay_52 : decode cX9_handForPay 52 = .ok (.if_icmp .gt 61, 3) := by decide +kernel
theorem dX9_handForPay_55 : decode cX9_handForPay 55 = .ok (.aload_n 0, 1) := by decide +kernel
theorem dX9_handForPay_56 : decode cX9_handForPay 56 = .ok (.getfield 31, 3) := by decide +kernel
theorem dX9_handForPay_59 : decode cX9_handForPay 59 = .ok (.iload 4, 2) := by decide +kernel
theorem dX9_handForPay_61 : decode cX9_handForPay 61 = .ok (.iload 6, 2) := by decide +kernel
theorem dX9_handForPay_63 : decode cX9_handForPay 63 = .ok (.iadd, 1) := by decide +kernel
theorem dX9_handForPay_64 : decode cX9_handForPay 64 = .ok (.iaload, 1) := by decide +kernel
theorem dX9_handForPay_65 : decode cX9_handForPay 65 = .ok (.istore 7, 2) := by decide +kernel
theorem dX9_handForPay_67 : decode cX9_handForPay 67 = .ok (.aload_n 0, 1) := by decide +kernel
theorem dX9_handForPay_68 : decode cX9_handForPay 68 = .ok (.getfield 31, 3) := by decide +kernel
theorem dX9_handForPay_71 : decode cX9_handForPay 71 = .ok (.iload 5, 2) := by decide +kernel
theorem dX9_handForPay_73 : decode cX9_handForPay 73 = .ok (.iload 6, 2) := by decide +kernel
theorem dX9_handForPay_75 : decode cX9_handForPay 75 = .ok (.iadd, 1) := by decide +kernel
theorem dX9_handForPay_76 : decode cX9_handForPay 76 = .ok (.iload 7, 2) := by decide +kernel
theorem dX9_handForPay_78 : decode cX9_handForPay 78 = .ok (.aload_n 0, 1) := by decide +kernel
theorem dX9_handForPay_79 : decode cX9_handForPay 79 = .ok (.getfield 31, 3) := by decide +kernel
theorem dX9_handForPay_82 : decode cX9_handForPay 82 = .ok (.iload 5, 2) := by decide +kernel
theorem dX9_handForPay_84 : decode cX9_handForPay 84 = .ok (.iload 6, 2) := by decide +kernel
theorem dX9_handForPay_86 : decode cX9_handForPay 86 = .ok (.iadd, 1) := by decide +kernel
theorem dX9_handForPay_87 : decode cX9_handForPay 87 = .ok (.iaload, 1) := by decide +kernel
theorem dX9_handForPay_88 : decode cX9_handForPay 88 = .ok (.if_icmp .ge 8, 3) := by decide +kernel
theorem dX9_handForPay_91 : decode cX9_handForPay 91 = .ok (.iload 7, 2) := by decide +kernel
theorem dX9_handForPay_93 : decode cX9_handForPay 93 = .ok (.goto 13, 3) := by decide +kernel
theorem dX9_handForPay_96 : decode cX9_handForPay 96 = .ok (.aload_n 0, 1) := by decide +kernel
theorem dX9_handForPay_97 : decode cX9_handForPay 97 = .ok (.getfield 31, 3) := by decide +kernel
theorem dX9_handForPay_100 : decode cX9_handForPay 100 = .ok (.iload 5, 2) := by decide +kernel
theorem dX9_handForPay_102 : decode cX9_handForPay 102 = .ok (.iload 6, 2) := by decide +kernel
theorem dX9_handForPay_104 : decode cX9_handForPay 104 = .ok (.iadd, 1) := by decide +kernel
theorem dX9_handForPay_105 : decode cX9_handForPay 105 = .ok (.iaload, 1) := by decide +kernel
theorem dX9_handForPay_106 : decode cX9_handForPay 106 = .ok (.iastore, 1) := by decide +kernel
theorem dX9_handForPay_107 : decode cX9_handForPay 107 = .ok (.iinc 6 1, 3) := by decide +kernel
theorem dX9_handForPay_110 : decode cX9_handForPay 110 = .ok (.goto (-64), 3) := by decide +kernel
theorem dX9_handForPay_113 : decode cX9_handForPay 113 = .ok (.return_, 1) := by decide +kernel
noncomputable def f_X8_hourGoesBy_101 (fu : Nat) (a1 : Nat) (m : hM) : Option (Unit × hM) :=
  hLet (sI m a1 0 ((gI m a1 0) + 1)) fun m11 =>
some ((), m11)
set_option maxRecDepth 100000 in
set_option maxHeartbeats 4000000 in
theorem r_X8_hourGoesBy_101 {G : hG} {X : hX} (C : Cx G X 6 cX8_hourGoesBy 5 RX8 none) (K : Cr G X) (fu : Nat) (a1 : Nat) (ha1 : a1 ∈ stL) (m : hM) : Rf vU G X 101 [(1, hA G a1)] [] m (f_X8_hourGoesBy_101 fu a1 m) := by
  unfold f_X8_hourGoesBy_101
  refine rf_aload_n C (n := 102) (q := 0) dX8_hourGoesBy_101 rfl rfl rfl ?_
  refine rf_dup C (n := 103) dX8_hourGoesBy_102 rfl rfl ?_
  refine rf_getI C (n := 106) fl_RX8_54 (pS_l ha1) rfl dX8_hourGoesBy_103 rfl ?_
  refine rf_iconst C (n := 107) (v := 1) dX8_hourGoesBy_106 rfl (by decide) ?_
  refine rf_iadd C (n := 108) dX8_hourGoesBy_107 rfl ?_
  refine rf_putI C (n := 111) pl_RX8_54 (pS_l ha1) rfl ⟨rfl, rfl⟩ dX8_hourGoesBy_108 rfl ?_
  refine rf_letM (fun m11 => ?_)
  exact rf_vret C K dX8_hourGoesBy_111
noncomputable def f_X8_hourGoesBy (fu : Nat) (a1 : Nat) (m : hM) : Option (Unit × hM) :=
  if a1 ∈ stL then (if (gI m a1 0) < 0 then (
some ((), m)) else (
if (gI m a1 0) < 2399 then (
hBd (f_X8_readyPieces fu a1 m) fun y3 m4 =>
if hIn (gI m4 a1 0) 2560 then (
hLet (gI m4 4 (Int32.toNatClampNeg (gI m4 a1 0))) fun y6 =>
if hIn ((gI m4 a1 0) + 1) 2560 then (
hLet (y6 &&& ((gI m4 4 (Int32.toNatClampNeg ((gI m4 a1 0) + 1))) ^^^ (-1))) fun y8 =>
hBd (f_X8_workReady fu a1 y3 y6 m4) fun _ m9 =>
if y8 = 0 then (
f_X8_hourGoesBy_101 fu a1 m9) else (
if (gI m9 32 3) = 0 then (
f_X8_hourGoesBy_101 fu a1 m9) else (
if (gI m9 25 1) ≤ 0 then (
f_X8_hourGoesBy_101 fu a1 m9) else (
hBd (f_X8_handReady fu a1 (y3 &&& ((gI m9 a1 1) ^^^ (-1))) y8 m9) fun _ m14 =>
f_X8_hourGoesBy_101 fu a1 m14)))) else none) else none) else (
some ((), m)))) else none
set_option maxRecDepth 100000 in
set_option maxHeartbeats 4000000 in
theorem c_X8_hourGoesBy (G : hG) (fu : Nat) (a1 : Nat) (m : hM) : Mt vU G 6 yX8_hourGoesBy cX8_hourGoesBy 5 none [hA G 32, hA G a1] m (f_X8_hourGoesBy fu a1 m) := by
  refine mt_of (by decide +kernel) (Nat.le_of_ble_eq_true rfl) (fun X C K => ?_)
  have C : Cx G X 6 cX8_hourGoesBy 5 RX8 none := C
  show Rf vU G X 0 [(0, hA G 32), (1, hA G a1)] [] m _
  unfold f_X8_hourGoesBy
  refine rf_guard (fun ha1 => ?_)
  refine rf_aload_n C (n := 1) (q := 1) dX8_hourGoesBy_0 rfl rfl rfl ?_
  refine rf_getI C (n := 4) fl_RX8_54 (pS_l ha1) rfl dX8_hourGoesBy_1 rfl ?_
  refine rf_if_lt C (tgt := 17) (n := 7) dX8_hourGoesBy_4 (by decide) rfl (fun h1 => ?_) (fun h1 => ?_)
  · exact rf_vret C K dX8_hourGoesBy_17
  · refine rf_aload_n C (n := 8) (q := 1) dX8_hourGoesBy_7 rfl rfl rfl ?_
    refine rf_getI C (n := 11) fl_RX8_54 (pS_l ha1) rfl dX8_hourGoesBy_8 rfl ?_
    refine rf_sipush C (n := 14) (v := 2399) dX8_hourGoesBy_11 rfl (by decide) ?_
    refine rf_icmp_lt C (tgt := 18) (n := 17) dX8_hourGoesBy_14 (by decide) rfl (fun h2 => ?_) (fun h2 => ?_)
    · refine rf_aload_n C (n := 19) (q := 0) dX8_hourGoesBy_18 rfl rfl rfl ?_
      refine rf_aload_n C (n := 20) (q := 1) dX8_hourGoesBy_19 rfl rfl rfl ?_
      refine rf_callVi C (n := 23) (c_X8_readyPieces G fu _ _) mw_RX8_57 ly_32 rfl ⟨by decide, by decide⟩ rfl (Nat.le_of_ble_eq_true rfl) rfl dX8_hourGoesBy_20 rfl (fun y3 m4 => ?_)
      refine rf_istore_n C (n := 24) [(2, .int y3), (0, hA G 32), (1, hA G a1)] dX8_hourGoesBy_23 rfl rfl (by decide) rfl ?_
      refine rf_aload_n C (n := 25) (q := 1) dX8_hourGoesBy_24 rfl rfl rfl ?_
      refine rf_getS C (n := 28) fl_RX8_29 ly_32 rfl dX8_hourGoesBy_25 rfl ?_
      refine rf_getS C (n := 31) fl_RX8_61 ly_1 rfl dX8_hourGoesBy_28 rfl ?_
      refine rf_aload_n C (n := 32) (q := 2) dX8_hourGoesBy_31 rfl rfl rfl ?_
      refine rf_getI C (n := 35) fl_RX8_54 (pS_l ha1) rfl dX8_hourGoesBy_32 rfl ?_
      refine rf_guard (fun h5 => ?_)
      refine rf_iald C (n := 36) ly_4 h5 rfl dX8_hourGoesBy_35 rfl ?_
      refine rf_letI (fun y6 => ?_)
      refine rf_istore_n C (n := 37) [(3, .int y6), (2, .int y3), (0, hA G 32), (1, hA G a1)] dX8_hourGoesBy_36 rfl rfl (by decide) rfl ?_
      refine rf_iload_n C (n := 38) (q := 0) dX8_hourGoesBy_37 rfl rfl rfl ?_
      refine rf_aload_n C (n := 39) (q := 2) dX8_hourGoesBy_38 rfl rfl rfl ?_
      refine rf_getS C (n := 42) fl_RX8_29 ly_32 rfl dX8_hourGoesBy_39 rfl ?_
      refine rf_getS C (n := 45) fl_RX8_61 ly_1 rfl dX8_hourGoesBy_42 rfl ?_
      refine rf_aload_n C (n := 46) (q := 3) dX8_hourGoesBy_45 rfl rfl rfl ?_
      refine rf_getI C (n := 49) fl_RX8_54 (pS_l ha1) rfl dX8_hourGoesBy_46 rfl ?_
      refine rf_iconst C (n := 50) (v := 1) dX8_hourGoesBy_49 rfl (by decide) ?_
      refine rf_iadd C (n := 51) dX8_hourGoesBy_50 rfl ?_
      refine rf_guard (fun h7 => ?_)
      refine rf_iald C (n := 52) ly_4 h7 rfl dX8_hourGoesBy_51 rfl ?_
      refine rf_iconst C (n := 53) (v := (-1)) dX8_hourGoesBy_52 rfl (by decide) ?_
      refine rf_ixor C (n := 54) dX8_hourGoesBy_53 rfl ?_
      refine rf_iand C (n := 55) dX8_hourGoesBy_54 rfl ?_
      refine rf_letI (fun y8 => ?_)
      refine rf_istore C (n := 57) [(4, .int y8), (3, .int y6), (2, .int y3), (0, hA G 32), (1, hA G a1)] dX8_hourGoesBy_55 rfl (by decide) rfl ?_
      refine rf_aload_n C (n := 58) (q := 3) dX8_hourGoesBy_57 rfl rfl rfl ?_
      refine rf_aload_n C (n := 59) (q := 4) dX8_hourGoesBy_58 rfl rfl rfl ?_
      refine rf_iload_n C (n := 60) (q := 2) dX8_hourGoesBy_59 rfl rfl rfl ?_
      refine rf_iload_n C (n := 61) (q := 1) dX8_hourGoesBy_60 rfl rfl rfl ?_
      refine rf_callVv C (n := 64) (c_X8_workReady G fu _ _ _ _) mw_RX8_66 ly_32 rfl ⟨by decide, by decide⟩ rfl (Nat.le_of_ble_eq_true rfl) rfl dX8_hourGoesBy_61 rfl (fun _ m9 => ?_)
      refine rf_iload C (n := 66) (q := 0) dX8_hourGoesBy_64 rfl rfl ?_
      refine rf_if_eq C (tgt := 101) (n := 69) dX8_hourGoesBy_66 (by decide) rfl (fun h10 => ?_) (fun h10 => ?_)
      · exact rf_lv _ [4] rfl (r_X8_hourGoesBy_101 C K fu _ ha1 _)
      · refine rf_aload_n C (n := 70) (q := 3) dX8_hourGoesBy_69 rfl rfl rfl ?_
        refine rf_getI C (n := 73) fl_RX8_9 ly_32 rfl dX8_hourGoesBy_70 rfl ?_
        refine rf_if_eq C (tgt := 101) (n := 76) dX8_hourGoesBy_73 (by decide) rfl (fun h12 => ?_) (fun h12 => ?_)
        · exact rf_lv _ [4] rfl (r_X8_hourGoesBy_101 C K fu _ ha1 _)
        · refine rf_aload_n C (n := 77) (q := 3) dX8_hourGoesBy_76 rfl rfl rfl ?_
          refine rf_getS C (n := 80) fl_RX8_37 ly_32 rfl dX8_hourGoesBy_77 rfl ?_
          refine rf_getI C (n := 83) fl_RX8_70 ly_25 rfl dX8_hourGoesBy_80 rfl ?_
          refine rf_if_le C (tgt := 101) (n := 86) dX8_hourGoesBy_83 (by decide) rfl (fun h13 => ?_) (fun h13 => ?_)
          · exact rf_lv _ [4] rfl (r_X8_hourGoesBy_101 C K fu _ ha1 _)
          · refine rf_aload_n C (n := 87) (q := 3) dX8_hourGoesBy_86 rfl rfl rfl ?_
            refine rf_aload_n C (n := 88) (q := 4) dX8_hourGoesBy_87 rfl rfl rfl ?_
            refine rf_iload_n C (n := 89) (q := 2) dX8_hourGoesBy_88 rfl rfl rfl ?_
            refine rf_aload_n C (n := 90) (q := 4) dX8_hourGoesBy_89 rfl rfl rfl ?_
            refine rf_getI C (n := 93) fl_RX8_46 (pS_l ha1) rfl dX8_hourGoesBy_90 rfl ?_
            refine rf_iconst C (n := 94) (v := (-1)) dX8_hourGoesBy_93 rfl (by decide) ?_
            refine rf_ixor C (n := 95) dX8_hourGoesBy_94 rfl ?_
            refine rf_iand C (n := 96) dX8_hourGoesBy_95 rfl ?_
            refine rf_iload C (n := 98) (q := 0) dX8_hourGoesBy_96 rfl rfl ?_
            refine rf_callVv C (n := 101) (c_X8_handReady G fu _ _ _ _) mw_RX8_75 ly_32 rfl ⟨by decide, by decide⟩ rfl (Nat.le_of_ble_eq_true rfl) rfl dX8_hourGoesBy_98 rfl (fun _ m14 => ?_)
            exact rf_lv _ [4] rfl (r_X8_hourGoesBy_101 C K fu _ ha1 _)
    · exact rf_vret C K dX8_hourGoesBy_17
noncomputable def f_X8_isHopeless_94 (fu : Nat) (k25 : Nat → Int32 → Int32 → hM → Option (Int32 × hM)) (a1 : Nat) (x2 : Int32) (x3 : Int32) (m : hM) : Option (Int32 × hM) :=
  hLet (x3 + 1) fun y9 =>
k25 a1 x2 y9 m
set_option maxRecDepth 100000 in
set_option maxHeartbeats 4000000 in
theorem r_X8_isHopeless_94 {G : hG} {X : hX} (C : Cx G X 2 cX8_isHopeless 6 RX8 (some .boolean)) (K : Cr G X) (fu : Nat) (k25 : Nat → Int32 → Int32 → hM → Option (Int32 × hM)) (hk25 : ∀ (a1 : Nat) (ha1 : a1 ∈ stL) (x2 : Int32) (x3 : Int32) (m : hM), Rf vI G X 25 [(0, hA G 32), (1, hA G a1), (2, .int x2), (3, .int x3)] [] m (k25 a1 x2 x3 m)) (a1 : Nat) (ha1 : a1 ∈ stL) (x2 : Int32) (x3 : Int32) (m : hM) : Rf vI G X 94 [(0, hA G 32), (1, hA G a1), (2, .int x2), (3, .int x3)] [] m (f_X8_isHopeless_94 fu k25 a1 x2 x3 m) := by
  unfold f_X8_isHopeless_94
  refine rf_iinc2 C (n := 97) (q := 3) (fun y9 => [(3, .int y9), (0, hA G 32), (1, hA G a1), (2, .int x2)]) dX8_isHopeless_94 rfl rfl (by decide) (by decide) (fun _ => rfl) (fun y9 => ?_)
  refine rf_goto C (n := 25) dX8_isHopeless_97 (by decide) ?_
  exact rf_lv _ [1, 2, 3, 0] rfl (hk25 _ ha1 _ _ _)
noncomputable def f_X8_isHopeless_74 (fu : Nat) (k25 : Nat → Int32 → Int32 → hM → Option (Int32 × hM)) (a1 : Nat) (x2 : Int32) (x3 : Int32) (s0 : Int32) (m : hM) : Option (Int32 × hM) :=
  if ¬ (((gI m a1 1) >>> (x3 &&& 31)) &&& 1) = 0 then (
f_X8_isHopeless_94 fu k25 a1 x2 x3 m) else (
if ¬ s0 = 0 then (
f_X8_isHopeless_94 fu k25 a1 x2 x3 m) else (
some (1, m)))
set_option maxRecDepth 100000 in
set_option maxHeartbeats 4000000 in
theorem r_X8_isHopeless_74 {G : hG} {X : hX} (C : Cx G X 2 cX8_isHopeless 6 RX8 (some .boolean)) (K : Cr G X) (fu : Nat) (k25 : Nat → Int32 → Int32 → hM → Option (Int32 × hM)) (hk25 : ∀ (a1 : Nat) (ha1 : a1 ∈ stL) (x2 : Int32) (x3 : Int32) (m : hM), Rf vI G X 25 [(0, hA G 32), (1, hA G a1), (2, .int x2), (3, .int x3)] [] m (k25 a1 x2 x3 m)) (a1 : Nat) (ha1 : a1 ∈ stL) (x2 : Int32) (x3 : Int32) (s0 : Int32) (m : hM) : Rf vI G X 74 [(0, hA G 32), (1, hA G a1), (2, .int x2), (3, .int x3)] [.int s0] m (f_X8_isHopeless_74 fu k25 a1 x2 x3 s0 m) := by
  unfold f_X8_isHopeless_74
  refine rf_istore C (n := 76) [(5, .int s0), (0, hA G 32), (1, hA G a1), (2, .int x2), (3, .int x3)] dX8_isHopeless_74 rfl (by decide) rfl ?_
  refine rf_aload_n C (n := 77) (q := 2) dX8_isHopeless_76 rfl rfl rfl ?_
  refine rf_getI C (n := 80) fl_RX8_46 (pS_l ha1) rfl dX8_isHopeless_77 rfl ?_
  refine rf_iload_n C (n := 81) (q := 4) dX8_isHopeless_80 rfl rfl rfl ?_
  refine rf_ishr C (n := 82) dX8_isHopeless_81 rfl ?_
  refine rf_iconst C (n := 83) (v := 1) dX8_isHopeless_82 rfl (by decide) ?_
  refine rf_iand C (n := 84) dX8_isHopeless_83 rfl ?_
  refine rf_if_ne C (tgt := 94) (n := 87) dX8_isHopeless_84 (by decide) rfl (fun h8 => ?_) (fun h8 => ?_)
  · exact rf_lv _ [1, 2, 3, 4] rfl (r_X8_isHopeless_94 C K fu _ hk25 _ ha1 _ _ _)
  · refine rf_iload C (n := 89) (q := 0) dX8_isHopeless_87 rfl rfl ?_
    refine rf_if_ne C (tgt := 94) (n := 92) dX8_isHopeless_89 (by decide) rfl (fun h10 => ?_) (fun h10 => ?_)
    · exact rf_lv _ [1, 2, 3, 4] rfl (r_X8_isHopeless_94 C K fu _ hk25 _ ha1 _ _ _)
    · refine rf_iconst C (n := 93) (v := 1) dX8_isHopeless_92 rfl (by decide) ?_
      exact rf_zret C K (by decide) dX8_isHopeless_93
noncomputable def s_X8_isHopeless_25 (fu : Nat) (ih : Nat → Int32 → Int32 → hM → Option (Int32 × hM)) (a1 : Nat) (x2 : Int32) (x3 : Int32) (m : hM) : Option (Int32 × hM) :=
  if (gI m 18 6) ≤ x3 then (
some (0, m)) else (
if hIn x3 8 then (
hBd (f_X0_officesWith fu (gI m 19 (Int32.toNatClampNeg x3)) m) fun y4 m5 =>
if x2 = 0 then (
if hIn x3 8 then (
f_X8_isHopeless_74 fu ih a1 x2 x3 (y4 &&& (1 <<< ((gI m5 (a1 + 1) (Int32.toNatClampNeg x3)) &&& 31))) m5) else none) else (
f_X8_isHopeless_74 fu ih a1 x2 x3 y4 m5)) else none)
noncomputable def f_X8_isHopeless_25 (fu : Nat) (n : Nat) : Nat → Int32 → Int32 → hM → Option (Int32 × hM) :=
  Nat.rec (motive := fun _ => Nat → Int32 → Int32 → hM → Option (Int32 × hM)) (fun _ _ _ _ => none) (fun _ ih => s_X8_isHopeless_25 fu ih) n
theorem f_X8_isHopeless_25_s (fu : Nat) (n : Nat) (a1 : Nat) (x2 : Int32) (x3 : Int32) (m : hM) : f_X8_isHopeless_25 fu (n + 1) a1 x2 x3 m = s_X8_isHopeless_25 fu (f_X8_isHopeless_25 fu n) a1 x2 x3 m := rfl
set_option maxRecDepth 100000 in
set_option maxHeartbeats 4000000 in
theorem r_X8_isHopeless_25 {G : hG} {X : hX} (C : Cx G X 2 cX8_isHopeless 6 RX8 (some .boolean)) (K : Cr G X) (fu : Nat) (n : Nat) : ∀ (a1 : Nat) (ha1 : a1 ∈ stL) (x2 : Int32) (x3 : Int32) (m : hM), Rf vI G X 25 [(0, hA G 32), (1, hA G a1), (2, .int x2), (3, .int x3)] [] m (f_X8_isHopeless_25 fu n a1 x2 x3 m) := by
  induction n with
  | zero => intros; exact rf_none
  | succ n ih =>
    intro a1 ha1 x2 x3 m
    show Rf vI G X 25 [(0, hA G 32), (1, hA G a1), (2, .int x2), (3, .int x3)] [] m (s_X8_isHopeless_25 fu (f_X8_isHopeless_25 fu n) a1 x2 x3 m)
    unfold s_X8_isHopeless_25
    refine rf_iload_n C (n := 26) (q := 3) dX8_isHopeless_25 rfl rfl rfl ?_
    refine rf_aload_n C (n := 27) (q := 0) dX8_isHopeless_26 rfl rfl rfl ?_
    refine rf_getS C (n := 30) fl_RX8_33 ly_32 rfl dX8_isHopeless_27 rfl ?_
    refine rf_getI C (n := 33) fl_RX8_41 ly_18 rfl dX8_isHopeless_30 rfl ?_
    refine rf_icmp_ge C (tgt := 100) (n := 36) dX8_isHopeless_33 (by decide) rfl (fun h2 => ?_) (fun h2 => ?_)
    · refine rf_iconst C (n := 101) (v := 0) dX8_isHopeless_100 rfl (by decide) ?_
      exact rf_zret C K (by decide) dX8_isHopeless_101
    · refine rf_aload_n C (n := 37) (q := 0) dX8_isHopeless_36 rfl rfl rfl ?_
      refine rf_getS C (n := 40) fl_RX8_29 ly_32 rfl dX8_isHopeless_37 rfl ?_
      refine rf_aload_n C (n := 41) (q := 0) dX8_isHopeless_40 rfl rfl rfl ?_
      refine rf_getS C (n := 44) fl_RX8_33 ly_32 rfl dX8_isHopeless_41 rfl ?_
      refine rf_getS C (n := 47) fl_RX8_113 ly_18 rfl dX8_isHopeless_44 rfl ?_
      refine rf_iload_n C (n := 48) (q := 3) dX8_isHopeless_47 rfl rfl rfl ?_
      refine rf_guard (fun h3 => ?_)
      refine rf_iald C (n := 49) ly_19 h3 rfl dX8_isHopeless_48 rfl ?_
      refine rf_callVi C (n := 52) (c_X0_officesWith G fu _ _) mw_RX8_213 ly_1 rfl ⟨by decide, by decide⟩ rfl (Nat.le_of_ble_eq_true rfl) rfl dX8_isHopeless_49 rfl (fun y4 m5 => ?_)
      refine rf_istore C (n := 54) [(4, .int y4), (0, hA G 32), (1, hA G a1), (2, .int x2), (3, .int x3)] dX8_isHopeless_52 rfl (by decide) rfl ?_
      refine rf_iload_n C (n := 55) (q := 3) dX8_isHopeless_54 rfl rfl rfl ?_
      refine rf_if_eq C (tgt := 63) (n := 58) dX8_isHopeless_55 (by decide) rfl (fun h6 => ?_) (fun h6 => ?_)
      · refine rf_iload C (n := 65) (q := 0) dX8_isHopeless_63 rfl rfl ?_
        refine rf_iconst C (n := 66) (v := 1) dX8_isHopeless_65 rfl (by decide) ?_
        refine rf_aload_n C (n := 67) (q := 2) dX8_isHopeless_66 rfl rfl rfl ?_
        refine rf_getS C (n := 70) fl_RX8_84 (pS_l ha1) rfl dX8_isHopeless_67 rfl ?_
        refine rf_iload_n C (n := 71) (q := 4) dX8_isHopeless_70 rfl rfl rfl ?_
        refine rf_guard (fun h7 => ?_)
        refine rf_iald C (n := 72) (st_a1 ha1) h7 rfl dX8_isHopeless_71 rfl ?_
        refine rf_ishl C (n := 73) dX8_isHopeless_72 rfl ?_
        refine rf_iand C (n := 74) dX8_isHopeless_73 rfl ?_
        exact rf_lv _ [1, 2, 3, 4] rfl (r_X8_isHopeless_74 C K fu _ ih _ ha1 _ _ _ _)
      · refine rf_iload C (n := 60) (q := 0) dX8_isHopeless_58 rfl rfl ?_
        refine rf_goto C (n := 74) dX8_isHopeless_60 (by decide) ?_
        exact rf_lv _ [1, 2, 3, 4] rfl (r_X8_isHopeless_74 C K fu _ ih _ ha1 _ _ _ _)
noncomputable def f_X8_isHopeless_22 (fu : Nat) (a1 : Nat) (s0 : Int32) (m : hM) : Option (Int32 × hM) :=
  f_X8_isHopeless_25 fu fu a1 s0 0 m
set_option maxRecDepth 100000 in
set_option maxHeartbeats 4000000 in
theorem r_X8_isHopeless_22 {G : hG} {X : hX} (C : Cx G X 2 cX8_isHopeless 6 RX8 (some .boolean)) (K : Cr G X) (fu : Nat) (a1 : Nat) (ha1 : a1 ∈ stL) (s0 : Int32) (m : hM) : Rf vI G X 22 [(0, hA G 32), (1, hA G a1)] [.int s0] m (f_X8_isHopeless_22 fu a1 s0 m) := by
  unfold f_X8_isHopeless_22
  refine rf_istore_n C (n := 23) [(2, .int s0), (0, hA G 32), (1, hA G a1)] dX8_isHopeless_22 rfl rfl (by decide) rfl ?_
  refine rf_iconst C (n := 24) (v := 0) dX8_isHopeless_23 rfl (by decide) ?_
  refine rf_istore_n C (n := 25) [(3, .int 0), (2, .int s0), (0, hA G 32), (1, hA G a1)] dX8_isHopeless_24 rfl rfl (by decide) rfl ?_
  exact rf_lv _ [2, 3, 1, 0] rfl (r_X8_isHopeless_25 C K fu fu _ ha1 _ _ _)
noncomputable def f_X8_isHopeless_21 (fu : Nat) (a1 : Nat) (m : hM) : Option (Int32 × hM) :=
  f_X8_isHopeless_22 fu a1 0 m
set_option maxRecDepth 100000 in
set_option maxHeartbeats 4000000 in
theorem r_X8_isHopeless_21 {G : hG} {X : hX} (C : Cx G X 2 cX8_isHopeless 6 RX8 (some .boolean)) (K : Cr G X) (fu : Nat) (a1 : Nat) (ha1 : a1 ∈ stL) (m : hM) : Rf vI G X 21 [(0, hA G 32), (1, hA G a1)] [] m (f_X8_isHopeless_21 fu a1 m) := by
  unfold f_X8_isHopeless_21
  refine rf_iconst C (n := 22) (v := 0) dX8_isHopeless_21 rfl (by decide) ?_
  exact rf_lv _ [0, 1] rfl (r_X8_isHopeless_22 C K fu _ ha1 _ _)
noncomputable def f_X8_isHopeless (fu : Nat) (a1 : Nat) (m : hM) : Option (Int32 × hM) :=
  if a1 ∈ stL then (if (gI m 32 3) = 0 then (
f_X8_isHopeless_21 fu a1 m) else (
if (gI m 25 1) ≤ 0 then (
f_X8_isHopeless_21 fu a1 m) else (
f_X8_isHopeless_22 fu a1 1 m))) else none
set_option maxRecDepth 100000 in
set_option maxHeartbeats 4000000 in
theorem c_X8_isHopeless (G : hG) (fu : Nat) (a1 : Nat) (m : hM) : Mt vI G 2 yX8_isHopeless cX8_isHopeless 6 (some .boolean) [hA G 32, hA G a1] m (f_X8_isHopeless fu a1 m) := by
  refine mt_of (by decide +kernel) (Nat.le_of_ble_eq_true rfl) (fun X C K => ?_)
  have C : Cx G X 2 cX8_isHopeless 6 RX8 (some .boolean) := C
  show Rf vI G X 0 [(0, hA G 32), (1, hA G a1)] [] m _
  unfold f_X8_isHopeless
  refine rf_guard (fun ha1 => ?_)
  refine rf_aload_n C (n := 1) (q := 0) dX8_isHopeless_0 rfl rfl rfl ?_
  refine rf_getI C (n := 4) fl_RX8_9 ly_32 rfl dX8_isHopeless_1 rfl ?_
  refine rf_if_eq C (tgt := 21) (n := 7) dX8_isHopeless_4 (by decide) rfl (fun h1 => ?_) (fun h1 => ?_)
  · exact rf_lv _ [0, 1] rfl (r_X8_isHopeless_21 C K fu _ ha1 _)
  · refine rf_aload_n C (n := 8) (q := 0) dX8_isHopeless_7 rfl rfl rfl ?_
    refine rf_getS C (n := 11) fl_RX8_37 ly_32 rfl dX8_isHopeless_8 rfl ?_
    refine rf_getI C (n := 14) fl_RX8_70 ly_25 rfl dX8_isHopeless_11 rfl ?_
    refine rf_if_le C (tgt := 21) (n := 17) dX8_isHopeless_14 (by decide) rfl (fun h11 => ?_) (fun h11 => ?_)
    · exact rf_lv _ [0, 1] rfl (r_X8_isHopeless_21 C K fu _ ha1 _)
    · refine rf_iconst C (n := 18) (v := 1) dX8_isHopeless_17 rfl (by decide) ?_
      refine rf_goto C (n := 22) dX8_isHopeless_18 (by decide) ?_
      exact rf_lv _ [0, 1] rfl (r_X8_isHopeless_22 C K fu _ ha1 _ _)
noncomputable def f_X8_runToEnd_58 (fu : Nat) (a1 : Nat) (x3 : Int32) (m : hM) : Option (Int32 × hM) :=
  if ¬ (gI m a1 1) = x3 then (
some ((-2), m)) else (
some (gI m a1 0, m))
set_option maxRecDepth 100000 in
set_option maxHeartbeats 4000000 in
theorem r_X8_runToEnd_58 {G : hG} {X : hX} (C : Cx G X 7 cX8_runToEnd 5 RX8 (some .int)) (K : Cr G X) (fu : Nat) (a1 : Nat) (ha1 : a1 ∈ stL) (x3 : Int32) (m : hM) : Rf vI G X 58 [(1, hA G a1), (3, .int x3)] [] m (f_X8_runToEnd_58 fu a1 x3 m) := by
  unfold f_X8_runToEnd_58
  refine rf_aload_n C (n := 59) (q := 0) dX8_runToEnd_58 rfl rfl rfl ?_
  refine rf_getI C (n := 62) fl_RX8_46 (pS_l ha1) rfl dX8_runToEnd_59 rfl ?_
  refine rf_iload_n C (n := 63) (q := 1) dX8_runToEnd_62 rfl rfl rfl ?_
  refine rf_icmp_ne C (tgt := 73) (n := 66) dX8_runToEnd_63 (by decide) rfl (fun h8 => ?_) (fun h8 => ?_)
  · refine rf_bipush C (n := 75) (v := (-2)) dX8_runToEnd_73 rfl (by decide) ?_
    exact rf_iret C K dX8_runToEnd_75
  · refine rf_aload_n C (n := 67) (q := 0) dX8_runToEnd_66 rfl rfl rfl ?_
    refine rf_getI C (n := 70) fl_RX8_54 (pS_l ha1) rfl dX8_runToEnd_67 rfl ?_
    refine rf_goto C (n := 75) dX8_runToEnd_70 (by decide) ?_
    exact rf_iret C K dX8_runToEnd_75
noncomputable def s_X8_runToEnd_25 (fu : Nat) (ih : Nat → Int32 → Int32 → Int32 → hM → Option (Int32 × hM)) (a1 : Nat) (x2 : Int32) (x3 : Int32) (x4 : Int32) (m : hM) : Option (Int32 × hM) :=
  if x2 ≤ x4 then (
f_X8_runToEnd_58 fu a1 x3 m) else (
if 2399 ≤ x4 then (
f_X8_runToEnd_58 fu a1 x3 m) else (
if (gI m a1 1) = x3 then (
f_X8_runToEnd_58 fu a1 x3 m) else (
hBd (f_X8_hourGoesBy fu a1 m) fun _ m11 =>
hLet (x4 + 1) fun y12 =>
ih a1 x2 x3 y12 m11)))
noncomputable def f_X8_runToEnd_25 (fu : Nat) (n : Nat) : Nat → Int32 → Int32 → Int32 → hM → Option (Int32 × hM) :=
  Nat.rec (motive := fun _ => Nat → Int32 → Int32 → Int32 → hM → Option (Int32 × hM)) (fun _ _ _ _ _ => none) (fun _ ih => s_X8_runToEnd_25 fu ih) n
theorem f_X8_runToEnd_25_s (fu : Nat) (n : Nat) (a1 : Nat) (x2 : Int32) (x3 : Int32) (x4 : Int32) (m : hM) : f_X8_runToEnd_25 fu (n + 1) a1 x2 x3 x4 m = s_X8_runToEnd_25 fu (f_X8_runToEnd_25 fu n) a1 x2 x3 x4 m := rfl
set_option maxRecDepth 100000 in
set_option maxHeartbeats 4000000 in
theorem r_X8_runToEnd_25 {G : hG} {X : hX} (C : Cx G X 7 cX8_runToEnd 5 RX8 (some .int)) (K : Cr G X) (fu : Nat) (n : Nat) : ∀ (a1 : Nat) (ha1 : a1 ∈ stL) (x2 : Int32) (x3 : Int32) (x4 : Int32) (m : hM), Rf vI G X 25 [(0, hA G 32), (1, hA G a1), (2, .int x2), (3, .int x3), (4, .int x4)] [] m (f_X8_runToEnd_25 fu n a1 x2 x3 x4 m) := by
  induction n with
  | zero => intros; exact rf_none
  | succ n ih =>
    intro a1 ha1 x2 x3 x4 m
    show Rf vI G X 25 [(0, hA G 32), (1, hA G a1), (2, .int x2), (3, .int x3), (4, .int x4)] [] m (s_X8_runToEnd_25 fu (f_X8_runToEnd_25 fu n) a1 x2 x3 x4 m)
    unfold s_X8_runToEnd_25
    refine rf_iload C (n := 27) (q := 4) dX8_runToEnd_25 rfl rfl ?_
    refine rf_iload_n C (n := 28) (q := 2) dX8_runToEnd_27 rfl rfl rfl ?_
    refine rf_icmp_ge C (tgt := 58) (n := 31) dX8_runToEnd_28 (by decide) rfl (fun h7 => ?_) (fun h7 => ?_)
    · exact rf_lv _ [1, 3] rfl (r_X8_runToEnd_58 C K fu _ ha1 _ _)
    · refine rf_iload C (n := 33) (q := 4) dX8_runToEnd_31 rfl rfl ?_
      refine rf_sipush C (n := 36) (v := 2399) dX8_runToEnd_33 rfl (by decide) ?_
      refine rf_icmp_ge C (tgt := 58) (n := 39) dX8_runToEnd_36 (by decide) rfl (fun h9 => ?_) (fun h9 => ?_)
      · exact rf_lv _ [1, 3] rfl (r_X8_runToEnd_58 C K fu _ ha1 _ _)
      · refine rf_aload_n C (n := 40) (q := 1) dX8_runToEnd_39 rfl rfl rfl ?_
        refine rf_getI C (n := 43) fl_RX8_46 (pS_l ha1) rfl dX8_runToEnd_40 rfl ?_
        refine rf_iload_n C (n := 44) (q := 3) dX8_runToEnd_43 rfl rfl rfl ?_
        refine rf_icmp_eq C (tgt := 58) (n := 47) dX8_runToEnd_44 (by decide) rfl (fun h10 => ?_) (fun h10 => ?_)
        · exact rf_lv _ [1, 3] rfl (r_X8_runToEnd_58 C K fu _ ha1 _ _)
        · refine rf_aload_n C (n := 48) (q := 0) dX8_runToEnd_47 rfl rfl rfl ?_
          refine rf_aload_n C (n := 49) (q := 1) dX8_runToEnd_48 rfl rfl rfl ?_
          refine rf_callVv C (n := 52) (c_X8_hourGoesBy G fu _ _) mw_RX8_209 ly_32 rfl ⟨by decide, by decide⟩ rfl (Nat.le_of_ble_eq_true rfl) rfl dX8_runToEnd_49 rfl (fun _ m11 => ?_)
          refine rf_iinc2 C (n := 55) (q := 4) (fun y12 => [(4, .int y12), (0, hA G 32), (1, hA G a1), (2, .int x2), (3, .int x3)]) dX8_runToEnd_52 rfl rfl (by decide) (by decide) (fun _ => rfl) (fun y12 => ?_)
          refine rf_goto C (n := 25) dX8_runToEnd_55 (by decide) ?_
          exact rf_lv _ [1, 2, 3, 4, 0] rfl (ih _ ha1 _ _ _ _)
noncomputable def f_X8_runToEnd (fu : Nat) (a1 : Nat) (x2 : Int32) (m : hM) : Option (Int32 × hM) :=
  if a1 ∈ stL then (hBd (f_X4_all fu m) fun y1 m2 =>
hBd (f_X8_isHopeless fu a1 m2) fun y3 m4 =>
if y3 = 0 then (
hLet (gI m4 a1 0) fun y6 =>
f_X8_runToEnd_25 fu fu a1 x2 y1 y6 m4) else (
some ((-2), m4))) else none
set_option maxRecDepth 100000 in
set_option maxHeartbeats 4000000 in
theorem c_X8_runToEnd (G : hG) (fu : Nat) (a1 : Nat) (x2 : Int32) (m : hM) : Mt vI G 7 yX8_runToEnd cX8_runToEnd 5 (some .int) [hA G 32, hA G a1, .int x2] m (f_X8_runToEnd fu a1 x2 m) := by
  refine mt_of (by decide +kernel) (Nat.le_of_ble_eq_true rfl) (fun X C K => ?_)
  have C : Cx G X 7 cX8_runToEnd 5 RX8 (some .int) := C
  show Rf vI G X 0 [(0, hA G 32), (1, hA G a1), (2, .int x2)] [] m _
  unfold f_X8_runToEnd
  refine rf_guard (fun ha1 => ?_)
  refine rf_aload_n C (n := 1) (q := 0) dX8_runToEnd_0 rfl rfl rfl ?_
  refine rf_getS C (n := 4) fl_RX8_33 ly_32 rfl dX8_runToEnd_1 rfl ?_
  refine rf_callVi C (n := 7) (c_X4_all G fu _) mw_RX8_202 ly_18 rfl ⟨by decide, by decide⟩ rfl (Nat.le_of_ble_eq_true rfl) rfl dX8_runToEnd_4 rfl (fun y1 m2 => ?_)
  refine rf_istore_n C (n := 8) [(3, .int y1), (0, hA G 32), (1, hA G a1), (2, .int x2)] dX8_runToEnd_7 rfl rfl (by decide) rfl ?_
  refine rf_aload_n C (n := 9) (q := 1) dX8_runToEnd_8 rfl rfl rfl ?_
  refine rf_aload_n C (n := 10) (q := 2) dX8_runToEnd_9 rfl rfl rfl ?_
  refine rf_callVi C (n := 13) (c_X8_isHopeless G fu _ _) mw_RX8_205 ly_32 rfl ⟨by decide, by decide⟩ rfl (Nat.le_of_ble_eq_true rfl) rfl dX8_runToEnd_10 rfl (fun y3 m4 => ?_)
  refine rf_if_eq C (tgt := 19) (n := 16) dX8_runToEnd_13 (by decide) rfl (fun h5 => ?_) (fun h5 => ?_)
  · refine rf_aload_n C (n := 20) (q := 2) dX8_runToEnd_19 rfl rfl rfl ?_
    refine rf_getI C (n := 23) fl_RX8_54 (pS_l ha1) rfl dX8_runToEnd_20 rfl ?_
    refine rf_letI (fun y6 => ?_)
    refine rf_istore C (n := 25) [(4, .int y6), (3, .int y1), (0, hA G 32), (1, hA G a1), (2, .int x2)] dX8_runToEnd_23 rfl (by decide) rfl ?_
    exact rf_lv _ [2, 3, 4, 1, 0] rfl (r_X8_runToEnd_25 C K fu fu _ ha1 _ _ _ _)
  · refine rf_bipush C (n := 18) (v := (-2)) dX8_runToEnd_16 rfl (by decide) ?_
    exact rf_iret C K dX8_runToEnd_18
noncomputable def f_X8_idleThough_114 (fu : Nat) (k2 : Int32 → Int32 → Int32 → hM → Option (Int32 × hM)) (x1 : Int32) (x2 : Int32) (x3 : Int32) (m : hM) : Option (Int32 × hM) :=
  hLet (x3 + 1) fun y3 =>
k2 x1 x2 y3 m
set_option maxRecDepth 100000 in
set_option maxHeartbeats 4000000 in
theorem r_X8_idleThough_114 {G : hG} {X : hX} (C : Cx G X 2 cX8_idleThough 6 RX8 (some .int)) (K : Cr G X) (fu : Nat) (k2 : Int32 → Int32 → Int32 → hM → Option (Int32 × hM)) (hk2 : ∀ (x1 : Int32) (x2 : Int32) (x3 : Int32) (m : hM), Rf vI G X 2 [(0, hA G 32), (1, .int x1), (2, .int x2), (3, .int x3)] [] m (k2 x1 x2 x3 m)) (x1 : Int32) (x2 : Int32) (x3 : Int32) (m : hM) : Rf vI G X 114 [(0, hA G 32), (1, .int x1), (2, .int x2), (3, .int x3)] [] m (f_X8_idleThough_114 fu k2 x1 x2 x3 m) := by
  unfold f_X8_idleThough_114
  refine rf_iinc2 C (n := 117) (q := 3) (fun y3 => [(3, .int y3), (0, hA G 32), (1, .int x1), (2, .int x2)]) dX8_idleThough_114 rfl rfl (by decide) (by decide) (fun _ => rfl) (fun y3 => ?_)
  refine rf_goto C (n := 2) dX8_idleThough_117 (by decide) ?_
  exact rf_lv _ [1, 2, 3, 0] rfl (hk2 _ _ _ _)
noncomputable def f_X8_idleThough_108 (fu : Nat) (k2 : Int32 → Int32 → Int32 → hM → Option (Int32 × hM)) (k16 : Int32 → Int32 → Int32 → Int32 → hM → Option (Int32 × hM)) (x1 : Int32) (x2 : Int32) (x3 : Int32) (x4 : Int32) (m : hM) : Option (Int32 × hM) :=
  hLet (x4 + 1) fun y8 =>
k16 x1 x2 x3 y8 m
set_option maxRecDepth 100000 in
set_option maxHeartbeats 4000000 in
theorem r_X8_idleThough_108 {G : hG} {X : hX} (C : Cx G X 2 cX8_idleThough 6 RX8 (some .int)) (K : Cr G X) (fu : Nat) (k2 : Int32 → Int32 → Int32 → hM → Option (Int32 × hM)) (hk2 : ∀ (x1 : Int32) (x2 : Int32) (x3 : Int32) (m : hM), Rf vI G X 2 [(0, hA G 32), (1, .int x1), (2, .int x2), (3, .int x3)] [] m (k2 x1 x2 x3 m)) (k16 : Int32 → Int32 → Int32 → Int32 → hM → Option (Int32 × hM)) (hk16 : ∀ (x1 : Int32) (x2 : Int32) (x3 : Int32) (x4 : Int32) (m : hM), Rf vI G X 16 [(0, hA G 32), (1, .int x1), (2, .int x2), (3, .int x3), (4, .int x4)] [] m (k16 x1 x2 x3 x4 m)) (x1 : Int32) (x2 : Int32) (x3 : Int32) (x4 : Int32) (m : hM) : Rf vI G X 108 [(0, hA G 32), (1, .int x1), (2, .int x2), (3, .int x3), (4, .int x4)] [] m (f_X8_idleThough_108 fu k2 k16 x1 x2 x3 x4 m) := by
  unfold f_X8_idleThough_108
  refine rf_iinc2 C (n := 111) (q := 4) (fun y8 => [(4, .int y8), (0, hA G 32), (1, .int x1), (2, .int x2), (3, .int x3)]) dX8_idleThough_108 rfl rfl (by decide) (by decide) (fun _ => rfl) (fun y8 => ?_)
  refine rf_goto C (n := 16) dX8_idleThough_111 (by decide) ?_
  exact rf_lv _ [1, 2, 3, 4, 0] rfl (hk16 _ _ _ _ _)
noncomputable def f_X8_idleThough_100 (fu : Nat) (x3 : Int32) (x4 : Int32) (m : hM) : Option (Int32 × hM) :=
  some ((x3 * 6) + x4, m)
set_option maxRecDepth 100000 in
set_option maxHeartbeats 4000000 in
theorem r_X8_idleThough_100 {G : hG} {X : hX} (C : Cx G X 2 cX8_idleThough 6 RX8 (some .int)) (K : Cr G X) (fu : Nat) (x3 : Int32) (x4 : Int32) (m : hM) : Rf vI G X 100 [(3, .int x3), (4, .int x4)] [] m (f_X8_idleThough_100 fu x3 x4 m) := by
  unfold f_X8_idleThough_100
  refine rf_iload_n C (n := 101) (q := 0) dX8_idleThough_100 rfl rfl rfl ?_
  refine rf_bipush C (n := 103) (v := 6) dX8_idleThough_101 rfl (by decide) ?_
  refine rf_imul C (n := 104) dX8_idleThough_103 rfl ?_
  refine rf_iload C (n := 106) (q := 1) dX8_idleThough_104 rfl rfl ?_
  refine rf_iadd C (n := 107) dX8_idleThough_106 rfl ?_
  exact rf_iret C K dX8_idleThough_107
noncomputable def f_X8_idleThough_60 (fu : Nat) (k2 : Int32 → Int32 → Int32 → hM → Option (Int32 × hM)) (k16 : Int32 → Int32 → Int32 → Int32 → hM → Option (Int32 × hM)) (x1 : Int32) (x2 : Int32) (x3 : Int32) (x4 : Int32) (s0 : Int32) (m : hM) : Option (Int32 × hM) :=
  if s0 = 0 then (
f_X8_idleThough_108 fu k2 k16 x1 x2 x3 x4 m) else (
hBd (f_X8_canWork fu x3 x4 m) fun y9 m10 =>
if y9 = 0 then (
f_X8_idleThough_108 fu k2 k16 x1 x2 x3 x4 m10) else (
if hIn x4 6 then (
if hIn x4 6 then (
if (gI m10 (6 + 2 * (Int32.toNatClampNeg x4)) 4) ≤ (gI m10 33 (Int32.toNatClampNeg x4)) then (
f_X8_idleThough_108 fu k2 k16 x1 x2 x3 x4 m10) else (
f_X8_idleThough_100 fu x3 x4 m10)) else none) else none))
set_option maxRecDepth 100000 in
set_option maxHeartbeats 4000000 in
theorem r_X8_idleThough_60 {G : hG} {X : hX} (C : Cx G X 2 cX8_idleThough 6 RX8 (some .int)) (K : Cr G X) (fu : Nat) (k2 : Int32 → Int32 → Int32 → hM → Option (Int32 × hM)) (hk2 : ∀ (x1 : Int32) (x2 : Int32) (x3 : Int32) (m : hM), Rf vI G X 2 [(0, hA G 32), (1, .int x1), (2, .int x2), (3, .int x3)] [] m (k2 x1 x2 x3 m)) (k16 : Int32 → Int32 → Int32 → Int32 → hM → Option (Int32 × hM)) (hk16 : ∀ (x1 : Int32) (x2 : Int32) (x3 : Int32) (x4 : Int32) (m : hM), Rf vI G X 16 [(0, hA G 32), (1, .int x1), (2, .int x2), (3, .int x3), (4, .int x4)] [] m (k16 x1 x2 x3 x4 m)) (x1 : Int32) (x2 : Int32) (x3 : Int32) (x4 : Int32) (s0 : Int32) (m : hM) : Rf vI G X 60 [(0, hA G 32), (1, .int x1), (2, .int x2), (3, .int x3), (4, .int x4)] [.int s0] m (f_X8_idleThough_60 fu k2 k16 x1 x2 x3 x4 s0 m) := by
  unfold f_X8_idleThough_60
  refine rf_istore C (n := 62) [(5, .int s0), (0, hA G 32), (1, .int x1), (2, .int x2), (3, .int x3), (4, .int x4)] dX8_idleThough_60 rfl (by decide) rfl ?_
  refine rf_iload C (n := 64) (q := 0) dX8_idleThough_62 rfl rfl ?_
  refine rf_if_eq C (tgt := 108) (n := 67) dX8_idleThough_64 (by decide) rfl (fun h7 => ?_) (fun h7 => ?_)
  · exact rf_lv _ [1, 2, 3, 4, 5] rfl (r_X8_idleThough_108 C K fu _ hk2 _ hk16 _ _ _ _ _)
  · refine rf_aload_n C (n := 68) (q := 1) dX8_idleThough_67 rfl rfl rfl ?_
    refine rf_iload_n C (n := 69) (q := 4) dX8_idleThough_68 rfl rfl rfl ?_
    refine rf_iload C (n := 71) (q := 5) dX8_idleThough_69 rfl rfl ?_
    refine rf_callVi C (n := 74) (c_X8_canWork G fu _ _ _) mw_RX8_93 ly_32 rfl ⟨by decide, by decide⟩ rfl (Nat.le_of_ble_eq_true rfl) rfl dX8_idleThough_71 rfl (fun y9 m10 => ?_)
    refine rf_if_eq C (tgt := 108) (n := 77) dX8_idleThough_74 (by decide) rfl (fun h11 => ?_) (fun h11 => ?_)
    · exact rf_lv _ [1, 2, 3, 4, 5] rfl (r_X8_idleThough_108 C K fu _ hk2 _ hk16 _ _ _ _ _)
    · refine rf_aload_n C (n := 78) (q := 1) dX8_idleThough_77 rfl rfl rfl ?_
      refine rf_getS C (n := 81) fl_RX8_22 ly_32 rfl dX8_idleThough_78 rfl ?_
      refine rf_iload C (n := 83) (q := 5) dX8_idleThough_81 rfl rfl ?_
      refine rf_guard (fun h12 => ?_)
      refine rf_iald C (n := 84) ly_33 h12 rfl dX8_idleThough_83 rfl ?_
      refine rf_aload_n C (n := 85) (q := 1) dX8_idleThough_84 rfl rfl rfl ?_
      refine rf_getS C (n := 88) fl_RX8_29 ly_32 rfl dX8_idleThough_85 rfl ?_
      refine rf_getS C (n := 91) fl_RX8_97 ly_1 rfl dX8_idleThough_88 rfl ?_
      refine rf_iload C (n := 93) (q := 5) dX8_idleThough_91 rfl rfl ?_
      refine rf_guard (fun h13 => ?_)
      refine rf_aaldO C (n := 94) ly_2 h13 (of_r h13) dX8_idleThough_93 rfl ?_
      refine rf_getI C (n := 97) fl_RX8_101 (pO_l (of_o h13)) rfl dX8_idleThough_94 rfl ?_
      refine rf_icmp_ge C (tgt := 108) (n := 100) dX8_idleThough_97 (by decide) rfl (fun h14 => ?_) (fun h14 => ?_)
      · exact rf_lv _ [1, 2, 3, 4, 5] rfl (r_X8_idleThough_108 C K fu _ hk2 _ hk16 _ _ _ _ _)
      · exact rf_lv _ [4, 5] rfl (r_X8_idleThough_100 C K fu _ _ _)
noncomputable def s_X8_idleThough_16 (fu : Nat) (k2 : Int32 → Int32 → Int32 → hM → Option (Int32 × hM)) (ih : Int32 → Int32 → Int32 → Int32 → hM → Option (Int32 × hM)) (x1 : Int32) (x2 : Int32) (x3 : Int32) (x4 : Int32) (m : hM) : Option (Int32 × hM) :=
  if (gI m 1 4) ≤ x4 then (
f_X8_idleThough_114 fu k2 x1 x2 x3 m) else (
if ¬ ((x1 >>> (x3 &&& 31)) &&& 1) = 1 then (
f_X8_idleThough_114 fu k2 x1 x2 x3 m) else (
if hIn x2 2560 then (
if ¬ (((gI m 4 (Int32.toNatClampNeg x2)) >>> (x4 &&& 31)) &&& 1) = 1 then (
f_X8_idleThough_60 fu k2 ih x1 x2 x3 x4 0 m) else (
f_X8_idleThough_60 fu k2 ih x1 x2 x3 x4 1 m)) else none))
noncomputable def f_X8_idleThough_16 (fu : Nat) (k2 : Int32 → Int32 → Int32 → hM → Option (Int32 × hM)) (n : Nat) : Int32 → Int32 → Int32 → Int32 → hM → Option (Int32 × hM) :=
  Nat.rec (motive := fun _ => Int32 → Int32 → Int32 → Int32 → hM → Option (Int32 × hM)) (fun _ _ _ _ _ => none) (fun _ ih => s_X8_idleThough_16 fu k2 ih) n
theorem f_X8_idleThough_16_s (fu : Nat) (k2 : Int32 → Int32 → Int32 → hM → Option (Int32 × hM)) (n : Nat) (x1 : Int32) (x2 : Int32) (x3 : Int32) (x4 : Int32) (m : hM) : f_X8_idleThough_16 fu k2 (n + 1) x1 x2 x3 x4 m = s_X8_idleThough_16 fu k2 (f_X8_idleThough_16 fu k2 n) x1 x2 x3 x4 m := rfl
set_option maxRecDepth 100000 in
set_option maxHeartbeats 4000000 in
theorem r_X8_idleThough_16 {G : hG} {X : hX} (C : Cx G X 2 cX8_idleThough 6 RX8 (some .int)) (K : Cr G X) (fu : Nat) (k2 : Int32 → Int32 → Int32 → hM → Option (Int32 × hM)) (hk2 : ∀ (x1 : Int32) (x2 : Int32) (x3 : Int32) (m : hM), Rf vI G X 2 [(0, hA G 32), (1, .int x1), (2, .int x2), (3, .int x3)] [] m (k2 x1 x2 x3 m)) (n : Nat) : ∀ (x1 : Int32) (x2 : Int32) (x3 : Int32) (x4 : Int32) (m : hM), Rf vI G X 16 [(0, hA G 32), (1, .int x1), (2, .int x2), (3, .int x3), (4, .int x4)] [] m (f_X8_idleThough_16 fu k2 n x1 x2 x3 x4 m) := by
  induction n with
  | zero => intros; exact rf_none
  | succ n ih =>
    intro x1 x2 x3 x4 m
    show Rf vI G X 16 [(0, hA G 32), (1, .int x1), (2, .int x2), (3, .int x3), (4, .int x4)] [] m (s_X8_idleThough_16 fu k2 (f_X8_idleThough_16 fu k2 n) x1 x2 x3 x4 m)
    unfold s_X8_idleThough_16
    refine rf_iload C (n := 18) (q := 4) dX8_idleThough_16 rfl rfl ?_
    refine rf_aload_n C (n := 19) (q := 0) dX8_idleThough_18 rfl rfl rfl ?_
    refine rf_getS C (n := 22) fl_RX8_29 ly_32 rfl dX8_idleThough_19 rfl ?_
    refine rf_getI C (n := 25) fl_RX8_139 ly_1 rfl dX8_idleThough_22 rfl ?_
    refine rf_icmp_ge C (tgt := 114) (n := 28) dX8_idleThough_25 (by decide) rfl (fun h2 => ?_) (fun h2 => ?_)
    · exact rf_lv _ [0, 1, 2, 3] rfl (r_X8_idleThough_114 C K fu _ hk2 _ _ _ _)
    · refine rf_iload_n C (n := 29) (q := 1) dX8_idleThough_28 rfl rfl rfl ?_
      refine rf_iload_n C (n := 30) (q := 3) dX8_idleThough_29 rfl rfl rfl ?_
      refine rf_ishr C (n := 31) dX8_idleThough_30 rfl ?_
      refine rf_iconst C (n := 32) (v := 1) dX8_idleThough_31 rfl (by decide) ?_
      refine rf_iand C (n := 33) dX8_idleThough_32 rfl ?_
      refine rf_iconst C (n := 34) (v := 1) dX8_idleThough_33 rfl (by decide) ?_
      refine rf_icmp_ne C (tgt := 114) (n := 37) dX8_idleThough_34 (by decide) rfl (fun h4 => ?_) (fun h4 => ?_)
      · exact rf_lv _ [0, 1, 2, 3] rfl (r_X8_idleThough_114 C K fu _ hk2 _ _ _ _)
      · refine rf_aload_n C (n := 38) (q := 0) dX8_idleThough_37 rfl rfl rfl ?_
        refine rf_getS C (n := 41) fl_RX8_29 ly_32 rfl dX8_idleThough_38 rfl ?_
        refine rf_getS C (n := 44) fl_RX8_61 ly_1 rfl dX8_idleThough_41 rfl ?_
        refine rf_iload_n C (n := 45) (q := 2) dX8_idleThough_44 rfl rfl rfl ?_
        refine rf_guard (fun h5 => ?_)
        refine rf_iald C (n := 46) ly_4 h5 rfl dX8_idleThough_45 rfl ?_
        refine rf_iload C (n := 48) (q := 4) dX8_idleThough_46 rfl rfl ?_
        refine rf_ishr C (n := 49) dX8_idleThough_48 rfl ?_
        refine rf_iconst C (n := 50) (v := 1) dX8_idleThough_49 rfl (by decide) ?_
        refine rf_iand C (n := 51) dX8_idleThough_50 rfl ?_
        refine rf_iconst C (n := 52) (v := 1) dX8_idleThough_51 rfl (by decide) ?_
        refine rf_icmp_ne C (tgt := 59) (n := 55) dX8_idleThough_52 (by decide) rfl (fun h6 => ?_) (fun h6 => ?_)
        · refine rf_iconst C (n := 60) (v := 0) dX8_idleThough_59 rfl (by decide) ?_
          exact rf_lv _ [0, 1, 2, 3, 4] rfl (r_X8_idleThough_60 C K fu _ hk2 _ ih _ _ _ _ _ _)
        · refine rf_iconst C (n := 56) (v := 1) dX8_idleThough_55 rfl (by decide) ?_
          refine rf_goto C (n := 60) dX8_idleThough_56 (by decide) ?_
          exact rf_lv _ [0, 1, 2, 3, 4] rfl (r_X8_idleThough_60 C K fu _ hk2 _ ih _ _ _ _ _ _)
noncomputable def s_X8_idleThough_2 (fu : Nat) (ih : Int32 → Int32 → Int32 → hM → Option (Int32 × hM)) (x1 : Int32) (x2 : Int32) (x3 : Int32) (m : hM) : Option (Int32 × hM) :=
  if (gI m 18 6) ≤ x3 then (
some ((-1), m)) else (
f_X8_idleThough_16 fu ih fu x1 x2 x3 0 m)
noncomputable def f_X8_idleThough_2 (fu : Nat) (n : Nat) : Int32 → Int32 → Int32 → hM → Option (Int32 × hM) :=
  Nat.rec (motive := fun _ => Int32 → Int32 → Int32 → hM → Option (Int32 × hM)) (fun _ _ _ _ => none) (fun _ ih => s_X8_idleThough_2 fu ih) n
theorem f_X8_idleThough_2_s (fu : Nat) (n : Nat) (x1 : Int32) (x2 : Int32) (x3 : Int32) (m : hM) : f_X8_idleThough_2 fu (n + 1) x1 x2 x3 m = s_X8_idleThough_2 fu (f_X8_idleThough_2 fu n) x1 x2 x3 m := rfl
set_option maxRecDepth 100000 in
set_option maxHeartbeats 4000000 in
theorem r_X8_idleThough_2 {G : hG} {X : hX} (C : Cx G X 2 cX8_idleThough 6 RX8 (some .int)) (K : Cr G X) (fu : Nat) (n : Nat) : ∀ (x1 : Int32) (x2 : Int32) (x3 : Int32) (m : hM), Rf vI G X 2 [(0, hA G 32), (1, .int x1), (2, .int x2), (3, .int x3)] [] m (f_X8_idleThough_2 fu n x1 x2 x3 m) := by
  induction n with
  | zero => intros; exact rf_none
  | succ n ih =>
    intro x1 x2 x3 m
    show Rf vI G X 2 [(0, hA G 32), (1, .int x1), (2, .int x2), (3, .int x3)] [] m (s_X8_idleThough_2 fu (f_X8_idleThough_2 fu n) x1 x2 x3 m)
    unfold s_X8_idleThough_2
    refine rf_iload_n C (n := 3) (q := 3) dX8_idleThough_2 rfl rfl rfl ?_
    refine rf_aload_n C (n := 4) (q := 0) dX8_idleThough_3 rfl rfl rfl ?_
    refine rf_getS C (n := 7) fl_RX8_33 ly_32 rfl dX8_idleThough_4 rfl ?_
    refine rf_getI C (n := 10) fl_RX8_41 ly_18 rfl dX8_idleThough_7 rfl ?_
    refine rf_icmp_ge C (tgt := 120) (n := 13) dX8_idleThough_10 (by decide) rfl (fun h1 => ?_) (fun h1 => ?_)
    · refine rf_iconst C (n := 121) (v := (-1)) dX8_idleThough_120 rfl (by decide) ?_
      exact rf_iret C K dX8_idleThough_121
    · refine rf_iconst C (n := 14) (v := 0) dX8_idleThough_13 rfl (by decide) ?_
      refine rf_istore C (n := 16) [(4, .int 0), (0, hA G 32), (1, .int x1), (2, .int x2), (3, .int x3)] dX8_idleThough_14 rfl (by decide) rfl ?_
      exact rf_lv _ [1, 2, 3, 4, 0] rfl (r_X8_idleThough_16 C K fu _ ih fu _ _ _ _ _)
noncomputable def f_X8_idleThough (fu : Nat) (x1 : Int32) (x2 : Int32) (m : hM) : Option (Int32 × hM) :=
  f_X8_idleThough_2 fu fu x1 x2 0 m
set_option maxRecDepth 100000 in
set_option maxHeartbeats 4000000 in
theorem c_X8_idleThough (G : hG) (fu : Nat) (x1 : Int32) (x2 : Int32) (m : hM) : Mt vI G 2 yX8_idleThough cX8_idleThough 6 (some .int) [hA G 32, .int x1, .int x2] m (f_X8_idleThough fu x1 x2 m) := by
  refine mt_of (by decide +kernel) (Nat.le_of_ble_eq_true rfl) (fun X C K => ?_)
  have C : Cx G X 2 cX8_idleThough 6 RX8 (some .int) := C
  show Rf vI G X 0 [(0, hA G 32), (1, .int x1), (2, .int x2)] [] m _
  unfold f_X8_idleThough
  refine rf_iconst C (n := 1) (v := 0) dX8_idleThough_0 rfl (by decide) ?_
  refine rf_istore_n C (n := 2) [(3, .int 0), (0, hA G 32), (1, .int x1), (2, .int x2)] dX8_idleThough_1 rfl rfl (by decide) rfl ?_
  exact rf_lv _ [1, 2, 3, 0] rfl (r_X8_idleThough_2 C K fu fu _ _ _ _)
noncomputable def f_X8_doneAlone_195 (fu : Nat) (k48 : Int32 → Int32 → Int32 → Int32 → Int32 → Int32 → Int32 → Int32 → hM → Option (Int32 × hM)) (x1 : Int32) (x2 : Int32) (x4 : Int32) (x5 : Int32) (x6 : Int32) (x7 : Int32) (x8 : Int32) (x9 : Int32) (m : hM) : Option (Int32 × hM) :=
  hLet (x9 + 1) fun y14 =>
k48 x1 x2 x4 x5 x6 x7 x8 y14 m
set_option maxRecDepth 100000 in
set_option maxHeartbeats 4000000 in
theorem r_X8_doneAlone_195 {G : hG} {X : hX} (C : Cx G X 2 cX8_doneAlone 11 RX8 (some .int)) (K : Cr G X) (fu : Nat) (k48 : Int32 → Int32 → Int32 → Int32 → Int32 → Int32 → Int32 → Int32 → hM → Option (Int32 × hM)) (hk48 : ∀ (x1 : Int32) (x2 : Int32) (x4 : Int32) (x5 : Int32) (x6 : Int32) (x7 : Int32) (x8 : Int32) (x9 : Int32) (m : hM), Rf vI G X 48 [(0, hA G 32), (1, .int x1), (2, .int x2), (4, .int x4), (5, .int x5), (6, .int x6), (7, .int x7), (8, .int x8), (9, .int x9)] [] m (k48 x1 x2 x4 x5 x6 x7 x8 x9 m)) (x1 : Int32) (x2 : Int32) (x4 : Int32) (x5 : Int32) (x6 : Int32) (x7 : Int32) (x8 : Int32) (x9 : Int32) (m : hM) : Rf vI G X 195 [(0, hA G 32), (1, .int x1), (2, .int x2), (4, .int x4), (5, .int x5), (6, .int x6), (7, .int x7), (8, .int x8), (9, .int x9)] [] m (f_X8_doneAlone_195 fu k48 x1 x2 x4 x5 x6 x7 x8 x9 m) := by
  unfold f_X8_doneAlone_195
  refine rf_iinc2 C (n := 198) (q := 8) (fun y14 => [(9, .int y14), (0, hA G 32), (1, .int x1), (2, .int x2), (4, .int x4), (5, .int x5), (6, .int x6), (7, .int x7), (8, .int x8)]) dX8_doneAlone_195 rfl rfl (by decide) (by decide) (fun _ => rfl) (fun y14 => ?_)
  refine rf_goto C (n := 48) dX8_doneAlone_198 (by decide) ?_
  exact rf_lv _ [1, 2, 3, 4, 5, 6, 7, 8, 0] rfl (hk48 _ _ _ _ _ _ _ _ _)
noncomputable def f_X8_doneAlone_193 (fu : Nat) (k48 : Int32 → Int32 → Int32 → Int32 → Int32 → Int32 → Int32 → Int32 → hM → Option (Int32 × hM)) (x1 : Int32) (x2 : Int32) (x4 : Int32) (x5 : Int32) (x6 : Int32) (x8 : Int32) (x9 : Int32) (s0 : Int32) (m : hM) : Option (Int32 × hM) :=
  f_X8_doneAlone_195 fu k48 x1 x2 x4 x5 x6 s0 x8 x9 m
set_option maxRecDepth 100000 in
set_option maxHeartbeats 4000000 in
theorem r_X8_doneAlone_193 {G : hG} {X : hX} (C : Cx G X 2 cX8_doneAlone 11 RX8 (some .int)) (K : Cr G X) (fu : Nat) (k48 : Int32 → Int32 → Int32 → Int32 → Int32 → Int32 → Int32 → Int32 → hM → Option (Int32 × hM)) (hk48 : ∀ (x1 : Int32) (x2 : Int32) (x4 : Int32) (x5 : Int32) (x6 : Int32) (x7 : Int32) (x8 : Int32) (x9 : Int32) (m : hM), Rf vI G X 48 [(0, hA G 32), (1, .int x1), (2, .int x2), (4, .int x4), (5, .int x5), (6, .int x6), (7, .int x7), (8, .int x8), (9, .int x9)] [] m (k48 x1 x2 x4 x5 x6 x7 x8 x9 m)) (x1 : Int32) (x2 : Int32) (x4 : Int32) (x5 : Int32) (x6 : Int32) (x8 : Int32) (x9 : Int32) (s0 : Int32) (m : hM) : Rf vI G X 193 [(0, hA G 32), (1, .int x1), (2, .int x2), (4, .int x4), (5, .int x5), (6, .int x6), (8, .int x8), (9, .int x9)] [.int s0] m (f_X8_doneAlone_193 fu k48 x1 x2 x4 x5 x6 x8 x9 s0 m) := by
  unfold f_X8_doneAlone_193
  refine rf_istore C (n := 195) [(7, .int s0), (0, hA G 32), (1, .int x1), (2, .int x2), (4, .int x4), (5, .int x5), (6, .int x6), (8, .int x8), (9, .int x9)] dX8_doneAlone_193 rfl (by decide) rfl ?_
  exact rf_lv _ [1, 2, 3, 4, 5, 6, 0, 7, 8] rfl (r_X8_doneAlone_195 C K fu _ hk48 _ _ _ _ _ _ _ _ _)
noncomputable def f_X8_doneAlone_180 (fu : Nat) (k48 : Int32 → Int32 → Int32 → Int32 → Int32 → Int32 → Int32 → Int32 → hM → Option (Int32 × hM)) (x1 : Int32) (x2 : Int32) (x4 : Int32) (x5 : Int32) (x6 : Int32) (x7 : Int32) (x9 : Int32) (s0 : Int32) (m : hM) : Option (Int32 × hM) :=
  if s0 = 0 then (
f_X8_doneAlone_193 fu k48 x1 x2 x4 x5 x6 s0 x9 x7 m) else (
f_X8_doneAlone_193 fu k48 x1 x2 x4 x5 x6 s0 x9 0 m)
set_option maxRecDepth 100000 in
set_option maxHeartbeats 4000000 in
theorem r_X8_doneAlone_180 {G : hG} {X : hX} (C : Cx G X 2 cX8_doneAlone 11 RX8 (some .int)) (K : Cr G X) (fu : Nat) (k48 : Int32 → Int32 → Int32 → Int32 → Int32 → Int32 → Int32 → Int32 → hM → Option (Int32 × hM)) (hk48 : ∀ (x1 : Int32) (x2 : Int32) (x4 : Int32) (x5 : Int32) (x6 : Int32) (x7 : Int32) (x8 : Int32) (x9 : Int32) (m : hM), Rf vI G X 48 [(0, hA G 32), (1, .int x1), (2, .int x2), (4, .int x4), (5, .int x5), (6, .int x6), (7, .int x7), (8, .int x8), (9, .int x9)] [] m (k48 x1 x2 x4 x5 x6 x7 x8 x9 m)) (x1 : Int32) (x2 : Int32) (x4 : Int32) (x5 : Int32) (x6 : Int32) (x7 : Int32) (x9 : Int32) (s0 : Int32) (m : hM) : Rf vI G X 180 [(0, hA G 32), (1, .int x1), (2, .int x2), (4, .int x4), (5, .int x5), (6, .int x6), (7, .int x7), (9, .int x9)] [.int s0] m (f_X8_doneAlone_180 fu k48 x1 x2 x4 x5 x6 x7 x9 s0 m) := by
  unfold f_X8_doneAlone_180
  refine rf_istore C (n := 182) [(8, .int s0), (0, hA G 32), (1, .int x1), (2, .int x2), (4, .int x4), (5, .int x5), (6, .int x6), (7, .int x7), (9, .int x9)] dX8_doneAlone_180 rfl (by decide) rfl ?_
  refine rf_iload C (n := 184) (q := 0) dX8_doneAlone_182 rfl rfl ?_
  refine rf_if_eq C (tgt := 191) (n := 187) dX8_doneAlone_184 (by decide) rfl (fun h19 => ?_) (fun h19 => ?_)
  · refine rf_iload C (n := 193) (q := 7) dX8_doneAlone_191 rfl rfl ?_
    exact rf_lv _ [1, 2, 3, 4, 5, 6, 0, 8] rfl (r_X8_doneAlone_193 C K fu _ hk48 _ _ _ _ _ _ _ _ _)
  · refine rf_iconst C (n := 188) (v := 0) dX8_doneAlone_187 rfl (by decide) ?_
    refine rf_goto C (n := 193) dX8_doneAlone_188 (by decide) ?_
    exact rf_lv _ [1, 2, 3, 4, 5, 6, 0, 8] rfl (r_X8_doneAlone_193 C K fu _ hk48 _ _ _ _ _ _ _ _ _)
noncomputable def f_X8_doneAlone_179 (fu : Nat) (k48 : Int32 → Int32 → Int32 → Int32 → Int32 → Int32 → Int32 → Int32 → hM → Option (Int32 × hM)) (x1 : Int32) (x2 : Int32) (x4 : Int32) (x5 : Int32) (x6 : Int32) (x7 : Int32) (x9 : Int32) (m : hM) : Option (Int32 × hM) :=
  f_X8_doneAlone_180 fu k48 x1 x2 x4 x5 x6 x7 x9 0 m
set_option maxRecDepth 100000 in
set_option maxHeartbeats 4000000 in
theorem r_X8_doneAlone_179 {G : hG} {X : hX} (C : Cx G X 2 cX8_doneAlone 11 RX8 (some .int)) (K : Cr G X) (fu : Nat) (k48 : Int32 → Int32 → Int32 → Int32 → Int32 → Int32 → Int32 → Int32 → hM → Option (Int32 × hM)) (hk48 : ∀ (x1 : Int32) (x2 : Int32) (x4 : Int32) (x5 : Int32) (x6 : Int32) (x7 : Int32) (x8 : Int32) (x9 : Int32) (m : hM), Rf vI G X 48 [(0, hA G 32), (1, .int x1), (2, .int x2), (4, .int x4), (5, .int x5), (6, .int x6), (7, .int x7), (8, .int x8), (9, .int x9)] [] m (k48 x1 x2 x4 x5 x6 x7 x8 x9 m)) (x1 : Int32) (x2 : Int32) (x4 : Int32) (x5 : Int32) (x6 : Int32) (x7 : Int32) (x9 : Int32) (m : hM) : Rf vI G X 179 [(0, hA G 32), (1, .int x1), (2, .int x2), (4, .int x4), (5, .int x5), (6, .int x6), (7, .int x7), (9, .int x9)] [] m (f_X8_doneAlone_179 fu k48 x1 x2 x4 x5 x6 x7 x9 m) := by
  unfold f_X8_doneAlone_179
  refine rf_iconst C (n := 180) (v := 0) dX8_doneAlone_179 rfl (by decide) ?_
  exact rf_lv _ [0, 1, 2, 3, 4, 5, 6, 7] rfl (r_X8_doneAlone_180 C K fu _ hk48 _ _ _ _ _ _ _ _ _)
noncomputable def f_X8_doneAlone_129 (fu : Nat) (k48 : Int32 → Int32 → Int32 → Int32 → Int32 → Int32 → Int32 → Int32 → hM → Option (Int32 × hM)) (x1 : Int32) (x2 : Int32) (x4 : Int32) (x5 : Int32) (x6 : Int32) (x7 : Int32) (x9 : Int32) (s0 : Int32) (m : hM) : Option (Int32 × hM) :=
  f_X8_doneAlone_195 fu k48 x1 x2 x4 x5 x6 x7 s0 x9 m
set_option maxRecDepth 100000 in
set_option maxHeartbeats 4000000 in
theorem r_X8_doneAlone_129 {G : hG} {X : hX} (C : Cx G X 2 cX8_doneAlone 11 RX8 (some .int)) (K : Cr G X) (fu : Nat) (k48 : Int32 → Int32 → Int32 → Int32 → Int32 → Int32 → Int32 → Int32 → hM → Option (Int32 × hM)) (hk48 : ∀ (x1 : Int32) (x2 : Int32) (x4 : Int32) (x5 : Int32) (x6 : Int32) (x7 : Int32) (x8 : Int32) (x9 : Int32) (m : hM), Rf vI G X 48 [(0, hA G 32), (1, .int x1), (2, .int x2), (4, .int x4), (5, .int x5), (6, .int x6), (7, .int x7), (8, .int x8), (9, .int x9)] [] m (k48 x1 x2 x4 x5 x6 x7 x8 x9 m)) (x1 : Int32) (x2 : Int32) (x4 : Int32) (x5 : Int32) (x6 : Int32) (x7 : Int32) (x9 : Int32) (s0 : Int32) (m : hM) : Rf vI G X 129 [(0, hA G 32), (1, .int x1), (2, .int x2), (4, .int x4), (5, .int x5), (6, .int x6), (7, .int x7), (9, .int x9)] [.int s0] m (f_X8_doneAlone_129 fu k48 x1 x2 x4 x5 x6 x7 x9 s0 m) := by
  unfold f_X8_doneAlone_129
  refine rf_istore C (n := 131) [(8, .int s0), (0, hA G 32), (1, .int x1), (2, .int x2), (4, .int x4), (5, .int x5), (6, .int x6), (7, .int x7), (9, .int x9)] dX8_doneAlone_129 rfl (by decide) rfl ?_
  refine rf_goto C (n := 195) dX8_doneAlone_131 (by decide) ?_
  exact rf_lv _ [1, 2, 3, 4, 5, 6, 7, 0, 8] rfl (r_X8_doneAlone_195 C K fu _ hk48 _ _ _ _ _ _ _ _ _)
noncomputable def f_X8_doneAlone_124 (fu : Nat) (k48 : Int32 → Int32 → Int32 → Int32 → Int32 → Int32 → Int32 → Int32 → hM → Option (Int32 × hM)) (x1 : Int32) (x2 : Int32) (x4 : Int32) (x5 : Int32) (x6 : Int32) (x7 : Int32) (x9 : Int32) (m : hM) : Option (Int32 × hM) :=
  f_X8_doneAlone_129 fu k48 x1 x2 x4 x5 x6 x7 x9 1 m
set_option maxRecDepth 100000 in
set_option maxHeartbeats 4000000 in
theorem r_X8_doneAlone_124 {G : hG} {X : hX} (C : Cx G X 2 cX8_doneAlone 11 RX8 (some .int)) (K : Cr G X) (fu : Nat) (k48 : Int32 → Int32 → Int32 → Int32 → Int32 → Int32 → Int32 → Int32 → hM → Option (Int32 × hM)) (hk48 : ∀ (x1 : Int32) (x2 : Int32) (x4 : Int32) (x5 : Int32) (x6 : Int32) (x7 : Int32) (x8 : Int32) (x9 : Int32) (m : hM), Rf vI G X 48 [(0, hA G 32), (1, .int x1), (2, .int x2), (4, .int x4), (5, .int x5), (6, .int x6), (7, .int x7), (8, .int x8), (9, .int x9)] [] m (k48 x1 x2 x4 x5 x6 x7 x8 x9 m)) (x1 : Int32) (x2 : Int32) (x4 : Int32) (x5 : Int32) (x6 : Int32) (x7 : Int32) (x9 : Int32) (m : hM) : Rf vI G X 124 [(0, hA G 32), (1, .int x1), (2, .int x2), (4, .int x4), (5, .int x5), (6, .int x6), (7, .int x7), (9, .int x9)] [] m (f_X8_doneAlone_124 fu k48 x1 x2 x4 x5 x6 x7 x9 m) := by
  unfold f_X8_doneAlone_124
  refine rf_iconst C (n := 125) (v := 1) dX8_doneAlone_124 rfl (by decide) ?_
  refine rf_goto C (n := 129) dX8_doneAlone_125 (by decide) ?_
  exact rf_lv _ [0, 1, 2, 3, 4, 5, 6, 7] rfl (r_X8_doneAlone_129 C K fu _ hk48 _ _ _ _ _ _ _ _ _)
noncomputable def f_X8_doneAlone_78 (fu : Nat) (k48 : Int32 → Int32 → Int32 → Int32 → Int32 → Int32 → Int32 → Int32 → hM → Option (Int32 × hM)) (x1 : Int32) (x2 : Int32) (x4 : Int32) (x5 : Int32) (x6 : Int32) (x7 : Int32) (x8 : Int32) (x9 : Int32) (s0 : Int32) (m : hM) : Option (Int32 × hM) :=
  if x8 = 0 then (
if s0 = 0 then (
f_X8_doneAlone_195 fu k48 x1 x2 x4 x5 x6 x7 x8 x9 m) else (
hLet (x6 + (-1)) fun y15 =>
hLet (x7 + 1) fun y16 =>
if ¬ y15 = 0 then (
if x5 = (-1) then (
f_X8_doneAlone_179 fu k48 x1 x2 x4 x5 y15 y16 x9 m) else (
if hIn x1 8 then (
if ¬ y16 = (gI m 20 (Int32.toNatClampNeg x1)) then (
f_X8_doneAlone_179 fu k48 x1 x2 x4 x5 y15 y16 x9 m) else (
f_X8_doneAlone_180 fu k48 x1 x2 x4 x5 y15 y16 x9 1 m)) else none)) else (
some (x9 + 1, m)))) else (
hLet (sI m 32 7 ((gI m 32 7) + 1)) fun m22 =>
if s0 = 0 then (
f_X8_doneAlone_124 fu k48 x1 x2 x4 x5 x6 x7 x9 m22) else (
if x5 = (-1) then (
f_X8_doneAlone_124 fu k48 x1 x2 x4 x5 x6 x7 x9 m22) else (
if hIn x9 2560 then (
if ¬ (((gI m22 4 (Int32.toNatClampNeg x9)) >>> (x5 &&& 31)) &&& 1) = 0 then (
f_X8_doneAlone_129 fu k48 x1 x2 x4 x5 x6 x7 x9 0 m22) else (
f_X8_doneAlone_124 fu k48 x1 x2 x4 x5 x6 x7 x9 m22)) else none)))
set_option maxRecDepth 100000 in
set_option maxHeartbeats 4000000 in
theorem r_X8_doneAlone_78 {G : hG} {X : hX} (C : Cx G X 2 cX8_doneAlone 11 RX8 (some .int)) (K : Cr G X) (fu : Nat) (k48 : Int32 → Int32 → Int32 → Int32 → Int32 → Int32 → Int32 → Int32 → hM → Option (Int32 × hM)) (hk48 : ∀ (x1 : Int32) (x2 : Int32) (x4 : Int32) (x5 : Int32) (x6 : Int32) (x7 : Int32) (x8 : Int32) (x9 : Int32) (m : hM), Rf vI G X 48 [(0, hA G 32), (1, .int x1), (2, .int x2), (4, .int x4), (5, .int x5), (6, .int x6), (7, .int x7), (8, .int x8), (9, .int x9)] [] m (k48 x1 x2 x4 x5 x6 x7 x8 x9 m)) (x1 : Int32) (x2 : Int32) (x4 : Int32) (x5 : Int32) (x6 : Int32) (x7 : Int32) (x8 : Int32) (x9 : Int32) (s0 : Int32) (m : hM) : Rf vI G X 78 [(0, hA G 32), (1, .int x1), (2, .int x2), (4, .int x4), (5, .int x5), (6, .int x6), (7, .int x7), (8, .int x8), (9, .int x9)] [.int s0] m (f_X8_doneAlone_78 fu k48 x1 x2 x4 x5 x6 x7 x8 x9 s0 m) := by
  unfold f_X8_doneAlone_78
  refine rf_istore C (n := 80) [(10, .int s0), (0, hA G 32), (1, .int x1), (2, .int x2), (4, .int x4), (5, .int x5), (6, .int x6), (7, .int x7), (8, .int x8), (9, .int x9)] dX8_doneAlone_78 rfl (by decide) rfl ?_
  refine rf_iload C (n := 82) (q := 8) dX8_doneAlone_80 rfl rfl ?_
  refine rf_if_eq C (tgt := 134) (n := 85) dX8_doneAlone_82 (by decide) rfl (fun h12 => ?_) (fun h12 => ?_)
  · refine rf_iload C (n := 136) (q := 0) dX8_doneAlone_134 rfl rfl ?_
    refine rf_if_eq C (tgt := 195) (n := 139) dX8_doneAlone_136 (by decide) rfl (fun h13 => ?_) (fun h13 => ?_)
    · exact rf_lv _ [1, 2, 3, 4, 5, 6, 7, 8, 9] rfl (r_X8_doneAlone_195 C K fu _ hk48 _ _ _ _ _ _ _ _ _)
    · refine rf_iinc2 C (n := 142) (q := 6) (fun y15 => [(6, .int y15), (10, .int s0), (0, hA G 32), (1, .int x1), (2, .int x2), (4, .int x4), (5, .int x5), (7, .int x7), (8, .int x8), (9, .int x9)]) dX8_doneAlone_139 rfl rfl (by decide) (by decide) (fun _ => rfl) (fun y15 => ?_)
      refine rf_iinc2 C (n := 145) (q := 7) (fun y16 => [(7, .int y16), (6, .int y15), (10, .int s0), (0, hA G 32), (1, .int x1), (2, .int x2), (4, .int x4), (5, .int x5), (8, .int x8), (9, .int x9)]) dX8_doneAlone_142 rfl rfl (by decide) (by decide) (fun _ => rfl) (fun y16 => ?_)
      refine rf_iload C (n := 147) (q := 1) dX8_doneAlone_145 rfl rfl ?_
      refine rf_if_ne C (tgt := 155) (n := 150) dX8_doneAlone_147 (by decide) rfl (fun h17 => ?_) (fun h17 => ?_)
      · refine rf_iload C (n := 157) (q := 7) dX8_doneAlone_155 rfl rfl ?_
        refine rf_iconst C (n := 158) (v := (-1)) dX8_doneAlone_157 rfl (by decide) ?_
        refine rf_icmp_eq C (tgt := 179) (n := 161) dX8_doneAlone_158 (by decide) rfl (fun h18 => ?_) (fun h18 => ?_)
        · exact rf_lv _ [3, 4, 5, 6, 7, 1, 0, 9] rfl (r_X8_doneAlone_179 C K fu _ hk48 _ _ _ _ _ _ _ _)
        · refine rf_iload C (n := 163) (q := 0) dX8_doneAlone_161 rfl rfl ?_
          refine rf_aload_n C (n := 164) (q := 3) dX8_doneAlone_163 rfl rfl rfl ?_
          refine rf_getS C (n := 167) fl_RX8_33 ly_32 rfl dX8_doneAlone_164 rfl ?_
          refine rf_getS C (n := 170) fl_RX8_132 ly_18 rfl dX8_doneAlone_167 rfl ?_
          refine rf_iload_n C (n := 171) (q := 4) dX8_doneAlone_170 rfl rfl rfl ?_
          refine rf_guard (fun h20 => ?_)
          refine rf_iald C (n := 172) ly_20 h20 rfl dX8_doneAlone_171 rfl ?_
          refine rf_icmp_ne C (tgt := 179) (n := 175) dX8_doneAlone_172 (by decide) rfl (fun h21 => ?_) (fun h21 => ?_)
          · exact rf_lv _ [3, 4, 5, 6, 7, 1, 0, 9] rfl (r_X8_doneAlone_179 C K fu _ hk48 _ _ _ _ _ _ _ _)
          · refine rf_iconst C (n := 176) (v := 1) dX8_doneAlone_175 rfl (by decide) ?_
            refine rf_goto C (n := 180) dX8_doneAlone_176 (by decide) ?_
            exact rf_lv _ [3, 4, 5, 6, 7, 1, 0, 9] rfl (r_X8_doneAlone_180 C K fu _ hk48 _ _ _ _ _ _ _ _ _)
      · refine rf_iload C (n := 152) (q := 9) dX8_doneAlone_150 rfl rfl ?_
        refine rf_iconst C (n := 153) (v := 1) dX8_doneAlone_152 rfl (by decide) ?_
        refine rf_iadd C (n := 154) dX8_doneAlone_153 rfl ?_
        exact rf_iret C K dX8_doneAlone_154
  · refine rf_aload_n C (n := 86) (q := 1) dX8_doneAlone_85 rfl rfl rfl ?_
    refine rf_dup C (n := 87) dX8_doneAlone_86 rfl rfl ?_
    refine rf_getI C (n := 90) fl_RX8_26 ly_32 rfl dX8_doneAlone_87 rfl ?_
    refine rf_iconst C (n := 91) (v := 1) dX8_doneAlone_90 rfl (by decide) ?_
    refine rf_iadd C (n := 92) dX8_doneAlone_91 rfl ?_
    refine rf_putI C (n := 95) pl_RX8_26 ly_32 rfl ⟨rfl, rfl⟩ dX8_doneAlone_92 rfl ?_
    refine rf_letM (fun m22 => ?_)
    refine rf_iload C (n := 97) (q := 0) dX8_doneAlone_95 rfl rfl ?_
    refine rf_if_eq C (tgt := 124) (n := 100) dX8_doneAlone_97 (by decide) rfl (fun h23 => ?_) (fun h23 => ?_)
    · exact rf_lv _ [1, 2, 3, 4, 5, 6, 7, 9] rfl (r_X8_doneAlone_124 C K fu _ hk48 _ _ _ _ _ _ _ _)
    · refine rf_iload C (n := 102) (q := 5) dX8_doneAlone_100 rfl rfl ?_
      refine rf_iconst C (n := 103) (v := (-1)) dX8_doneAlone_102 rfl (by decide) ?_
      refine rf_icmp_eq C (tgt := 124) (n := 106) dX8_doneAlone_103 (by decide) rfl (fun h24 => ?_) (fun h24 => ?_)
      · exact rf_lv _ [1, 2, 3, 4, 5, 6, 7, 9] rfl (r_X8_doneAlone_124 C K fu _ hk48 _ _ _ _ _ _ _ _)
      · refine rf_aload_n C (n := 107) (q := 1) dX8_doneAlone_106 rfl rfl rfl ?_
        refine rf_getS C (n := 110) fl_RX8_29 ly_32 rfl dX8_doneAlone_107 rfl ?_
        refine rf_getS C (n := 113) fl_RX8_61 ly_1 rfl dX8_doneAlone_110 rfl ?_
        refine rf_iload C (n := 115) (q := 9) dX8_doneAlone_113 rfl rfl ?_
        refine rf_guard (fun h25 => ?_)
        refine rf_iald C (n := 116) ly_4 h25 rfl dX8_doneAlone_115 rfl ?_
        refine rf_iload C (n := 118) (q := 5) dX8_doneAlone_116 rfl rfl ?_
        refine rf_ishr C (n := 119) dX8_doneAlone_118 rfl ?_
        refine rf_iconst C (n := 120) (v := 1) dX8_doneAlone_119 rfl (by decide) ?_
        refine rf_iand C (n := 121) dX8_doneAlone_120 rfl ?_
        refine rf_if_ne C (tgt := 128) (n := 124) dX8_doneAlone_121 (by decide) rfl (fun h26 => ?_) (fun h26 => ?_)
        · refine rf_iconst C (n := 129) (v := 0) dX8_doneAlone_128 rfl (by decide) ?_
          exact rf_lv _ [1, 2, 3, 4, 5, 6, 7, 9] rfl (r_X8_doneAlone_129 C K fu _ hk48 _ _ _ _ _ _ _ _ _)
        · exact rf_lv _ [1, 2, 3, 4, 5, 6, 7, 9] rfl (r_X8_doneAlone_124 C K fu _ hk48 _ _ _ _ _ _ _ _)
noncomputable def s_X8_doneAlone_48 (fu : Nat) (ih : Int32 → Int32 → Int32 → Int32 → Int32 → Int32 → Int32 → Int32 → hM → Option (Int32 × hM)) (x1 : Int32) (x2 : Int32) (x4 : Int32) (x5 : Int32) (x6 : Int32) (x7 : Int32) (x8 : Int32) (x9 : Int32) (m : hM) : Option (Int32 × hM) :=
  if x4 ≤ x9 then (
some ((-2), m)) else (
if hIn x9 2560 then (
if ¬ (((gI m 4 (Int32.toNatClampNeg x9)) >>> (x2 &&& 31)) &&& 1) = 1 then (
f_X8_doneAlone_78 fu ih x1 x2 x4 x5 x6 x7 x8 x9 0 m) else (
f_X8_doneAlone_78 fu ih x1 x2 x4 x5 x6 x7 x8 x9 1 m)) else none)
noncomputable def f_X8_doneAlone_48 (fu : Nat) (n : Nat) : Int32 → Int32 → Int32 → Int32 → Int32 → Int32 → Int32 → Int32 → hM → Option (Int32 × hM) :=
  Nat.rec (motive := fun _ => Int32 → Int32 → Int32 → Int32 → Int32 → Int32 → Int32 → Int32 → hM → Option (Int32 × hM)) (fun _ _ _ _ _ _ _ _ _ => none) (fun _ ih => s_X8_doneAlone_48 fu ih) n
theorem f_X8_doneAlone_48_s (fu : Nat) (n : Nat) (x1 : Int32) (x2 : Int32) (x4 : Int32) (x5 : Int32) (x6 : Int32) (x7 : Int32) (x8 : Int32) (x9 : Int32) (m : hM) : f_X8_doneAlone_48 fu (n + 1) x1 x2 x4 x5 x6 x7 x8 x9 m = s_X8_doneAlone_48 fu (f_X8_doneAlone_48 fu n) x1 x2 x4 x5 x6 x7 x8 x9 m := rfl
set_option maxRecDepth 100000 in
set_option maxHeartbeats 4000000 in
theorem r_X8_doneAlone_48 {G : hG} {X : hX} (C : Cx G X 2 cX8_doneAlone 11 RX8 (some .int)) (K : Cr G X) (fu : Nat) (n : Nat) : ∀ (x1 : Int32) (x2 : Int32) (x4 : Int32) (x5 : Int32) (x6 : Int32) (x7 : Int32) (x8 : Int32) (x9 : Int32) (m : hM), Rf vI G X 48 [(0, hA G 32), (1, .int x1), (2, .int x2), (4, .int x4), (5, .int x5), (6, .int x6), (7, .int x7), (8, .int x8), (9, .int x9)] [] m (f_X8_doneAlone_48 fu n x1 x2 x4 x5 x6 x7 x8 x9 m) := by
  induction n with
  | zero => intros; exact rf_none
  | succ n ih =>
    intro x1 x2 x4 x5 x6 x7 x8 x9 m
    show Rf vI G X 48 [(0, hA G 32), (1, .int x1), (2, .int x2), (4, .int x4), (5, .int x5), (6, .int x6), (7, .int x7), (8, .int x8), (9, .int x9)] [] m (s_X8_doneAlone_48 fu (f_X8_doneAlone_48 fu n) x1 x2 x4 x5 x6 x7 x8 x9 m)
    unfold s_X8_doneAlone_48
    refine rf_iload C (n := 50) (q := 8) dX8_doneAlone_48 rfl rfl ?_
    refine rf_iload C (n := 52) (q := 3) dX8_doneAlone_50 rfl rfl ?_
    refine rf_icmp_ge C (tgt := 201) (n := 55) dX8_doneAlone_52 (by decide) rfl (fun h9 => ?_) (fun h9 => ?_)
    · refine rf_bipush C (n := 203) (v := (-2)) dX8_doneAlone_201 rfl (by decide) ?_
      exact rf_iret C K dX8_doneAlone_203
    · refine rf_aload_n C (n := 56) (q := 0) dX8_doneAlone_55 rfl rfl rfl ?_
      refine rf_getS C (n := 59) fl_RX8_29 ly_32 rfl dX8_doneAlone_56 rfl ?_
      refine rf_getS C (n := 62) fl_RX8_61 ly_1 rfl dX8_doneAlone_59 rfl ?_
      refine rf_iload C (n := 64) (q := 8) dX8_doneAlone_62 rfl rfl ?_
      refine rf_guard (fun h10 => ?_)
      refine rf_iald C (n := 65) ly_4 h10 rfl dX8_doneAlone_64 rfl ?_
      refine rf_iload_n C (n := 66) (q := 2) dX8_doneAlone_65 rfl rfl rfl ?_
      refine rf_ishr C (n := 67) dX8_doneAlone_66 rfl ?_
      refine rf_iconst C (n := 68) (v := 1) dX8_doneAlone_67 rfl (by decide) ?_
      refine rf_iand C (n := 69) dX8_doneAlone_68 rfl ?_
      refine rf_iconst C (n := 70) (v := 1) dX8_doneAlone_69 rfl (by decide) ?_
      refine rf_icmp_ne C (tgt := 77) (n := 73) dX8_doneAlone_70 (by decide) rfl (fun h11 => ?_) (fun h11 => ?_)
      · refine rf_iconst C (n := 78) (v := 0) dX8_doneAlone_77 rfl (by decide) ?_
        exact rf_lv _ [0, 1, 2, 3, 4, 5, 6, 7, 8] rfl (r_X8_doneAlone_78 C K fu _ ih _ _ _ _ _ _ _ _ _ _)
      · refine rf_iconst C (n := 74) (v := 1) dX8_doneAlone_73 rfl (by decide) ?_
        refine rf_goto C (n := 78) dX8_doneAlone_74 (by decide) ?_
        exact rf_lv _ [0, 1, 2, 3, 4, 5, 6, 7, 8] rfl (r_X8_doneAlone_78 C K fu _ ih _ _ _ _ _ _ _ _ _ _)
noncomputable def f_X8_doneAlone (fu : Nat) (x1 : Int32) (x2 : Int32) (x3 : Int32) (x4 : Int32) (m : hM) : Option (Int32 × hM) :=
  hLet (sI m 32 7 0) fun m1 =>
hBd (f_X8_canWork fu x1 x2 m1) fun y2 m3 =>
if ¬ y2 = 0 then (
if hIn x1 8 then (
hLet (gI m3 24 (Int32.toNatClampNeg x1)) fun y6 =>
if hIn x1 8 then (
hLet (gI m3 21 (Int32.toNatClampNeg x1)) fun y8 =>
f_X8_doneAlone_48 fu fu x1 x2 x4 y6 y8 0 0 x3 m3) else none) else none) else (
some ((-2), m3))
set_option maxRecDepth 100000 in
set_option maxHeartbeats 4000000 in
theorem c_X8_doneAlone (G : hG) (fu : Nat) (x1 : Int32) (x2 : Int32) (x3 : Int32) (x4 : Int32) (m : hM) : Mt vI G 2 yX8_doneAlone cX8_doneAlone 11 (some .int) [hA G 32, .int x1, .int x2, .int x3, .int x4] m (f_X8_doneAlone fu x1 x2 x3 x4 m) := by
  refine mt_of (by decide +kernel) (Nat.le_of_ble_eq_true rfl) (fun X C K => ?_)
  have C : Cx G X 2 cX8_doneAlone 11 RX8 (some .int) := C
  show Rf vI G X 0 [(0, hA G 32), (1, .int x1), (2, .int x2), (3, .int x3), (4, .int x4)] [] m _
  unfold f_X8_doneAlone
  refine rf_aload_n C (n := 1) (q := 0) dX8_doneAlone_0 rfl rfl rfl ?_
  refine rf_iconst C (n := 2) (v := 0) dX8_doneAlone_1 rfl (by decide) ?_
  refine rf_putI C (n := 5) pl_RX8_26 ly_32 rfl ⟨rfl, rfl⟩ dX8_doneAlone_2 rfl ?_
  refine rf_letM (fun m1 => ?_)
  refine rf_aload_n C (n := 6) (q := 0) dX8_doneAlone_5 rfl rfl rfl ?_
  refine rf_iload_n C (n := 7) (q := 1) dX8_doneAlone_6 rfl rfl rfl ?_
  refine rf_iload_n C (n := 8) (q := 2) dX8_doneAlone_7 rfl rfl rfl ?_
  refine rf_callVi C (n := 11) (c_X8_canWork G fu _ _ _) mw_RX8_93 ly_32 rfl ⟨by decide, by decide⟩ rfl (Nat.le_of_ble_eq_true rfl) rfl dX8_doneAlone_8 rfl (fun y2 m3 => ?_)
  refine rf_if_ne C (tgt := 17) (n := 14) dX8_doneAlone_11 (by decide) rfl (fun h4 => ?_) (fun h4 => ?_)
  · refine rf_aload_n C (n := 18) (q := 0) dX8_doneAlone_17 rfl rfl rfl ?_
    refine rf_getS C (n := 21) fl_RX8_33 ly_32 rfl dX8_doneAlone_18 rfl ?_
    refine rf_getS C (n := 24) fl_RX8_90 ly_18 rfl dX8_doneAlone_21 rfl ?_
    refine rf_iload_n C (n := 25) (q := 1) dX8_doneAlone_24 rfl rfl rfl ?_
    refine rf_guard (fun h5 => ?_)
    refine rf_iald C (n := 26) ly_24 h5 rfl dX8_doneAlone_25 rfl ?_
    refine rf_letI (fun y6 => ?_)
    refine rf_istore C (n := 28) [(5, .int y6), (0, hA G 32), (1, .int x1), (2, .int x2), (3, .int x3), (4, .int x4)] dX8_doneAlone_26 rfl (by decide) rfl ?_
    refine rf_aload_n C (n := 29) (q := 1) dX8_doneAlone_28 rfl rfl rfl ?_
    refine rf_getS C (n := 32) fl_RX8_33 ly_32 rfl dX8_doneAlone_29 rfl ?_
    refine rf_getS C (n := 35) fl_RX8_216 ly_18 rfl dX8_doneAlone_32 rfl ?_
    refine rf_iload_n C (n := 36) (q := 2) dX8_doneAlone_35 rfl rfl rfl ?_
    refine rf_guard (fun h7 => ?_)
    refine rf_iald C (n := 37) ly_21 h7 rfl dX8_doneAlone_36 rfl ?_
    refine rf_letI (fun y8 => ?_)
    refine rf_istore C (n := 39) [(6, .int y8), (5, .int y6), (0, hA G 32), (1, .int x1), (2, .int x2), (3, .int x3), (4, .int x4)] dX8_doneAlone_37 rfl (by decide) rfl ?_
    refine rf_iconst C (n := 40) (v := 0) dX8_doneAlone_39 rfl (by decide) ?_
    refine rf_istore C (n := 42) [(7, .int 0), (6, .int y8), (5, .int y6), (0, hA G 32), (1, .int x1), (2, .int x2), (3, .int x3), (4, .int x4)] dX8_doneAlone_40 rfl (by decide) rfl ?_
    refine rf_iconst C (n := 43) (v := 0) dX8_doneAlone_42 rfl (by decide) ?_
    refine rf_istore C (n := 45) [(8, .int 0), (7, .int 0), (6, .int y8), (5, .int y6), (0, hA G 32), (1, .int x1), (2, .int x2), (3, .int x3), (4, .int x4)] dX8_doneAlone_43 rfl (by decide) rfl ?_
    refine rf_iload_n C (n := 46) (q := 7) dX8_doneAlone_45 rfl rfl rfl ?_
    refine rf_istore C (n := 48) [(9, .int x3), (8, .int 0), (7, .int 0), (6, .int y8), (5, .int y6), (0, hA G 32), (1, .int x1), (2, .int x2), (3, .int x3), (4, .int x4)] dX8_doneAlone_46 rfl (by decide) rfl ?_
    exact rf_lv _ [5, 6, 7, 9, 4, 3, 2, 1, 0] rfl (r_X8_doneAlone_48 C K fu fu _ _ _ _ _ _ _ _ _)
  · refine rf_bipush C (n := 16) (v := (-2)) dX8_doneAlone_14 rfl (by decide) ?_
    exact rf_iret C K dX8_doneAlone_16
noncomputable def f_X9_branch_73 (fu : Nat) (k2 : Int32 → Int32 → Int32 → hM → Option (Unit × hM)) (x1 : Int32) (x2 : Int32) (x3 : Int32) (m : hM) : Option (Unit × hM) :=
  hLet (x3 + 1) fun y5 =>
k2 x1 x2 y5 m
set_option maxRecDepth 100000 in
set_option maxHeartbeats 4000000 in
theorem r_X9_branch_73 {G : hG} {X : hX} (C : Cx G X 1 cX9_branch 4 RX9 none) (K : Cr G X) (fu : Nat) (k2 : Int32 → Int32 → Int32 → hM → Option (Unit × hM)) (hk2 : ∀ (x1 : Int32) (x2 : Int32) (x3 : Int32) (m : hM), Rf vU G X 2 [(0, hA G 34), (1, .int x1), (2, .int x2), (3, .int x3)] [] m (k2 x1 x2 x3 m)) (x1 : Int32) (x2 : Int32) (x3 : Int32) (m : hM) : Rf vU G X 73 [(0, hA G 34), (1, .int x1), (2, .int x2), (3, .int x3)] [] m (f_X9_branch_73 fu k2 x1 x2 x3 m) := by
  unfold f_X9_branch_73
  refine rf_iinc2 C (n := 76) (q := 3) (fun y5 => [(3, .int y5), (0, hA G 34), (1, .int x1), (2, .int x2)]) dX9_branch_73 rfl rfl (by decide) (by decide) (fun _ => rfl) (fun y5 => ?_)
  refine rf_goto C (n := 2) dX9_branch_76 (by decide) ?_
  exact rf_lv _ [1, 2, 3, 0] rfl (hk2 _ _ _ _)
noncomputable def s_X9_branch_2 (fu : Nat) (ih : Int32 → Int32 → Int32 → hM → Option (Unit × hM)) (x1 : Int32) (x2 : Int32) (x3 : Int32) (m : hM) : Option (Unit × hM) :=
  if (gI m 1 4) ≤ x3 then (
some ((), m)) else (
if 156 ≤ (gI m 34 4) then (
some ((), m)) else (
if hIn x1 156 then (
if x3 = (gI m 36 (Int32.toNatClampNeg x1)) then (
f_X9_branch_73 fu ih x1 x2 x3 m) else (
if hIn (gI m 34 4) 156 then (
hLet (sI m 35 (Int32.toNatClampNeg (gI m 34 4)) x1) fun m7 =>
if hIn (gI m7 34 4) 156 then (
hLet (sI m7 36 (Int32.toNatClampNeg (gI m7 34 4)) x3) fun m9 =>
if hIn (gI m9 34 4) 156 then (
hLet (sI m9 37 (Int32.toNatClampNeg (gI m9 34 4)) x2) fun m11 =>
hLet (sI m11 34 4 ((gI m11 34 4) + 1)) fun m12 =>
f_X9_branch_73 fu ih x1 x2 x3 m12) else none) else none) else none)) else none))
noncomputable def f_X9_branch_2 (fu : Nat) (n : Nat) : Int32 → Int32 → Int32 → hM → Option (Unit × hM) :=
  Nat.rec (motive := fun _ => Int32 → Int32 → Int32 → hM → Option (Unit × hM)) (fun _ _ _ _ => none) (fun _ ih => s_X9_branch_2 fu ih) n
theorem f_X9_branch_2_s (fu : Nat) (n : Nat) (x1 : Int32) (x2 : Int32) (x3 : Int32) (m : hM) : f_X9_branch_2 fu (n + 1) x1 x2 x3 m = s_X9_branch_2 fu (f_X9_branch_2 fu n) x1 x2 x3 m := rfl
set_option maxRecDepth 100000 in
set_option maxHeartbeats 4000000 in
theorem r_X9_branch_2 {G : hG} {X : hX} (C : Cx G X 1 cX9_branch 4 RX9 none) (K : Cr G X) (fu : Nat) (n : Nat) : ∀ (x1 : Int32) (x2 : Int32) (x3 : Int32) (m : hM), Rf vU G X 2 [(0, hA G 34), (1, .int x1), (2, .int x2), (3, .int x3)] [] m (f_X9_branch_2 fu n x1 x2 x3 m) := by
  induction n with
  | zero => intros; exact rf_none
  | succ n ih =>
    intro x1 x2 x3 m
    show Rf vU G X 2 [(0, hA G 34), (1, .int x1), (2, .int x2), (3, .int x3)] [] m (s_X9_branch_2 fu (f_X9_branch_2 fu n) x1 x2 x3 m)
    unfold s_X9_branch_2
    refine rf_iload_n C (n := 3) (q := 3) dX9_branch_2 rfl rfl rfl ?_
    refine rf_aload_n C (n := 4) (q := 0) dX9_branch_3 rfl rfl rfl ?_
    refine rf_getS C (n := 7) fl_RX9_37 ly_34 rfl dX9_branch_4 rfl ?_
    refine rf_getI C (n := 10) fl_RX9_45 ly_1 rfl dX9_branch_7 rfl ?_
    refine rf_icmp_ge C (tgt := 79) (n := 13) dX9_branch_10 (by decide) rfl (fun h1 => ?_) (fun h1 => ?_)
    · exact rf_vret C K dX9_branch_79
    · refine rf_aload_n C (n := 14) (q := 0) dX9_branch_13 rfl rfl rfl ?_
      refine rf_getI C (n := 17) fl_RX9_21 ly_34 rfl dX9_branch_14 rfl ?_
      refine rf_sipush C (n := 20) (v := 156) dX9_branch_17 rfl (by decide) ?_
      refine rf_icmp_ge C (tgt := 79) (n := 23) dX9_branch_20 (by decide) rfl (fun h2 => ?_) (fun h2 => ?_)
      · exact rf_vret C K dX9_branch_79
      · refine rf_iload_n C (n := 24) (q := 3) dX9_branch_23 rfl rfl rfl ?_
        refine rf_aload_n C (n := 25) (q := 0) dX9_branch_24 rfl rfl rfl ?_
        refine rf_getS C (n := 28) fl_RX9_15 ly_34 rfl dX9_branch_25 rfl ?_
        refine rf_iload_n C (n := 29) (q := 1) dX9_branch_28 rfl rfl rfl ?_
        refine rf_guard (fun h3 => ?_)
        refine rf_iald C (n := 30) ly_36 h3 rfl dX9_branch_29 rfl ?_
        refine rf_icmp_eq C (tgt := 73) (n := 33) dX9_branch_30 (by decide) rfl (fun h4 => ?_) (fun h4 => ?_)
        · exact rf_lv _ [0, 1, 2, 3] rfl (r_X9_branch_73 C K fu _ ih _ _ _ _)
        · refine rf_aload_n C (n := 34) (q := 0) dX9_branch_33 rfl rfl rfl ?_
          refine rf_getS C (n := 37) fl_RX9_9 ly_34 rfl dX9_branch_34 rfl ?_
          refine rf_aload_n C (n := 38) (q := 0) dX9_branch_37 rfl rfl rfl ?_
          refine rf_getI C (n := 41) fl_RX9_21 ly_34 rfl dX9_branch_38 rfl ?_
          refine rf_iload_n C (n := 42) (q := 1) dX9_branch_41 rfl rfl rfl ?_
          refine rf_guard (fun h6 => ?_)
          refine rf_iast C (n := 43) ly_35 h6 rfl dX9_branch_42 rfl ?_
          refine rf_letM (fun m7 => ?_)
          refine rf_aload_n C (n := 44) (q := 0) dX9_branch_43 rfl rfl rfl ?_
          refine rf_getS C (n := 47) fl_RX9_15 ly_34 rfl dX9_branch_44 rfl ?_
          refine rf_aload_n C (n := 48) (q := 0) dX9_branch_47 rfl rfl rfl ?_
          refine rf_getI C (n := 51) fl_RX9_21 ly_34 rfl dX9_branch_48 rfl ?_
          refine rf_iload_n C (n := 52) (q := 3) dX9_branch_51 rfl rfl rfl ?_
          refine rf_guard (fun h8 => ?_)
          refine rf_iast C (n := 53) ly_36 h8 rfl dX9_branch_52 rfl ?_
          refine rf_letM (fun m9 => ?_)
          refine rf_aload_n C (n := 54) (q := 0) dX9_branch_53 rfl rfl rfl ?_
          refine rf_getS C (n := 57) fl_RX9_18 ly_34 rfl dX9_branch_54 rfl ?_
          refine rf_aload_n C (n := 58) (q := 0) dX9_branch_57 rfl rfl rfl ?_
          refine rf_getI C (n := 61) fl_RX9_21 ly_34 rfl dX9_branch_58 rfl ?_
          refine rf_iload_n C (n := 62) (q := 2) dX9_branch_61 rfl rfl rfl ?_
          refine rf_guard (fun h10 => ?_)
          refine rf_iast C (n := 63) ly_37 h10 rfl dX9_branch_62 rfl ?_
          refine rf_letM (fun m11 => ?_)
          refine rf_aload_n C (n := 64) (q := 0) dX9_branch_63 rfl rfl rfl ?_
          refine rf_dup C (n := 65) dX9_branch_64 rfl rfl ?_
          refine rf_getI C (n := 68) fl_RX9_21 ly_34 rfl dX9_branch_65 rfl ?_
          refine rf_iconst C (n := 69) (v := 1) dX9_branch_68 rfl (by decide) ?_
          refine rf_iadd C (n := 70) dX9_branch_69 rfl ?_
          refine rf_putI C (n := 73) pl_RX9_21 ly_34 rfl ⟨rfl, rfl⟩ dX9_branch_70 rfl ?_
          refine rf_letM (fun m12 => ?_)
          exact rf_lv _ [0, 1, 2, 3] rfl (r_X9_branch_73 C K fu _ ih _ _ _ _)
noncomputable def f_X9_branch (fu : Nat) (x1 : Int32) (x2 : Int32) (m : hM) : Option (Unit × hM) :=
  f_X9_branch_2 fu fu x1 x2 0 m
set_option maxRecDepth 100000 in
set_option maxHeartbeats 4000000 in
theorem c_X9_branch (G : hG) (fu : Nat) (x1 : Int32) (x2 : Int32) (m : hM) : Mt vU G 1 yX9_branch cX9_branch 4 none [hA G 34, .int x1, .int x2] m (f_X9_branch fu x1 x2 m) := by
  refine mt_of (by decide +kernel) (Nat.le_of_ble_eq_true rfl) (fun X C K => ?_)
  have C : Cx G X 1 cX9_branch 4 RX9 none := C
  show Rf vU G X 0 [(0, hA G 34), (1, .int x1), (2, .int x2)] [] m _
  unfold f_X9_branch
  refine rf_iconst C (n := 1) (v := 0) dX9_branch_0 rfl (by decide) ?_
  refine rf_istore_n C (n := 2) [(3, .int 0), (0, hA G 34), (1, .int x1), (2, .int x2)] dX9_branch_1 rfl rfl (by decide) rfl ?_
  exact rf_lv _ [1, 2, 3, 0] rfl (r_X9_branch_2 C K fu fu _ _ _ _)
noncomputable def f_X9_grow_67 (fu : Nat) (k31 : Int32 → Int32 → Int32 → hM → Option (Unit × hM)) (x2 : Int32) (x4 : Int32) (x5 : Int32) (m : hM) : Option (Unit × hM) :=
  hLet (x4 + 1) fun y8 =>
k31 x2 x5 y8 m
set_option maxRecDepth 100000 in
set_option maxHeartbeats 4000000 in
theorem r_X9_grow_67 {G : hG} {X : hX} (C : Cx G X 2 cX9_grow 7 RX9 none) (K : Cr G X) (fu : Nat) (k31 : Int32 → Int32 → Int32 → hM → Option (Unit × hM)) (hk31 : ∀ (x2 : Int32) (x3 : Int32) (x4 : Int32) (m : hM), Rf vU G X 31 [(0, hA G 34), (2, .int x2), (3, .int x3), (4, .int x4)] [] m (k31 x2 x3 x4 m)) (x2 : Int32) (x4 : Int32) (x5 : Int32) (m : hM) : Rf vU G X 67 [(0, hA G 34), (2, .int x2), (4, .int x4), (5, .int x5)] [] m (f_X9_grow_67 fu k31 x2 x4 x5 m) := by
  unfold f_X9_grow_67
  refine rf_iload C (n := 69) (q := 3) dX9_grow_67 rfl rfl ?_
  refine rf_istore_n C (n := 70) [(3, .int x5), (0, hA G 34), (2, .int x2), (4, .int x4), (5, .int x5)] dX9_grow_69 rfl rfl (by decide) rfl ?_
  refine rf_iinc2 C (n := 73) (q := 3) (fun y8 => [(4, .int y8), (3, .int x5), (0, hA G 34), (2, .int x2), (5, .int x5)]) dX9_grow_70 rfl rfl (by decide) (by decide) (fun _ => rfl) (fun y8 => ?_)
  refine rf_goto C (n := 31) dX9_grow_73 (by decide) ?_
  exact rf_lv _ [2, 3, 1, 0] rfl (hk31 _ _ _ _)
noncomputable def s_X9_grow_46 (fu : Nat) (k31 : Int32 → Int32 → Int32 → hM → Option (Unit × hM)) (ih : Int32 → Int32 → Int32 → Int32 → hM → Option (Unit × hM)) (x2 : Int32) (x4 : Int32) (x5 : Int32) (x6 : Int32) (m : hM) : Option (Unit × hM) :=
  if x5 ≤ x6 then (
f_X9_grow_67 fu k31 x2 x4 x5 m) else (
hBd (f_X9_branch fu x6 x4 m) fun _ m9 =>
hLet (x6 + 1) fun y10 =>
ih x2 x4 x5 y10 m9)
noncomputable def f_X9_grow_46 (fu : Nat) (k31 : Int32 → Int32 → Int32 → hM → Option (Unit × hM)) (n : Nat) : Int32 → Int32 → Int32 → Int32 → hM → Option (Unit × hM) :=
  Nat.rec (motive := fun _ => Int32 → Int32 → Int32 → Int32 → hM → Option (Unit × hM)) (fun _ _ _ _ _ => none) (fun _ ih => s_X9_grow_46 fu k31 ih) n
theorem f_X9_grow_46_s (fu : Nat) (k31 : Int32 → Int32 → Int32 → hM → Option (Unit × hM)) (n : Nat) (x2 : Int32) (x4 : Int32) (x5 : Int32) (x6 : Int32) (m : hM) : f_X9_grow_46 fu k31 (n + 1) x2 x4 x5 x6 m = s_X9_grow_46 fu k31 (f_X9_grow_46 fu k31 n) x2 x4 x5 x6 m := rfl
set_option maxRecDepth 100000 in
set_option maxHeartbeats 4000000 in
theorem r_X9_grow_46 {G : hG} {X : hX} (C : Cx G X 2 cX9_grow 7 RX9 none) (K : Cr G X) (fu : Nat) (k31 : Int32 → Int32 → Int32 → hM → Option (Unit × hM)) (hk31 : ∀ (x2 : Int32) (x3 : Int32) (x4 : Int32) (m : hM), Rf vU G X 31 [(0, hA G 34), (2, .int x2), (3, .int x3), (4, .int x4)] [] m (k31 x2 x3 x4 m)) (n : Nat) : ∀ (x2 : Int32) (x4 : Int32) (x5 : Int32) (x6 : Int32) (m : hM), Rf vU G X 46 [(0, hA G 34), (2, .int x2), (4, .int x4), (5, .int x5), (6, .int x6)] [] m (f_X9_grow_46 fu k31 n x2 x4 x5 x6 m) := by
  induction n with
  | zero => intros; exact rf_none
  | succ n ih =>
    intro x2 x4 x5 x6 m
    show Rf vU G X 46 [(0, hA G 34), (2, .int x2), (4, .int x4), (5, .int x5), (6, .int x6)] [] m (s_X9_grow_46 fu k31 (f_X9_grow_46 fu k31 n) x2 x4 x5 x6 m)
    unfold s_X9_grow_46
    refine rf_iload C (n := 48) (q := 4) dX9_grow_46 rfl rfl ?_
    refine rf_iload C (n := 50) (q := 3) dX9_grow_48 rfl rfl ?_
    refine rf_icmp_ge C (tgt := 67) (n := 53) dX9_grow_50 (by decide) rfl (fun h7 => ?_) (fun h7 => ?_)
    · exact rf_lv _ [0, 1, 2, 3] rfl (r_X9_grow_67 C K fu _ hk31 _ _ _ _)
    · refine rf_aload_n C (n := 54) (q := 0) dX9_grow_53 rfl rfl rfl ?_
      refine rf_iload C (n := 56) (q := 4) dX9_grow_54 rfl rfl ?_
      refine rf_iload C (n := 58) (q := 2) dX9_grow_56 rfl rfl ?_
      refine rf_callVv C (n := 61) (c_X9_branch G fu _ _ _) mw_RX9_41 ly_34 rfl ⟨by decide, by decide⟩ rfl (Nat.le_of_ble_eq_true rfl) rfl dX9_grow_58 rfl (fun _ m9 => ?_)
      refine rf_iinc2 C (n := 64) (q := 4) (fun y10 => [(6, .int y10), (0, hA G 34), (2, .int x2), (4, .int x4), (5, .int x5)]) dX9_grow_61 rfl rfl (by decide) (by decide) (fun _ => rfl) (fun y10 => ?_)
      refine rf_goto C (n := 46) dX9_grow_64 (by decide) ?_
      exact rf_lv _ [1, 2, 3, 4, 0] rfl (ih _ _ _ _ _)
noncomputable def s_X9_grow_31 (fu : Nat) (ih : Int32 → Int32 → Int32 → hM → Option (Unit × hM)) (x2 : Int32) (x3 : Int32) (x4 : Int32) (m : hM) : Option (Unit × hM) :=
  if x2 < x4 then (
some ((), m)) else (
hLet (gI m 34 4) fun y6 =>
f_X9_grow_46 fu ih fu x2 x4 y6 x3 m)
noncomputable def f_X9_grow_31 (fu : Nat) (n : Nat) : Int32 → Int32 → Int32 → hM → Option (Unit × hM) :=
  Nat.rec (motive := fun _ => Int32 → Int32 → Int32 → hM → Option (Unit × hM)) (fun _ _ _ _ => none) (fun _ ih => s_X9_grow_31 fu ih) n
theorem f_X9_grow_31_s (fu : Nat) (n : Nat) (x2 : Int32) (x3 : Int32) (x4 : Int32) (m : hM) : f_X9_grow_31 fu (n + 1) x2 x3 x4 m = s_X9_grow_31 fu (f_X9_grow_31 fu n) x2 x3 x4 m := rfl
set_option maxRecDepth 100000 in
set_option maxHeartbeats 4000000 in
theorem r_X9_grow_31 {G : hG} {X : hX} (C : Cx G X 2 cX9_grow 7 RX9 none) (K : Cr G X) (fu : Nat) (n : Nat) : ∀ (x2 : Int32) (x3 : Int32) (x4 : Int32) (m : hM), Rf vU G X 31 [(0, hA G 34), (2, .int x2), (3, .int x3), (4, .int x4)] [] m (f_X9_grow_31 fu n x2 x3 x4 m) := by
  induction n with
  | zero => intros; exact rf_none
  | succ n ih =>
    intro x2 x3 x4 m
    show Rf vU G X 31 [(0, hA G 34), (2, .int x2), (3, .int x3), (4, .int x4)] [] m (s_X9_grow_31 fu (f_X9_grow_31 fu n) x2 x3 x4 m)
    unfold s_X9_grow_31
    refine rf_iload C (n := 33) (q := 3) dX9_grow_31 rfl rfl ?_
    refine rf_iload_n C (n := 34) (q := 1) dX9_grow_33 rfl rfl rfl ?_
    refine rf_icmp_gt C (tgt := 76) (n := 37) dX9_grow_34 (by decide) rfl (fun h5 => ?_) (fun h5 => ?_)
    · exact rf_vret C K dX9_grow_76
    · refine rf_aload_n C (n := 38) (q := 0) dX9_grow_37 rfl rfl rfl ?_
      refine rf_getI C (n := 41) fl_RX9_21 ly_34 rfl dX9_grow_38 rfl ?_
      refine rf_letI (fun y6 => ?_)
      refine rf_istore C (n := 43) [(5, .int y6), (0, hA G 34), (2, .int x2), (3, .int x3), (4, .int x4)] dX9_grow_41 rfl (by decide) rfl ?_
      refine rf_iload_n C (n := 44) (q := 3) dX9_grow_43 rfl rfl rfl ?_
      refine rf_istore C (n := 46) [(6, .int x3), (5, .int y6), (0, hA G 34), (2, .int x2), (3, .int x3), (4, .int x4)] dX9_grow_44 rfl (by decide) rfl ?_
      exact rf_lv _ [2, 3, 5, 1, 0] rfl (r_X9_grow_46 C K fu _ ih fu _ _ _ _ _)
noncomputable def f_X9_grow (fu : Nat) (x1 : Int32) (x2 : Int32) (m : hM) : Option (Unit × hM) :=
  hLet (sI m 35 0 (-1)) fun m1 =>
hLet (sI m1 36 0 x1) fun m2 =>
hLet (sI m2 37 0 0) fun m3 =>
hLet (sI m3 34 4 1) fun m4 =>
f_X9_grow_31 fu fu x2 0 1 m4
set_option maxRecDepth 100000 in
set_option maxHeartbeats 4000000 in
theorem c_X9_grow (G : hG) (fu : Nat) (x1 : Int32) (x2 : Int32) (m : hM) : Mt vU G 2 yX9_grow cX9_grow 7 none [hA G 34, .int x1, .int x2] m (f_X9_grow fu x1 x2 m) := by
  refine mt_of (by decide +kernel) (Nat.le_of_ble_eq_true rfl) (fun X C K => ?_)
  have C : Cx G X 2 cX9_grow 7 RX9 none := C
  show Rf vU G X 0 [(0, hA G 34), (1, .int x1), (2, .int x2)] [] m _
  unfold f_X9_grow
  refine rf_aload_n C (n := 1) (q := 0) dX9_grow_0 rfl rfl rfl ?_
  refine rf_getS C (n := 4) fl_RX9_9 ly_34 rfl dX9_grow_1 rfl ?_
  refine rf_iconst C (n := 5) (v := 0) dX9_grow_4 rfl (by decide) ?_
  refine rf_iconst C (n := 6) (v := (-1)) dX9_grow_5 rfl (by decide) ?_
  refine rf_iast C (n := 7) (j0 := 0) ly_35 (by decide) (by decide) dX9_grow_6 rfl ?_
  refine rf_letM (fun m1 => ?_)
  refine rf_aload_n C (n := 8) (q := 0) dX9_grow_7 rfl rfl rfl ?_
  refine rf_getS C (n := 11) fl_RX9_15 ly_34 rfl dX9_grow_8 rfl ?_
  refine rf_iconst C (n := 12) (v := 0) dX9_grow_11 rfl (by decide) ?_
  refine rf_iload_n C (n := 13) (q := 1) dX9_grow_12 rfl rfl rfl ?_
  refine rf_iast C (n := 14) (j0 := 0) ly_36 (by decide) (by decide) dX9_grow_13 rfl ?_
  refine rf_letM (fun m2 => ?_)
  refine rf_aload_n C (n := 15) (q := 0) dX9_grow_14 rfl rfl rfl ?_
  refine rf_getS C (n := 18) fl_RX9_18 ly_34 rfl dX9_grow_15 rfl ?_
  refine rf_iconst C (n := 19) (v := 0) dX9_grow_18 rfl (by decide) ?_
  refine rf_iconst C (n := 20) (v := 0) dX9_grow_19 rfl (by decide) ?_
  refine rf_iast C (n := 21) (j0 := 0) ly_37 (by decide) (by decide) dX9_grow_20 rfl ?_
  refine rf_letM (fun m3 => ?_)
  refine rf_aload_n C (n := 22) (q := 0) dX9_grow_21 rfl rfl rfl ?_
  refine rf_iconst C (n := 23) (v := 1) dX9_grow_22 rfl (by decide) ?_
  refine rf_putI C (n := 26) pl_RX9_21 ly_34 rfl ⟨rfl, rfl⟩ dX9_grow_23 rfl ?_
  refine rf_letM (fun m4 => ?_)
  refine rf_iconst C (n := 27) (v := 0) dX9_grow_26 rfl (by decide) ?_
  refine rf_istore_n C (n := 28) [(3, .int 0), (0, hA G 34), (1, .int x1), (2, .int x2)] dX9_grow_27 rfl rfl (by decide) rfl ?_
  refine rf_iconst C (n := 29) (v := 1) dX9_grow_28 rfl (by decide) ?_
  refine rf_istore C (n := 31) [(4, .int 1), (3, .int 0), (0, hA G 34), (1, .int x1), (2, .int x2)] dX9_grow_29 rfl (by decide) rfl ?_
  exact rf_lv _ [2, 4, 1, 0] rfl (r_X9_grow_31 C K fu fu _ _ _ _)
noncomputable def f_X9_loseFrom_78 (fu : Nat) (k2 : Int32 → Int32 → hM → Option (Unit × hM)) (x1 : Int32) (x2 : Int32) (m : hM) : Option (Unit × hM) :=
  hLet (x2 + 1) fun y3 =>
k2 x1 y3 m
set_option maxRecDepth 100000 in
set_option maxHeartbeats 4000000 in
theorem r_X9_loseFrom_78 {G : hG} {X : hX} (C : Cx G X 3 cX9_loseFrom 5 RX9 none) (K : Cr G X) (fu : Nat) (k2 : Int32 → Int32 → hM → Option (Unit × hM)) (hk2 : ∀ (x1 : Int32) (x2 : Int32) (m : hM), Rf vU G X 2 [(0, hA G 34), (1, .int x1), (2, .int x2)] [] m (k2 x1 x2 m)) (x1 : Int32) (x2 : Int32) (m : hM) : Rf vU G X 78 [(0, hA G 34), (1, .int x1), (2, .int x2)] [] m (f_X9_loseFrom_78 fu k2 x1 x2 m) := by
  unfold f_X9_loseFrom_78
  refine rf_iinc2 C (n := 81) (q := 2) (fun y3 => [(2, .int y3), (0, hA G 34), (1, .int x1)]) dX9_loseFrom_78 rfl rfl (by decide) (by decide) (fun _ => rfl) (fun y3 => ?_)
  refine rf_goto C (n := 2) dX9_loseFrom_81 (by decide) ?_
  exact rf_lv _ [1, 2, 0] rfl (hk2 _ _ _)
noncomputable def s_X9_loseFrom_15 (fu : Nat) (k2 : Int32 → Int32 → hM → Option (Unit × hM)) (ih : Int32 → Int32 → Int32 → hM → Option (Unit × hM)) (x1 : Int32) (x2 : Int32) (x3 : Int32) (m : hM) : Option (Unit × hM) :=
  if x2 ≤ x3 then (
f_X9_loseFrom_78 fu k2 x1 x2 m) else (
hLet ((x2 * 6) + x3) fun y4 =>
hBd (f_X0_bothFrom fu x2 x3 x1 m) fun y5 m6 =>
hBd (f_X0_lostBy fu x2 x3 y5 m6) fun y7 m8 =>
if hIn y4 36 then (
hLet (sI m8 40 (Int32.toNatClampNeg y4) y7) fun m10 =>
if hIn y4 36 then (
if hIn ((x3 * 6) + x2) 36 then (
hLet (sI m10 40 (Int32.toNatClampNeg ((x3 * 6) + x2)) (gI m10 40 (Int32.toNatClampNeg y4))) fun m13 =>
hLet (x3 + 1) fun y14 =>
ih x1 x2 y14 m13) else none) else none) else none)
noncomputable def f_X9_loseFrom_15 (fu : Nat) (k2 : Int32 → Int32 → hM → Option (Unit × hM)) (n : Nat) : Int32 → Int32 → Int32 → hM → Option (Unit × hM) :=
  Nat.rec (motive := fun _ => Int32 → Int32 → Int32 → hM → Option (Unit × hM)) (fun _ _ _ _ => none) (fun _ ih => s_X9_loseFrom_15 fu k2 ih) n
theorem f_X9_loseFrom_15_s (fu : Nat) (k2 : Int32 → Int32 → hM → Option (Unit × hM)) (n : Nat) (x1 : Int32) (x2 : Int32) (x3 : Int32) (m : hM) : f_X9_loseFrom_15 fu k2 (n + 1) x1 x2 x3 m = s_X9_loseFrom_15 fu k2 (f_X9_loseFrom_15 fu k2 n) x1 x2 x3 m := rfl
set_option maxRecDepth 100000 in
set_option maxHeartbeats 4000000 in
theorem r_X9_loseFrom_15 {G : hG} {X : hX} (C : Cx G X 3 cX9_loseFrom 5 RX9 none) (K : Cr G X) (fu : Nat) (k2 : Int32 → Int32 → hM → Option (Unit × hM)) (hk2 : ∀ (x1 : Int32) (x2 : Int32) (m : hM), Rf vU G X 2 [(0, hA G 34), (1, .int x1), (2, .int x2)] [] m (k2 x1 x2 m)) (n : Nat) : ∀ (x1 : Int32) (x2 : Int32) (x3 : Int32) (m : hM), Rf vU G X 15 [(0, hA G 34), (1, .int x1), (2, .int x2), (3, .int x3)] [] m (f_X9_loseFrom_15 fu k2 n x1 x2 x3 m) := by
  induction n with
  | zero => intros; exact rf_none
  | succ n ih =>
    intro x1 x2 x3 m
    show Rf vU G X 15 [(0, hA G 34), (1, .int x1), (2, .int x2), (3, .int x3)] [] m (s_X9_loseFrom_15 fu k2 (f_X9_loseFrom_15 fu k2 n) x1 x2 x3 m)
    unfold s_X9_loseFrom_15
    refine rf_iload_n C (n := 16) (q := 3) dX9_loseFrom_15 rfl rfl rfl ?_
    refine rf_iload_n C (n := 17) (q := 2) dX9_loseFrom_16 rfl rfl rfl ?_
    refine rf_icmp_ge C (tgt := 78) (n := 20) dX9_loseFrom_17 (by decide) rfl (fun h2 => ?_) (fun h2 => ?_)
    · exact rf_lv _ [0, 1, 2] rfl (r_X9_loseFrom_78 C K fu _ hk2 _ _ _)
    · refine rf_iload_n C (n := 21) (q := 2) dX9_loseFrom_20 rfl rfl rfl ?_
      refine rf_bipush C (n := 23) (v := 6) dX9_loseFrom_21 rfl (by decide) ?_
      refine rf_imul C (n := 24) dX9_loseFrom_23 rfl ?_
      refine rf_iload_n C (n := 25) (q := 3) dX9_loseFrom_24 rfl rfl rfl ?_
      refine rf_iadd C (n := 26) dX9_loseFrom_25 rfl ?_
      refine rf_letI (fun y4 => ?_)
      refine rf_istore C (n := 28) [(4, .int y4), (0, hA G 34), (1, .int x1), (2, .int x2), (3, .int x3)] dX9_loseFrom_26 rfl (by decide) rfl ?_
      refine rf_aload_n C (n := 29) (q := 1) dX9_loseFrom_28 rfl rfl rfl ?_
      refine rf_getS C (n := 32) fl_RX9_34 ly_34 rfl dX9_loseFrom_29 rfl ?_
      refine rf_iload C (n := 34) (q := 0) dX9_loseFrom_32 rfl rfl ?_
      refine rf_aload_n C (n := 35) (q := 1) dX9_loseFrom_34 rfl rfl rfl ?_
      refine rf_getS C (n := 38) fl_RX9_37 ly_34 rfl dX9_loseFrom_35 rfl ?_
      refine rf_iload_n C (n := 39) (q := 3) dX9_loseFrom_38 rfl rfl rfl ?_
      refine rf_iload_n C (n := 40) (q := 4) dX9_loseFrom_39 rfl rfl rfl ?_
      refine rf_aload_n C (n := 41) (q := 1) dX9_loseFrom_40 rfl rfl rfl ?_
      refine rf_getS C (n := 44) fl_RX9_37 ly_34 rfl dX9_loseFrom_41 rfl ?_
      refine rf_iload_n C (n := 45) (q := 3) dX9_loseFrom_44 rfl rfl rfl ?_
      refine rf_iload_n C (n := 46) (q := 4) dX9_loseFrom_45 rfl rfl rfl ?_
      refine rf_iload_n C (n := 47) (q := 2) dX9_loseFrom_46 rfl rfl rfl ?_
      refine rf_callVi C (n := 50) (c_X0_bothFrom G fu _ _ _ _) mw_RX9_94 ly_1 rfl ⟨by decide, by decide⟩ rfl (Nat.le_of_ble_eq_true rfl) rfl dX9_loseFrom_47 rfl (fun y5 m6 => ?_)
      refine rf_callVi C (n := 53) (c_X0_lostBy G fu _ _ _ _) mw_RX9_98 ly_1 rfl ⟨by decide, by decide⟩ rfl (Nat.le_of_ble_eq_true rfl) rfl dX9_loseFrom_50 rfl (fun y7 m8 => ?_)
      refine rf_guard (fun h9 => ?_)
      refine rf_iast C (n := 54) ly_40 h9 rfl dX9_loseFrom_53 rfl ?_
      refine rf_letM (fun m10 => ?_)
      refine rf_aload_n C (n := 55) (q := 1) dX9_loseFrom_54 rfl rfl rfl ?_
      refine rf_getS C (n := 58) fl_RX9_34 ly_34 rfl dX9_loseFrom_55 rfl ?_
      refine rf_iload_n C (n := 59) (q := 4) dX9_loseFrom_58 rfl rfl rfl ?_
      refine rf_bipush C (n := 61) (v := 6) dX9_loseFrom_59 rfl (by decide) ?_
      refine rf_imul C (n := 62) dX9_loseFrom_61 rfl ?_
      refine rf_iload_n C (n := 63) (q := 3) dX9_loseFrom_62 rfl rfl rfl ?_
      refine rf_iadd C (n := 64) dX9_loseFrom_63 rfl ?_
      refine rf_aload_n C (n := 65) (q := 1) dX9_loseFrom_64 rfl rfl rfl ?_
      refine rf_getS C (n := 68) fl_RX9_34 ly_34 rfl dX9_loseFrom_65 rfl ?_
      refine rf_iload C (n := 70) (q := 0) dX9_loseFrom_68 rfl rfl ?_
      refine rf_guard (fun h11 => ?_)
      refine rf_iald C (n := 71) ly_40 h11 rfl dX9_loseFrom_70 rfl ?_
      refine rf_guard (fun h12 => ?_)
      refine rf_iast C (n := 72) ly_40 h12 rfl dX9_loseFrom_71 rfl ?_
      refine rf_letM (fun m13 => ?_)
      refine rf_iinc2 C (n := 75) (q := 4) (fun y14 => [(3, .int y14), (4, .int y4), (0, hA G 34), (1, .int x1), (2, .int x2)]) dX9_loseFrom_72 rfl rfl (by decide) (by decide) (fun _ => rfl) (fun y14 => ?_)
      refine rf_goto C (n := 15) dX9_loseFrom_75 (by decide) ?_
      exact rf_lv _ [2, 3, 4, 0] rfl (ih _ _ _ _)
noncomputable def s_X9_loseFrom_2 (fu : Nat) (ih : Int32 → Int32 → hM → Option (Unit × hM)) (x1 : Int32) (x2 : Int32) (m : hM) : Option (Unit × hM) :=
  if (gI m 1 4) ≤ x2 then (
some ((), m)) else (
f_X9_loseFrom_15 fu ih fu x1 x2 0 m)
noncomputable def f_X9_loseFrom_2 (fu : Nat) (n : Nat) : Int32 → Int32 → hM → Option (Unit × hM) :=
  Nat.rec (motive := fun _ => Int32 → Int32 → hM → Option (Unit × hM)) (fun _ _ _ => none) (fun _ ih => s_X9_loseFrom_2 fu ih) n
theorem f_X9_loseFrom_2_s (fu : Nat) (n : Nat) (x1 : Int32) (x2 : Int32) (m : hM) : f_X9_loseFrom_2 fu (n + 1) x1 x2 m = s_X9_loseFrom_2 fu (f_X9_loseFrom_2 fu n) x1 x2 m := rfl
set_option maxRecDepth 100000 in
set_option maxHeartbeats 4000000 in
theorem r_X9_loseFrom_2 {G : hG} {X : hX} (C : Cx G X 3 cX9_loseFrom 5 RX9 none) (K : Cr G X) (fu : Nat) (n : Nat) : ∀ (x1 : Int32) (x2 : Int32) (m : hM), Rf vU G X 2 [(0, hA G 34), (1, .int x1), (2, .int x2)] [] m (f_X9_loseFrom_2 fu n x1 x2 m) := by
  induction n with
  | zero => intros; exact rf_none
  | succ n ih =>
    intro x1 x2 m
    show Rf vU G X 2 [(0, hA G 34), (1, .int x1), (2, .int x2)] [] m (s_X9_loseFrom_2 fu (f_X9_loseFrom_2 fu n) x1 x2 m)
    unfold s_X9_loseFrom_2
    refine rf_iload_n C (n := 3) (q := 2) dX9_loseFrom_2 rfl rfl rfl ?_
    refine rf_aload_n C (n := 4) (q := 0) dX9_loseFrom_3 rfl rfl rfl ?_
    refine rf_getS C (n := 7) fl_RX9_37 ly_34 rfl dX9_loseFrom_4 rfl ?_
    refine rf_getI C (n := 10) fl_RX9_45 ly_1 rfl dX9_loseFrom_7 rfl ?_
    refine rf_icmp_ge C (tgt := 84) (n := 13) dX9_loseFrom_10 (by decide) rfl (fun h1 => ?_) (fun h1 => ?_)
    · exact rf_vret C K dX9_loseFrom_84
    · refine rf_iconst C (n := 14) (v := 0) dX9_loseFrom_13 rfl (by decide) ?_
      refine rf_istore_n C (n := 15) [(3, .int 0), (0, hA G 34), (1, .int x1), (2, .int x2)] dX9_loseFrom_14 rfl rfl (by decide) rfl ?_
      exact rf_lv _ [1, 2, 3, 0] rfl (r_X9_loseFrom_15 C K fu _ ih fu _ _ _ _)
noncomputable def f_X9_loseFrom (fu : Nat) (x1 : Int32) (m : hM) : Option (Unit × hM) :=
  f_X9_loseFrom_2 fu fu x1 0 m
set_option maxRecDepth 100000 in
set_option maxHeartbeats 4000000 in
theorem c_X9_loseFrom (G : hG) (fu : Nat) (x1 : Int32) (m : hM) : Mt vU G 3 yX9_loseFrom cX9_loseFrom 5 none [hA G 34, .int x1] m (f_X9_loseFrom fu x1 m) := by
  refine mt_of (by decide +kernel) (Nat.le_of_ble_eq_true rfl) (fun X C K => ?_)
  have C : Cx G X 3 cX9_loseFrom 5 RX9 none := C
  show Rf vU G X 0 [(0, hA G 34), (1, .int x1)] [] m _
  unfold f_X9_loseFrom
  refine rf_iconst C (n := 1) (v := 0) dX9_loseFrom_0 rfl (by decide) ?_
  refine rf_istore_n C (n := 2) [(2, .int 0), (0, hA G 34), (1, .int x1)] dX9_loseFrom_1 rfl rfl (by decide) rfl ?_
  exact rf_lv _ [1, 2, 0] rfl (r_X9_loseFrom_2 C K fu fu _ _ _)
noncomputable def f_X9_soonest_230 (fu : Nat) (k47 : Int32 → Int32 → Int32 → hM → Option (Int32 × hM)) (x4 : Int32) (x5 : Int32) (x6 : Int32) (m : hM) : Option (Int32 × hM) :=
  hLet (x6 + 1) fun y15 =>
k47 x4 x5 y15 m
set_option maxRecDepth 100000 in
set_option maxHeartbeats 4000000 in
theorem r_X9_soonest_230 {G : hG} {X : hX} (C : Cx G X 4 cX9_soonest 11 RX9 (some .int)) (K : Cr G X) (fu : Nat) (k47 : Int32 → Int32 → Int32 → hM → Option (Int32 × hM)) (hk47 : ∀ (x4 : Int32) (x5 : Int32) (x6 : Int32) (m : hM), Rf vI G X 47 [(0, hA G 34), (4, .int x4), (5, .int x5), (6, .int x6)] [] m (k47 x4 x5 x6 m)) (x4 : Int32) (x5 : Int32) (x6 : Int32) (m : hM) : Rf vI G X 230 [(0, hA G 34), (4, .int x4), (5, .int x5), (6, .int x6)] [] m (f_X9_soonest_230 fu k47 x4 x5 x6 m) := by
  unfold f_X9_soonest_230
  refine rf_iinc2 C (n := 233) (q := 3) (fun y15 => [(6, .int y15), (0, hA G 34), (4, .int x4), (5, .int x5)]) dX9_soonest_230 rfl rfl (by decide) (by decide) (fun _ => rfl) (fun y15 => ?_)
  refine rf_goto C (n := 47) dX9_soonest_233 (by decide) ?_
  exact rf_lv _ [1, 2, 3, 0] rfl (hk47 _ _ _ _)
noncomputable def f_X9_soonest_223 (fu : Nat) (k47 : Int32 → Int32 → Int32 → hM → Option (Int32 × hM)) (k146 : Int32 → Int32 → Int32 → Int32 → hM → Option (Int32 × hM)) (x4 : Int32) (x5 : Int32) (x6 : Int32) (x8 : Int32) (s1 : Int32) (s2 : Int32) (m : hM) : Option (Int32 × hM) :=
  if hIn s1 156 then (
hLet (sI m 38 (Int32.toNatClampNeg s1) s2) fun m27 =>
hLet (x8 + (-1)) fun y28 =>
k146 x4 x5 x6 y28 m27) else none
set_option maxRecDepth 100000 in
set_option maxHeartbeats 4000000 in
theorem r_X9_soonest_223 {G : hG} {X : hX} (C : Cx G X 4 cX9_soonest 11 RX9 (some .int)) (K : Cr G X) (fu : Nat) (k47 : Int32 → Int32 → Int32 → hM → Option (Int32 × hM)) (hk47 : ∀ (x4 : Int32) (x5 : Int32) (x6 : Int32) (m : hM), Rf vI G X 47 [(0, hA G 34), (4, .int x4), (5, .int x5), (6, .int x6)] [] m (k47 x4 x5 x6 m)) (k146 : Int32 → Int32 → Int32 → Int32 → hM → Option (Int32 × hM)) (hk146 : ∀ (x4 : Int32) (x5 : Int32) (x6 : Int32) (x8 : Int32) (m : hM), Rf vI G X 146 [(0, hA G 34), (4, .int x4), (5, .int x5), (6, .int x6), (8, .int x8)] [] m (k146 x4 x5 x6 x8 m)) (x4 : Int32) (x5 : Int32) (x6 : Int32) (x8 : Int32) (s1 : Int32) (s2 : Int32) (m : hM) : Rf vI G X 223 [(0, hA G 34), (4, .int x4), (5, .int x5), (6, .int x6), (8, .int x8)] [.int s2, .int s1, hA G 38] m (f_X9_soonest_223 fu k47 k146 x4 x5 x6 x8 s1 s2 m) := by
  unfold f_X9_soonest_223
  refine rf_guard (fun h26 => ?_)
  refine rf_iast C (n := 224) ly_38 h26 rfl dX9_soonest_223 rfl ?_
  refine rf_letM (fun m27 => ?_)
  refine rf_iinc2 C (n := 227) (q := 4) (fun y28 => [(8, .int y28), (0, hA G 34), (4, .int x4), (5, .int x5), (6, .int x6)]) dX9_soonest_224 rfl rfl (by decide) (by decide) (fun _ => rfl) (fun y28 => ?_)
  refine rf_goto C (n := 146) dX9_soonest_227 (by decide) ?_
  exact rf_lv _ [1, 2, 3, 4, 0] rfl (hk146 _ _ _ _ _)
noncomputable def s_X9_soonest_146 (fu : Nat) (k47 : Int32 → Int32 → Int32 → hM → Option (Int32 × hM)) (ih : Int32 → Int32 → Int32 → Int32 → hM → Option (Int32 × hM)) (x4 : Int32) (x5 : Int32) (x6 : Int32) (x8 : Int32) (m : hM) : Option (Int32 × hM) :=
  if x8 ≤ 0 then (
f_X9_soonest_230 fu k47 x4 x5 x6 m) else (
if hIn x8 156 then (
hLet (gI m 35 (Int32.toNatClampNeg x8)) fun y17 =>
if hIn y17 156 then (
if hIn y17 156 then (
if hIn x8 156 then (
if hIn (((gI m 36 (Int32.toNatClampNeg y17)) * 6) + (gI m 36 (Int32.toNatClampNeg x8))) 36 then (
hLet ((gI m 38 (Int32.toNatClampNeg y17)) + (gI m 40 (Int32.toNatClampNeg (((gI m 36 (Int32.toNatClampNeg y17)) * 6) + (gI m 36 (Int32.toNatClampNeg x8)))))) fun y22 =>
if hIn x8 156 then (
if (gI m 38 (Int32.toNatClampNeg x8)) ≤ y22 then (
if hIn x8 156 then (
f_X9_soonest_223 fu k47 ih x4 x5 x6 x8 x8 (gI m 38 (Int32.toNatClampNeg x8)) m) else none) else (
f_X9_soonest_223 fu k47 ih x4 x5 x6 x8 x8 y22 m)) else none) else none) else none) else none) else none) else none)
noncomputable def f_X9_soonest_146 (fu : Nat) (k47 : Int32 → Int32 → Int32 → hM → Option (Int32 × hM)) (n : Nat) : Int32 → Int32 → Int32 → Int32 → hM → Option (Int32 × hM) :=
  Nat.rec (motive := fun _ => Int32 → Int32 → Int32 → Int32 → hM → Option (Int32 × hM)) (fun _ _ _ _ _ => none) (fun _ ih => s_X9_soonest_146 fu k47 ih) n
theorem f_X9_soonest_146_s (fu : Nat) (k47 : Int32 → Int32 → Int32 → hM → Option (Int32 × hM)) (n : Nat) (x4 : Int32) (x5 : Int32) (x6 : Int32) (x8 : Int32) (m : hM) : f_X9_soonest_146 fu k47 (n + 1) x4 x5 x6 x8 m = s_X9_soonest_146 fu k47 (f_X9_soonest_146 fu k47 n) x4 x5 x6 x8 m := rfl
set_option maxRecDepth 100000 in
set_option maxHeartbeats 4000000 in
theorem r_X9_soonest_146 {G : hG} {X : hX} (C : Cx G X 4 cX9_soonest 11 RX9 (some .int)) (K : Cr G X) (fu : Nat) (k47 : Int32 → Int32 → Int32 → hM → Option (Int32 × hM)) (hk47 : ∀ (x4 : Int32) (x5 : Int32) (x6 : Int32) (m : hM), Rf vI G X 47 [(0, hA G 34), (4, .int x4), (5, .int x5), (6, .int x6)] [] m (k47 x4 x5 x6 m)) (n : Nat) : ∀ (x4 : Int32) (x5 : Int32) (x6 : Int32) (x8 : Int32) (m : hM), Rf vI G X 146 [(0, hA G 34), (4, .int x4), (5, .int x5), (6, .int x6), (8, .int x8)] [] m (f_X9_soonest_146 fu k47 n x4 x5 x6 x8 m) := by
  induction n with
  | zero => intros; exact rf_none
  | succ n ih =>
    intro x4 x5 x6 x8 m
    show Rf vI G X 146 [(0, hA G 34), (4, .int x4), (5, .int x5), (6, .int x6), (8, .int x8)] [] m (s_X9_soonest_146 fu k47 (f_X9_soonest_146 fu k47 n) x4 x5 x6 x8 m)
    unfold s_X9_soonest_146
    refine rf_iload C (n := 148) (q := 4) dX9_soonest_146 rfl rfl ?_
    refine rf_if_le C (tgt := 230) (n := 151) dX9_soonest_148 (by decide) rfl (fun h14 => ?_) (fun h14 => ?_)
    · exact rf_lv _ [0, 1, 2, 3] rfl (r_X9_soonest_230 C K fu _ hk47 _ _ _ _)
    · refine rf_aload_n C (n := 152) (q := 0) dX9_soonest_151 rfl rfl rfl ?_
      refine rf_getS C (n := 155) fl_RX9_9 ly_34 rfl dX9_soonest_152 rfl ?_
      refine rf_iload C (n := 157) (q := 4) dX9_soonest_155 rfl rfl ?_
      refine rf_guard (fun h16 => ?_)
      refine rf_iald C (n := 158) ly_35 h16 rfl dX9_soonest_157 rfl ?_
      refine rf_letI (fun y17 => ?_)
      refine rf_istore C (n := 160) [(9, .int y17), (0, hA G 34), (4, .int x4), (5, .int x5), (6, .int x6), (8, .int x8)] dX9_soonest_158 rfl (by decide) rfl ?_
      refine rf_aload_n C (n := 161) (q := 1) dX9_soonest_160 rfl rfl rfl ?_
      refine rf_getS C (n := 164) fl_RX9_28 ly_34 rfl dX9_soonest_161 rfl ?_
      refine rf_iload C (n := 166) (q := 0) dX9_soonest_164 rfl rfl ?_
      refine rf_guard (fun h18 => ?_)
      refine rf_iald C (n := 167) ly_38 h18 rfl dX9_soonest_166 rfl ?_
      refine rf_aload_n C (n := 168) (q := 1) dX9_soonest_167 rfl rfl rfl ?_
      refine rf_getS C (n := 171) fl_RX9_34 ly_34 rfl dX9_soonest_168 rfl ?_
      refine rf_aload_n C (n := 172) (q := 1) dX9_soonest_171 rfl rfl rfl ?_
      refine rf_getS C (n := 175) fl_RX9_15 ly_34 rfl dX9_soonest_172 rfl ?_
      refine rf_iload C (n := 177) (q := 0) dX9_soonest_175 rfl rfl ?_
      refine rf_guard (fun h19 => ?_)
      refine rf_iald C (n := 178) ly_36 h19 rfl dX9_soonest_177 rfl ?_
      refine rf_bipush C (n := 180) (v := 6) dX9_soonest_178 rfl (by decide) ?_
      refine rf_imul C (n := 181) dX9_soonest_180 rfl ?_
      refine rf_aload_n C (n := 182) (q := 1) dX9_soonest_181 rfl rfl rfl ?_
      refine rf_getS C (n := 185) fl_RX9_15 ly_34 rfl dX9_soonest_182 rfl ?_
      refine rf_iload C (n := 187) (q := 5) dX9_soonest_185 rfl rfl ?_
      refine rf_guard (fun h20 => ?_)
      refine rf_iald C (n := 188) ly_36 h20 rfl dX9_soonest_187 rfl ?_
      refine rf_iadd C (n := 189) dX9_soonest_188 rfl ?_
      refine rf_guard (fun h21 => ?_)
      refine rf_iald C (n := 190) ly_40 h21 rfl dX9_soonest_189 rfl ?_
      refine rf_iadd C (n := 191) dX9_soonest_190 rfl ?_
      refine rf_letI (fun y22 => ?_)
      refine rf_istore C (n := 193) [(10, .int y22), (9, .int y17), (0, hA G 34), (4, .int x4), (5, .int x5), (6, .int x6), (8, .int x8)] dX9_soonest_191 rfl (by decide) rfl ?_
      refine rf_aload_n C (n := 194) (q := 2) dX9_soonest_193 rfl rfl rfl ?_
      refine rf_getS C (n := 197) fl_RX9_28 ly_34 rfl dX9_soonest_194 rfl ?_
      refine rf_iload C (n := 199) (q := 6) dX9_soonest_197 rfl rfl ?_
      refine rf_iload C (n := 201) (q := 0) dX9_soonest_199 rfl rfl ?_
      refine rf_aload_n C (n := 202) (q := 2) dX9_soonest_201 rfl rfl rfl ?_
      refine rf_getS C (n := 205) fl_RX9_28 ly_34 rfl dX9_soonest_202 rfl ?_
      refine rf_iload C (n := 207) (q := 6) dX9_soonest_205 rfl rfl ?_
      refine rf_guard (fun h23 => ?_)
      refine rf_iald C (n := 208) ly_38 h23 rfl dX9_soonest_207 rfl ?_
      refine rf_icmp_ge C (tgt := 216) (n := 211) dX9_soonest_208 (by decide) rfl (fun h24 => ?_) (fun h24 => ?_)
      · refine rf_aload_n C (n := 217) (q := 2) dX9_soonest_216 rfl rfl rfl ?_
        refine rf_getS C (n := 220) fl_RX9_28 ly_34 rfl dX9_soonest_217 rfl ?_
        refine rf_iload C (n := 222) (q := 6) dX9_soonest_220 rfl rfl ?_
        refine rf_guard (fun h25 => ?_)
        refine rf_iald C (n := 223) ly_38 h25 rfl dX9_soonest_222 rfl ?_
        exact rf_lv _ [2, 3, 4, 5, 6] rfl (r_X9_soonest_223 C K fu _ hk47 _ ih _ _ _ _ _ _ _)
      · refine rf_iload C (n := 213) (q := 0) dX9_soonest_211 rfl rfl ?_
        refine rf_goto C (n := 223) dX9_soonest_213 (by decide) ?_
        exact rf_lv _ [2, 3, 4, 5, 6] rfl (r_X9_soonest_223 C K fu _ hk47 _ ih _ _ _ _ _ _ _)
noncomputable def f_X9_soonest_130 (fu : Nat) (k47 : Int32 → Int32 → Int32 → hM → Option (Int32 × hM)) (x4 : Int32) (x5 : Int32) (x6 : Int32) (m : hM) : Option (Int32 × hM) :=
  hBd (f_X9_loseFrom fu (x6 + 1) m) fun _ m12 =>
hLet ((gI m12 34 4) - 1) fun y13 =>
f_X9_soonest_146 fu k47 fu x4 x5 x6 y13 m12
set_option maxRecDepth 100000 in
set_option maxHeartbeats 4000000 in
theorem r_X9_soonest_130 {G : hG} {X : hX} (C : Cx G X 4 cX9_soonest 11 RX9 (some .int)) (K : Cr G X) (fu : Nat) (k47 : Int32 → Int32 → Int32 → hM → Option (Int32 × hM)) (hk47 : ∀ (x4 : Int32) (x5 : Int32) (x6 : Int32) (m : hM), Rf vI G X 47 [(0, hA G 34), (4, .int x4), (5, .int x5), (6, .int x6)] [] m (k47 x4 x5 x6 m)) (x4 : Int32) (x5 : Int32) (x6 : Int32) (m : hM) : Rf vI G X 130 [(0, hA G 34), (4, .int x4), (5, .int x5), (6, .int x6)] [] m (f_X9_soonest_130 fu k47 x4 x5 x6 m) := by
  unfold f_X9_soonest_130
  refine rf_aload_n C (n := 131) (q := 0) dX9_soonest_130 rfl rfl rfl ?_
  refine rf_iload C (n := 133) (q := 3) dX9_soonest_131 rfl rfl ?_
  refine rf_iconst C (n := 134) (v := 1) dX9_soonest_133 rfl (by decide) ?_
  refine rf_iadd C (n := 135) dX9_soonest_134 rfl ?_
  refine rf_callVv C (n := 138) (c_X9_loseFrom G fu _ _) mw_RX9_70 ly_34 rfl ⟨by decide, by decide⟩ rfl (Nat.le_of_ble_eq_true rfl) rfl dX9_soonest_135 rfl (fun _ m12 => ?_)
  refine rf_aload_n C (n := 139) (q := 0) dX9_soonest_138 rfl rfl rfl ?_
  refine rf_getI C (n := 142) fl_RX9_21 ly_34 rfl dX9_soonest_139 rfl ?_
  refine rf_iconst C (n := 143) (v := 1) dX9_soonest_142 rfl (by decide) ?_
  refine rf_isub C (n := 144) dX9_soonest_143 rfl ?_
  refine rf_letI (fun y13 => ?_)
  refine rf_istore C (n := 146) [(8, .int y13), (0, hA G 34), (4, .int x4), (5, .int x5), (6, .int x6)] dX9_soonest_144 rfl (by decide) rfl ?_
  exact rf_lv _ [1, 2, 3, 4, 0] rfl (r_X9_soonest_146 C K fu _ hk47 fu _ _ _ _ _)
noncomputable def f_X9_soonest_113 (fu : Nat) (x6 : Int32) (x8 : Int32) (m : hM) : Option (Int32 × hM) :=
  hLet (sI m 34 5 x8) fun m36 =>
some (x6 + 1, m36)
set_option maxRecDepth 100000 in
set_option maxHeartbeats 4000000 in
theorem r_X9_soonest_113 {G : hG} {X : hX} (C : Cx G X 4 cX9_soonest 11 RX9 (some .int)) (K : Cr G X) (fu : Nat) (x6 : Int32) (x8 : Int32) (m : hM) : Rf vI G X 113 [(0, hA G 34), (6, .int x6), (8, .int x8)] [] m (f_X9_soonest_113 fu x6 x8 m) := by
  unfold f_X9_soonest_113
  refine rf_aload_n C (n := 114) (q := 0) dX9_soonest_113 rfl rfl rfl ?_
  refine rf_iload C (n := 116) (q := 2) dX9_soonest_114 rfl rfl ?_
  refine rf_putI C (n := 119) pl_RX9_25 ly_34 rfl ⟨rfl, rfl⟩ dX9_soonest_116 rfl ?_
  refine rf_letM (fun m36 => ?_)
  refine rf_iload C (n := 121) (q := 1) dX9_soonest_119 rfl rfl ?_
  refine rf_iconst C (n := 122) (v := 1) dX9_soonest_121 rfl (by decide) ?_
  refine rf_iadd C (n := 123) dX9_soonest_122 rfl ?_
  exact rf_iret C K dX9_soonest_123
noncomputable def s_X9_soonest_72 (fu : Nat) (k47 : Int32 → Int32 → Int32 → hM → Option (Int32 × hM)) (ih : Int32 → Int32 → Int32 → Int32 → Int32 → hM → Option (Int32 × hM)) (x4 : Int32) (x5 : Int32) (x6 : Int32) (x7 : Int32) (x8 : Int32) (m : hM) : Option (Int32 × hM) :=
  if (gI m 34 4) ≤ x8 then (
f_X9_soonest_130 fu k47 x4 x5 x6 m) else (
if hIn x8 156 then (
if hIn x8 156 then (
if hIn x8 156 then (
hLet (sI m 38 (Int32.toNatClampNeg x8) ((gI m 38 (Int32.toNatClampNeg x8)) - ((x7 >>> ((gI m 36 (Int32.toNatClampNeg x8)) &&& 31)) &&& 1))) fun m32 =>
if hIn x8 156 then (
if ¬ (gI m32 38 (Int32.toNatClampNeg x8)) = 0 then (
hLet (x8 + 1) fun y35 =>
ih x4 x5 x6 x7 y35 m32) else (
f_X9_soonest_113 fu x6 x8 m32)) else none) else none) else none) else none)
noncomputable def f_X9_soonest_72 (fu : Nat) (k47 : Int32 → Int32 → Int32 → hM → Option (Int32 × hM)) (n : Nat) : Int32 → Int32 → Int32 → Int32 → Int32 → hM → Option (Int32 × hM) :=
  Nat.rec (motive := fun _ => Int32 → Int32 → Int32 → Int32 → Int32 → hM → Option (Int32 × hM)) (fun _ _ _ _ _ _ => none) (fun _ ih => s_X9_soonest_72 fu k47 ih) n
theorem f_X9_soonest_72_s (fu : Nat) (k47 : Int32 → Int32 → Int32 → hM → Option (Int32 × hM)) (n : Nat) (x4 : Int32) (x5 : Int32) (x6 : Int32) (x7 : Int32) (x8 : Int32) (m : hM) : f_X9_soonest_72 fu k47 (n + 1) x4 x5 x6 x7 x8 m = s_X9_soonest_72 fu k47 (f_X9_soonest_72 fu k47 n) x4 x5 x6 x7 x8 m := rfl
set_option maxRecDepth 100000 in
set_option maxHeartbeats 4000000 in
theorem r_X9_soonest_72 {G : hG} {X : hX} (C : Cx G X 4 cX9_soonest 11 RX9 (some .int)) (K : Cr G X) (fu : Nat) (k47 : Int32 → Int32 → Int32 → hM → Option (Int32 × hM)) (hk47 : ∀ (x4 : Int32) (x5 : Int32) (x6 : Int32) (m : hM), Rf vI G X 47 [(0, hA G 34), (4, .int x4), (5, .int x5), (6, .int x6)] [] m (k47 x4 x5 x6 m)) (n : Nat) : ∀ (x4 : Int32) (x5 : Int32) (x6 : Int32) (x7 : Int32) (x8 : Int32) (m : hM), Rf vI G X 72 [(0, hA G 34), (4, .int x4), (5, .int x5), (6, .int x6), (7, .int x7), (8, .int x8)] [] m (f_X9_soonest_72 fu k47 n x4 x5 x6 x7 x8 m) := by
  induction n with
  | zero => intros; exact rf_none
  | succ n ih =>
    intro x4 x5 x6 x7 x8 m
    show Rf vI G X 72 [(0, hA G 34), (4, .int x4), (5, .int x5), (6, .int x6), (7, .int x7), (8, .int x8)] [] m (s_X9_soonest_72 fu k47 (f_X9_soonest_72 fu k47 n) x4 x5 x6 x7 x8 m)
    unfold s_X9_soonest_72
    refine rf_iload C (n := 74) (q := 5) dX9_soonest_72 rfl rfl ?_
    refine rf_aload_n C (n := 75) (q := 0) dX9_soonest_74 rfl rfl rfl ?_
    refine rf_getI C (n := 78) fl_RX9_21 ly_34 rfl dX9_soonest_75 rfl ?_
    refine rf_icmp_ge C (tgt := 130) (n := 81) dX9_soonest_78 (by decide) rfl (fun h11 => ?_) (fun h11 => ?_)
    · exact rf_lv _ [0, 1, 2, 3] rfl (r_X9_soonest_130 C K fu _ hk47 _ _ _ _)
    · refine rf_aload_n C (n := 82) (q := 0) dX9_soonest_81 rfl rfl rfl ?_
      refine rf_getS C (n := 85) fl_RX9_28 ly_34 rfl dX9_soonest_82 rfl ?_
      refine rf_iload C (n := 87) (q := 5) dX9_soonest_85 rfl rfl ?_
      refine rf_dup2 C (n := 88) dX9_soonest_87 rfl rfl rfl ?_
      refine rf_guard (fun h29 => ?_)
      refine rf_iald C (n := 89) ly_38 h29 rfl dX9_soonest_88 rfl ?_
      refine rf_iload C (n := 91) (q := 4) dX9_soonest_89 rfl rfl ?_
      refine rf_aload_n C (n := 92) (q := 0) dX9_soonest_91 rfl rfl rfl ?_
      refine rf_getS C (n := 95) fl_RX9_15 ly_34 rfl dX9_soonest_92 rfl ?_
      refine rf_iload C (n := 97) (q := 5) dX9_soonest_95 rfl rfl ?_
      refine rf_guard (fun h30 => ?_)
      refine rf_iald C (n := 98) ly_36 h30 rfl dX9_soonest_97 rfl ?_
      refine rf_ishr C (n := 99) dX9_soonest_98 rfl ?_
      refine rf_iconst C (n := 100) (v := 1) dX9_soonest_99 rfl (by decide) ?_
      refine rf_iand C (n := 101) dX9_soonest_100 rfl ?_
      refine rf_isub C (n := 102) dX9_soonest_101 rfl ?_
      refine rf_guard (fun h31 => ?_)
      refine rf_iast C (n := 103) ly_38 h31 rfl dX9_soonest_102 rfl ?_
      refine rf_letM (fun m32 => ?_)
      refine rf_aload_n C (n := 104) (q := 0) dX9_soonest_103 rfl rfl rfl ?_
      refine rf_getS C (n := 107) fl_RX9_28 ly_34 rfl dX9_soonest_104 rfl ?_
      refine rf_iload C (n := 109) (q := 5) dX9_soonest_107 rfl rfl ?_
      refine rf_guard (fun h33 => ?_)
      refine rf_iald C (n := 110) ly_38 h33 rfl dX9_soonest_109 rfl ?_
      refine rf_if_ne C (tgt := 124) (n := 113) dX9_soonest_110 (by decide) rfl (fun h34 => ?_) (fun h34 => ?_)
      · refine rf_iinc2 C (n := 127) (q := 5) (fun y35 => [(8, .int y35), (0, hA G 34), (4, .int x4), (5, .int x5), (6, .int x6), (7, .int x7)]) dX9_soonest_124 rfl rfl (by decide) (by decide) (fun _ => rfl) (fun y35 => ?_)
        refine rf_goto C (n := 72) dX9_soonest_127 (by decide) ?_
        exact rf_lv _ [1, 2, 3, 4, 5, 0] rfl (ih _ _ _ _ _ _)
      · exact rf_lv _ [0, 3, 5] rfl (r_X9_soonest_113 C K fu _ _ _)
noncomputable def s_X9_soonest_47 (fu : Nat) (ih : Int32 → Int32 → Int32 → hM → Option (Int32 × hM)) (x4 : Int32) (x5 : Int32) (x6 : Int32) (m : hM) : Option (Int32 × hM) :=
  if x4 ≤ x6 then (
some ((-2), m)) else (
if hIn x6 2560 then (
hLet ((gI m 4 (Int32.toNatClampNeg x6)) &&& x5) fun y10 =>
f_X9_soonest_72 fu ih fu x4 x5 x6 y10 0 m) else none)
noncomputable def f_X9_soonest_47 (fu : Nat) (n : Nat) : Int32 → Int32 → Int32 → hM → Option (Int32 × hM) :=
  Nat.rec (motive := fun _ => Int32 → Int32 → Int32 → hM → Option (Int32 × hM)) (fun _ _ _ _ => none) (fun _ ih => s_X9_soonest_47 fu ih) n
theorem f_X9_soonest_47_s (fu : Nat) (n : Nat) (x4 : Int32) (x5 : Int32) (x6 : Int32) (m : hM) : f_X9_soonest_47 fu (n + 1) x4 x5 x6 m = s_X9_soonest_47 fu (f_X9_soonest_47 fu n) x4 x5 x6 m := rfl
set_option maxRecDepth 100000 in
set_option maxHeartbeats 4000000 in
theorem r_X9_soonest_47 {G : hG} {X : hX} (C : Cx G X 4 cX9_soonest 11 RX9 (some .int)) (K : Cr G X) (fu : Nat) (n : Nat) : ∀ (x4 : Int32) (x5 : Int32) (x6 : Int32) (m : hM), Rf vI G X 47 [(0, hA G 34), (4, .int x4), (5, .int x5), (6, .int x6)] [] m (f_X9_soonest_47 fu n x4 x5 x6 m) := by
  induction n with
  | zero => intros; exact rf_none
  | succ n ih =>
    intro x4 x5 x6 m
    show Rf vI G X 47 [(0, hA G 34), (4, .int x4), (5, .int x5), (6, .int x6)] [] m (s_X9_soonest_47 fu (f_X9_soonest_47 fu n) x4 x5 x6 m)
    unfold s_X9_soonest_47
    refine rf_iload C (n := 49) (q := 3) dX9_soonest_47 rfl rfl ?_
    refine rf_iload C (n := 51) (q := 1) dX9_soonest_49 rfl rfl ?_
    refine rf_icmp_ge C (tgt := 236) (n := 54) dX9_soonest_51 (by decide) rfl (fun h8 => ?_) (fun h8 => ?_)
    · refine rf_bipush C (n := 238) (v := (-2)) dX9_soonest_236 rfl (by decide) ?_
      exact rf_iret C K dX9_soonest_238
    · refine rf_aload_n C (n := 55) (q := 0) dX9_soonest_54 rfl rfl rfl ?_
      refine rf_getS C (n := 58) fl_RX9_37 ly_34 rfl dX9_soonest_55 rfl ?_
      refine rf_getS C (n := 61) fl_RX9_67 ly_1 rfl dX9_soonest_58 rfl ?_
      refine rf_iload C (n := 63) (q := 3) dX9_soonest_61 rfl rfl ?_
      refine rf_guard (fun h9 => ?_)
      refine rf_iald C (n := 64) ly_4 h9 rfl dX9_soonest_63 rfl ?_
      refine rf_iload C (n := 66) (q := 2) dX9_soonest_64 rfl rfl ?_
      refine rf_iand C (n := 67) dX9_soonest_66 rfl ?_
      refine rf_letI (fun y10 => ?_)
      refine rf_istore C (n := 69) [(7, .int y10), (0, hA G 34), (4, .int x4), (5, .int x5), (6, .int x6)] dX9_soonest_67 rfl (by decide) rfl ?_
      refine rf_iconst C (n := 70) (v := 0) dX9_soonest_69 rfl (by decide) ?_
      refine rf_istore C (n := 72) [(8, .int 0), (7, .int y10), (0, hA G 34), (4, .int x4), (5, .int x5), (6, .int x6)] dX9_soonest_70 rfl (by decide) rfl ?_
      exact rf_lv _ [2, 3, 4, 5, 1, 0] rfl (r_X9_soonest_72 C K fu _ ih fu _ _ _ _ _ _)
noncomputable def f_X9_soonest (fu : Nat) (x2 : Int32) (x3 : Int32) (x4 : Int32) (m : hM) : Option (Int32 × hM) :=
  if hIn x2 8 then (
hBd (f_X0_officesWith fu (gI m 19 (Int32.toNatClampNeg x2)) m) fun y2 m3 =>
if ¬ y2 = 0 then (
hBd (f_J7_fill_53178 fu 38 156 1000000 m3) fun _ m5 =>
if hIn x2 8 then (
hLet (sI m5 38 0 (gI m5 21 (Int32.toNatClampNeg x2))) fun m7 =>
f_X9_soonest_47 fu fu x4 y2 x3 m7) else none) else (
some ((-2), m3))) else none
set_option maxRecDepth 100000 in
set_option maxHeartbeats 4000000 in
theorem c_X9_soonest (G : hG) (fu : Nat) (x2 : Int32) (x3 : Int32) (x4 : Int32) (m : hM) : Mt vI G 4 yX9_soonest cX9_soonest 11 (some .int) [hA G 34, hA G 18, .int x2, .int x3, .int x4] m (f_X9_soonest fu x2 x3 x4 m) := by
  refine mt_of (by decide +kernel) (Nat.le_of_ble_eq_true rfl) (fun X C K => ?_)
  have C : Cx G X 4 cX9_soonest 11 RX9 (some .int) := C
  show Rf vI G X 0 [(0, hA G 34), (1, hA G 18), (2, .int x2), (3, .int x3), (4, .int x4)] [] m _
  unfold f_X9_soonest
  refine rf_aload_n C (n := 1) (q := 0) dX9_soonest_0 rfl rfl rfl ?_
  refine rf_getS C (n := 4) fl_RX9_37 ly_34 rfl dX9_soonest_1 rfl ?_
  refine rf_aload_n C (n := 5) (q := 1) dX9_soonest_4 rfl rfl rfl ?_
  refine rf_getS C (n := 8) fl_RX9_48 ly_18 rfl dX9_soonest_5 rfl ?_
  refine rf_iload_n C (n := 9) (q := 2) dX9_soonest_8 rfl rfl rfl ?_
  refine rf_guard (fun h1 => ?_)
  refine rf_iald C (n := 10) ly_19 h1 rfl dX9_soonest_9 rfl ?_
  refine rf_callVi C (n := 13) (c_X0_officesWith G fu _ _) mw_RX9_53 ly_1 rfl ⟨by decide, by decide⟩ rfl (Nat.le_of_ble_eq_true rfl) rfl dX9_soonest_10 rfl (fun y2 m3 => ?_)
  refine rf_istore C (n := 15) [(5, .int y2), (0, hA G 34), (1, hA G 18), (2, .int x2), (3, .int x3), (4, .int x4)] dX9_soonest_13 rfl (by decide) rfl ?_
  refine rf_iload C (n := 17) (q := 0) dX9_soonest_15 rfl rfl ?_
  refine rf_if_ne C (tgt := 23) (n := 20) dX9_soonest_17 (by decide) rfl (fun h4 => ?_) (fun h4 => ?_)
  · refine rf_aload_n C (n := 24) (q := 1) dX9_soonest_23 rfl rfl rfl ?_
    refine rf_getS C (n := 27) fl_RX9_28 ly_34 rfl dX9_soonest_24 rfl ?_
    refine rf_ldc C (n := 29) dX9_soonest_27 rfl kc_RX9_57 ?_
    refine rf_callSv C (n := 32) (c_J7_fill_53178 G fu _ _ _ _) sw_RX9_58 ⟨by decide, by decide⟩ rfl (Nat.le_of_ble_eq_true rfl) rfl dX9_soonest_29 rfl (fun _ m5 => ?_)
    refine rf_aload_n C (n := 33) (q := 1) dX9_soonest_32 rfl rfl rfl ?_
    refine rf_getS C (n := 36) fl_RX9_28 ly_34 rfl dX9_soonest_33 rfl ?_
    refine rf_iconst C (n := 37) (v := 0) dX9_soonest_36 rfl (by decide) ?_
    refine rf_aload_n C (n := 38) (q := 2) dX9_soonest_37 rfl rfl rfl ?_
    refine rf_getS C (n := 41) fl_RX9_64 ly_18 rfl dX9_soonest_38 rfl ?_
    refine rf_iload_n C (n := 42) (q := 3) dX9_soonest_41 rfl rfl rfl ?_
    refine rf_guard (fun h6 => ?_)
    refine rf_iald C (n := 43) ly_21 h6 rfl dX9_soonest_42 rfl ?_
    refine rf_iast C (n := 44) (j0 := 0) ly_38 (by decide) (by decide) dX9_soonest_43 rfl ?_
    refine rf_letM (fun m7 => ?_)
    refine rf_iload_n C (n := 45) (q := 4) dX9_soonest_44 rfl rfl rfl ?_
    refine rf_istore C (n := 47) [(6, .int x3), (5, .int y2), (0, hA G 34), (1, hA G 18), (2, .int x2), (3, .int x3), (4, .int x4)] dX9_soonest_45 rfl (by decide) rfl ?_
    exact rf_lv _ [2, 6, 1, 0] rfl (r_X9_soonest_47 C K fu fu _ _ _ _)
  · refine rf_bipush C (n := 22) (v := (-2)) dX9_soonest_20 rfl (by decide) ?_
    exact rf_iret C K dX9_soonest_22
noncomputable def f_X9_handForPay_106 (fu : Nat) (k46 : Int32 → Int32 → Int32 → Int32 → hM → Option (Unit × hM)) (x3 : Int32) (x4 : Int32) (x5 : Int32) (x6 : Int32) (s1 : Int32) (s2 : Int32) (m : hM) : Option (Unit × hM) :=
  if hIn s1 3255 then (
hLet (sI m 39 (Int32.toNatClampNeg s1) s2) fun m16 =>
hLet (x6 + 1) fun y17 =>
k46 x3 x4 x5 y17 m16) else none
set_option maxRecDepth 100000 in
set_option maxHeartbeats 4000000 in
theorem r_X9_handForPay_106 {G : hG} {X : hX} (C : Cx G X 1 cX9_handForPay 8 RX9 none) (K : Cr G X) (fu : Nat) (k46 : Int32 → Int32 → Int32 → Int32 → hM → Option (Unit × hM)) (hk46 : ∀ (x3 : Int32) (x4 : Int32) (x5 : Int32) (x6 : Int32) (m : hM), Rf vU G X 46 [(0, hA G 34), (3, .int x3), (4, .int x4), (5, .int x5), (6, .int x6)] [] m (k46 x3 x4 x5 x6 m)) (x3 : Int32) (x4 : Int32) (x5 : Int32) (x6 : Int32) (s1 : Int32) (s2 : Int32) (m : hM) : Rf vU G X 106 [(0, hA G 34), (3, .int x3), (4, .int x4), (5, .int x5), (6, .int x6)] [.int s2, .int s1, hA G 39] m (f_X9_handForPay_106 fu k46 x3 x4 x5 x6 s1 s2 m) := by
  unfold f_X9_handForPay_106
  refine rf_guard (fun h15 => ?_)
  refine rf_iast C (n := 107) ly_39 h15 rfl dX9_handForPay_106 rfl ?_
  refine rf_letM (fun m16 => ?_)
  refine rf_iinc2 C (n := 110) (q := 4) (fun y17 => [(6, .int y17), (0, hA G 34), (3, .int x3), (4, .int x4), (5, .int x5)]) dX9_handForPay_107 rfl rfl (by decide) (by decide) (fun _ => rfl) (fun y17 => ?_)
  refine rf_goto C (n := 46) dX9_handForPay_110 (by decide) ?_
  exact rf_lv _ [1, 2, 3, 4, 0] rfl (hk46 _ _ _ _ _)
noncomputable def s_X9_handForPay_46 (fu : Nat) (ih : Int32 → Int32 → Int32 → Int32 → hM → Option (Unit × hM)) (x3 : Int32) (x4 : Int32) (x5 : Int32) (x6 : Int32) (m : hM) : Option (Unit × hM) :=
  if 104 < (x6 + x3) then (
some ((), m)) else (
if hIn (x4 + x6) 3255 then (
hLet (gI m 39 (Int32.toNatClampNeg (x4 + x6))) fun y11 =>
if hIn (x5 + x6) 3255 then (
if (gI m 39 (Int32.toNatClampNeg (x5 + x6))) ≤ y11 then (
if hIn (x5 + x6) 3255 then (
f_X9_handForPay_106 fu ih x3 x4 x5 x6 (x5 + x6) (gI m 39 (Int32.toNatClampNeg (x5 + x6))) m) else none) else (
f_X9_handForPay_106 fu ih x3 x4 x5 x6 (x5 + x6) y11 m)) else none) else none)
noncomputable def f_X9_handForPay_46 (fu : Nat) (n : Nat) : Int32 → Int32 → Int32 → Int32 → hM → Option (Unit × hM) :=
  Nat.rec (motive := fun _ => Int32 → Int32 → Int32 → Int32 → hM → Option (Unit × hM)) (fun _ _ _ _ _ => none) (fun _ ih => s_X9_handForPay_46 fu ih) n
theorem f_X9_handForPay_46_s (fu : Nat) (n : Nat) (x3 : Int32) (x4 : Int32) (x5 : Int32) (x6 : Int32) (m : hM) : f_X9_handForPay_46 fu (n + 1) x3 x4 x5 x6 m = s_X9_handForPay_46 fu (f_X9_handForPay_46 fu n) x3 x4 x5 x6 m := rfl
set_option maxRecDepth 100000 in
set_option maxHeartbeats 4000000 in
theorem r_X9_handForPay_46 {G : hG} {X : hX} (C : Cx G X 1 cX9_handForPay 8 RX9 none) (K : Cr G X) (fu : Nat) (n : Nat) : ∀ (x3 : Int32) (x4 : Int32) (x5 : Int32) (x6 : Int32) (m : hM), Rf vU G X 46 [(0, hA G 34), (3, .int x3), (4, .int x4), (5, .int x5), (6, .int x6)] [] m (f_X9_handForPay_46 fu n x3 x4 x5 x6 m) := by
  induction n with
  | zero => intros; exact rf_none
  | succ n ih =>
    intro x3 x4 x5 x6 m
    show Rf vU G X 46 [(0, hA G 34), (3, .int x3), (4, .int x4), (5, .int x5), (6, .int x6)] [] m (s_X9_handForPay_46 fu (f_X9_handForPay_46 fu n) x3 x4 x5 x6 m)
    unfold s_X9_handForPay_46
    refine rf_iload C (n := 48) (q := 4) dX9_handForPay_46 rfl rfl ?_
    refine rf_iload_n C (n := 49) (q := 1) dX9_handForPay_48 rfl rfl rfl ?_
    refine rf_iadd C (n := 50) dX9_handForPay_49 rfl ?_
    refine rf_bipush C (n := 52) (v := 104) dX9_handForPay_50 rfl (by decide) ?_
    refine rf_icmp_gt C (tgt := 113) (n := 55) dX9_handForPay_52 (by decide) rfl (fun h9 => ?_) (fun h9 => ?_)
    · exact rf_vret C K dX9_handForPay_113
    · refine rf_aload_n C (n := 56) (q := 0) dX9_handForPay_55 rfl rfl rfl ?_
      refine rf_getS C (n := 59) fl_RX9_31 ly_34 rfl dX9_handForPay_56 rfl ?_
      refine rf_iload C (n := 61) (q := 2) dX9_handForPay_59 rfl rfl ?_
      refine rf_iload C (n := 63) (q := 4) dX9_handForPay_61 rfl rfl ?_
      refine rf_iadd C (n := 64) dX9_handForPay_63 rfl ?_
      refine rf_guard (fun h10 => ?_)
      refine rf_iald C (n := 65) ly_39 h10 rfl dX9_handForPay_64 rfl ?_
      refine rf_letI (fun y11 => ?_)
      refine rf_istore C (n := 67) [(7, .int y11), (0, hA G 34), (3, .int x3), (4, .int x4), (5, .int x5), (6, .int x6)] dX9_handForPay_65 rfl (by decide) rfl ?_
      refine rf_aload_n C (n := 68) (q := 1) dX9_handForPay_67 rfl rfl rfl ?_
      refine rf_getS C (n := 71) fl_RX9_31 ly_34 rfl dX9_handForPay_68 rfl ?_
      refine rf_iload C (n := 73) (q := 4) dX9_handForPay_71 rfl rfl ?_
      refine rf_iload C (n := 75) (q := 5) dX9_handForPay_73 rfl rfl ?_
      refine rf_iadd C (n := 76) dX9_handForPay_75 rfl ?_
      refine rf_iload C (n := 78) (q := 0) dX9_handForPay_76 rfl rfl ?_
      refine rf_aload_n C (n := 79) (q := 1) dX9_handForPay_78 rfl rfl rfl ?_
      refine rf_getS C (n := 82) fl_RX9_31 ly_34 rfl dX9_handForPay_79 rfl ?_
      refine rf_iload C (n := 84) (q := 4) dX9_handForPay_82 rfl rfl ?_
      refine rf_iload C (n := 86) (q := 5) dX9_handForPay_84 rfl rfl ?_
      refine rf_iadd C (n := 87) dX9_handForPay_86 rfl ?_
      refine rf_guard (fun h12 => ?_)
      refine rf_iald C (n := 88) ly_39 h12 rfl dX9_handForPay_87 rfl ?_
      refine rf_icmp_ge C (tgt := 96) (n := 91) dX9_handForPay_88 (by decide) rfl (fun h13 => ?_) (fun h13 => ?_)
      · refine rf_aload_n C (n := 97) (q := 1) dX9_handForPay_96 rfl rfl rfl ?_
        refine rf_getS C (n := 100) fl_RX9_31 ly_34 rfl dX9_handForPay_97 rfl ?_
        refine rf_iload C (n := 102) (q := 4) dX9_handForPay_100 rfl rfl ?_
        refine rf_iload C (n := 104) (q := 5) dX9_handForPay_102 rfl rfl ?_
        refine rf_iadd C (n := 105) dX9_handForPay_104 rfl ?_
        refine rf_guard (fun h14 => ?_)
        refine rf_iald C (n := 106) ly_39 h14 rfl dX9_handForPay_105 rfl ?_
        exact rf_lv _ [1, 2, 3, 4, 5] rfl (r_X9_handForPay_106 C K fu _ ih _ _ _ _ _ _ _)
      · refine rf_iload C (n := 93) (q := 0) dX9_handForPay_91 rfl rfl ?_
        refine rf_goto C (n := 106) dX9_handForPay_93 (by decide) ?_
        exact rf_lv _ [1, 2, 3, 4, 5] rfl (r_X9_handForPay_106 C K fu _ ih _ _ _ _ _ _ _)
noncomputable def f_X9_handForPay (fu : Nat) (x1 : Int32) (m : hM) : Option (Unit × hM) :=
  if hIn x1 156 then (
hLet (gI m 35 (Int32.toNatClampNeg x1)) fun y2 =>
if hIn y2 156 then (
if hIn x1 156 then (
if hIn (((gI m 36 (Int32.toNatClampNeg y2)) * 6) + (gI m 36 (Int32.toNatClampNeg x1))) 36 then (
hLet (gI m 40 (Int32.toNatClampNeg (((gI m 36 (Int32.toNatClampNeg y2)) * 6) + (gI m 36 (Int32.toNatClampNeg x1))))) fun y6 =>
hLet (y2 * 105) fun y7 =>
hLet ((x1 * 105) + y6) fun y8 =>
f_X9_handForPay_46 fu fu y6 y7 y8 1 m) else none) else none) else none) else none
set_option maxRecDepth 100000 in
set_option maxHeartbeats 4000000 in
theorem c_X9_handForPay (G : hG) (fu : Nat) (x1 : Int32) (m : hM) : Mt vU G 1 yX9_handForPay cX9_handForPay 8 none [hA G 34, .int x1] m (f_X9_handForPay fu x1 m) := by
  refine mt_of (by decide +kernel) (Nat.le_of_ble_eq_true rfl) (fun X C K => ?_)
  have C : Cx G X 1 cX9_handForPay 8 RX9 none := C
  show Rf vU G X 0 [(0, hA G 34), (1, .int x1)] [] m _
  unfold f_X9_handForPay
  refine rf_aload_n C (n := 1) (q := 0) dX9_handForPay_0 rfl rfl rfl ?_
  refine rf_getS C (n := 4) fl_RX9_9 ly_34 rfl dX9_handForPay_1 rfl ?_
  refine rf_iload_n C (n := 5) (q := 1) dX9_handForPay_4 rfl rfl rfl ?_
  refine rf_guard (fun h1 => ?_)
  refine rf_iald C (n := 6) ly_35 h1 rfl dX9_handForPay_5 rfl ?_
  refine rf_letI (fun y2 => ?_)
  refine rf_istore_n C (n := 7) [(2, .int y2), (0, hA G 34), (1, .int x1)] dX9_handForPay_6 rfl rfl (by decide) rfl ?_
  refine rf_aload_n C (n := 8) (q := 1) dX9_handForPay_7 rfl rfl rfl ?_
  refine rf_getS C (n := 11) fl_RX9_34 ly_34 rfl dX9_handForPay_8 rfl ?_
  refine rf_aload_n C (n := 12) (q := 1) dX9_handForPay_11 rfl rfl rfl ?_
  refine rf_getS C (n := 15) fl_RX9_15 ly_34 rfl dX9_handForPay_12 rfl ?_
  refine rf_iload_n C (n := 16) (q := 0) dX9_handForPay_15 rfl rfl rfl ?_
  refine rf_guard (fun h3 => ?_)
  refine rf_iald C (n := 17) ly_36 h3 rfl dX9_handForPay_16 rfl ?_
  refine rf_bipush C (n := 19) (v := 6) dX9_handForPay_17 rfl (by decide) ?_
  refine rf_imul C (n := 20) dX9_handForPay_19 rfl ?_
  refine rf_aload_n C (n := 21) (q := 1) dX9_handForPay_20 rfl rfl rfl ?_
  refine rf_getS C (n := 24) fl_RX9_15 ly_34 rfl dX9_handForPay_21 rfl ?_
  refine rf_iload_n C (n := 25) (q := 2) dX9_handForPay_24 rfl rfl rfl ?_
  refine rf_guard (fun h4 => ?_)
  refine rf_iald C (n := 26) ly_36 h4 rfl dX9_handForPay_25 rfl ?_
  refine rf_iadd C (n := 27) dX9_handForPay_26 rfl ?_
  refine rf_guard (fun h5 => ?_)
  refine rf_iald C (n := 28) ly_40 h5 rfl dX9_handForPay_27 rfl ?_
  refine rf_letI (fun y6 => ?_)
  refine rf_istore_n C (n := 29) [(3, .int y6), (2, .int y2), (0, hA G 34), (1, .int x1)] dX9_handForPay_28 rfl rfl (by decide) rfl ?_
  refine rf_iload_n C (n := 30) (q := 1) dX9_handForPay_29 rfl rfl rfl ?_
  refine rf_bipush C (n := 32) (v := 105) dX9_handForPay_30 rfl (by decide) ?_
  refine rf_imul C (n := 33) dX9_handForPay_32 rfl ?_
  refine rf_letI (fun y7 => ?_)
  refine rf_istore C (n := 35) [(4, .int y7), (3, .int y6), (2, .int y2), (0, hA G 34), (1, .int x1)] dX9_handForPay_33 rfl (by decide) rfl ?_
  refine rf_iload_n C (n := 36) (q := 4) dX9_handForPay_35 rfl rfl rfl ?_
  refine rf_bipush C (n := 38) (v := 105) dX9_handForPay_36 rfl (by decide) ?_
  refine rf_imul C (n := 39) dX9_handForPay_38 rfl ?_
  refine rf_iload_n C (n := 40) (q := 1) dX9_handForPay_39 rfl rfl rfl ?_
  refine rf_iadd C (n := 41) dX9_handForPay_40 rfl ?_
  refine rf_letI (fun y8 => ?_)
  refine rf_istore C (n := 43) [(5, .int y8), (4, .int y7), (3, .int y6), (2, .int y2), (0, hA G 34), (1, .int x1)] dX9_handForPay_41 rfl (by decide) rfl ?_
  refine rf_iconst C (n := 44) (v := 1) dX9_handForPay_43 rfl (by decide) ?_
  refine rf_istore C (n := 46) [(6, .int 1), (5, .int y8), (4, .int y7), (3, .int y6), (2, .int y2), (0, hA G 34), (1, .int x1)] dX9_handForPay_44 rfl (by decide) rfl ?_
  exact rf_lv _ [5, 3, 2, 1, 0] rfl (r_X9_handForPay_46 C K fu fu _ _ _ _ _)
