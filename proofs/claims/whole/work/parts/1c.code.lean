theorem dX7_allLost_0 : decode cX7_allLost 0 = .ok (.iconst 0, 1) := by decide +kernel
theorem dX7_allLost_1 : decode cX7_allLost 1 = .ok (.istore_n 1, 1) := by decide +kernel
theorem dX7_allLost_2 : decode cX7_allLost 2 = .ok (.iconst 0, 1) := by decide +kernel
theorem dX7_allLost_3 : decode cX7_allLost 3 = .ok (.istore_n 2, 1) := by decide +kernel
theorem dX7_allLost_4 : decode cX7_allLost 4 = .ok (.iload_n 2, 1) := by decide +kernel
theorem dX7_allLost_5 : decode cX7_allLost 5 = .ok (.bipush 8, 2) := by decide +kernel
theorem dX7_allLost_7 : decode cX7_allLost 7 = .ok (.if_icmp .ge 18, 3) := by decide +kernel
theorem dX7_allLost_10 : decode cX7_allLost 10 = .ok (.iload_n 1, 1) := by decide +kernel
theorem dX7_allLost_11 : decode cX7_allLost 11 = .ok (.aload_n 0, 1) := by decide +kernel
theorem dX7_allLost_12 : decode cX7_allLost 12 = .ok (.getfield 40, 3) := by decide +kernel
theorem dX7_allLost_15 : decode cX7_allLost 15 = .ok (.iload_n 2, 1) := by decide +kernel
theorem dX7_allLost_16 : decode cX7_allLost 16 = .ok (.iaload, 1) := by decide +kernel
theorem dX7_allLost_17 : decode cX7_allLost 17 = .ok (.iadd, 1) := by decide +kernel
theorem dX7_allLost_18 : decode cX7_allLost 18 = .ok (.istore_n 1, 1) := by decide +kernel
theorem dX7_allLost_19 : decode cX7_allLost 19 = .ok (.iinc 2 1, 3) := by decide +kernel
theorem dX7_allLost_22 : decode cX7_allLost 22 = .ok (.goto (-18), 3) := by decide +kernel
theorem dX7_allLost_25 : decode cX7_allLost 25 = .ok (.iload_n 1, 1) := by decide +kernel
theorem dX7_allLost_26 : decode cX7_allLost 26 = .ok (.ireturn, 1) := by decide +kernel
theorem dX8_readyPieces_0 : decode cX8_readyPieces 0 = .ok (.iconst 0, 1) := by decide +kernel
theorem dX8_readyPieces_1 : decode cX8_readyPieces 1 = .ok (.istore_n 2, 1) := by decide +kernel
theorem dX8_readyPieces_2 : decode cX8_readyPieces 2 = .ok (.iconst 0, 1) := by decide +kernel
theorem dX8_readyPieces_3 : decode cX8_readyPieces 3 = .ok (.istore_n 3, 1) := by decide +kernel
theorem dX8_readyPieces_4 : decode cX8_readyPieces 4 = .ok (.iload_n 3, 1) := by decide +kernel
theorem dX8_readyPieces_5 : decode cX8_readyPieces 5 = .ok (.aload_n 0, 1) := by decide +kernel
theorem dX8_readyPieces_6 : decode cX8_readyPieces 6 = .ok (.getfield 33, 3) := by decide +kernel
theorem dX8_readyPieces_9 : decode cX8_readyPieces 9 = .ok (.getfield 41, 3) := by decide +kernel
theorem dX8_readyPieces_12 : decode cX8_readyPieces 12 = .ok (.if_icmp .ge 45, 3) := by decide +kernel
theorem dX8_readyPieces_15 : decode cX8_readyPieces 15 = .ok (.aload_n 1, 1) := by decide +kernel
theorem dX8_readyPieces_16 : decode cX8_readyPieces 16 = .ok (.getfield 46, 3) := by decide +kernel
theorem dX8_readyPieces_19 : decode cX8_readyPieces 19 = .ok (.iload_n 3, 1) := by decide +kernel
theorem dX8_readyPieces_20 : decode cX8_readyPieces 20 = .ok (.ishr, 1) := by decide +kernel
theorem dX8_readyPieces_21 : decode cX8_readyPieces 21 = .ok (.iconst 1, 1) := by decide +kernel
theorem dX8_readyPieces_22 : decode cX8_readyPieces 22 = .ok (.iand, 1) := by decide +kernel
theorem dX8_readyPieces_23 : decode cX8_readyPieces 23 = .ok (.ifCond .ne 28, 3) := by decide +kernel
theorem dX8_readyPieces_26 : decode cX8_readyPieces 26 = .ok (.aload_n 0, 1) := by decide +kernel
theorem dX8_readyPieces_27 : decode cX8_readyPieces 27 = .ok (.getfield 33, 3) := by decide +kernel
theorem dX8_readyPieces_30 : decode cX8_readyPieces 30 = .ok (.getfield 51, 3) := by decide +kernel
theorem dX8_readyPieces_33 : decode cX8_readyPieces 33 = .ok (.iload_n 3, 1) := by decide +kernel
theorem dX8_readyPieces_34 : decode cX8_readyPieces 34 = .ok (.iaload, 1) := by decide +kernel
theorem dX8_readyPieces_35 : decode cX8_readyPieces 35 = .ok (.aload_n 1, 1) := by decide +kernel
theorem dX8_readyPieces_36 : decode cX8_readyPieces 36 = .ok (.getfield 46, 3) := by decide +kernel
theorem dX8_readyPieces_39 : decode cX8_readyPieces 39 = .ok (.iconst (-1), 1) := by decide +kernel
theorem dX8_readyPieces_40 : decode cX8_readyPieces 40 = .ok (.ixor, 1) := by decide +kernel
theorem dX8_readyPieces_41 : decode cX8_readyPieces 41 = .ok (.iand, 1) := by decide +kernel
theorem dX8_readyPieces_42 : decode cX8_readyPieces 42 = .ok (.ifCond .ne 9, 3) := by decide +kernel
theorem dX8_readyPieces_45 : decode cX8_readyPieces 45 = .ok (.iload_n 2, 1) := by decide +kernel
theorem dX8_readyPieces_46 : decode cX8_readyPieces 46 = .ok (.iconst 1, 1) := by decide +kernel
theorem dX8_readyPieces_47 : decode cX8_readyPieces 47 = .ok (.iload_n 3, 1) := by decide +kernel
theorem dX8_readyPieces_48 : decode cX8_readyPieces 48 = .ok (.ishl, 1) := by decide +kernel
theorem dX8_readyPieces_49 : decode cX8_readyPieces 49 = .ok (.ior, 1) := by decide +kernel
theorem dX8_readyPieces_50 : decode cX8_readyPieces 50 = .ok (.istore_n 2, 1) := by decide +kernel
theorem dX8_readyPieces_51 : decode cX8_readyPieces 51 = .ok (.iinc 3 1, 3) := by decide +kernel
theorem dX8_readyPieces_54 : decode cX8_readyPieces 54 = .ok (.goto (-50), 3) := by decide +kernel
theorem dX8_readyPieces_57 : decode cX8_readyPieces 57 = .ok (.iload_n 2, 1) := by decide +kernel
theorem dX8_readyPieces_58 : decode cX8_readyPieces 58 = .ok (.ireturn, 1) := by decide +kernel
theorem dX8_handTo_0 : decode cX8_handTo 0 = .ok (.aload_n 1, 1) := by decide +kernel
theorem dX8_handTo_1 : decode cX8_handTo 1 = .ok (.getfield 84, 3) := by decide +kernel
theorem dX8_handTo_4 : decode cX8_handTo 4 = .ok (.iload_n 2, 1) := by decide +kernel
theorem dX8_handTo_5 : decode cX8_handTo 5 = .ok (.iaload, 1) := by decide +kernel
theorem dX8_handTo_6 : decode cX8_handTo 6 = .ok (.istore 5, 2) := by decide +kernel
theorem dX8_handTo_8 : decode cX8_handTo 8 = .ok (.aload_n 0, 1) := by decide +kernel
theorem dX8_handTo_9 : decode cX8_handTo 9 = .ok (.getfield 29, 3) := by decide +kernel
theorem dX8_handTo_12 : decode cX8_handTo 12 = .ok (.iload 5, 2) := by decide +kernel
theorem dX8_handTo_14 : decode cX8_handTo 14 = .ok (.iload_n 3, 1) := by decide +kernel
theorem dX8_handTo_15 : decode cX8_handTo 15 = .ok (.aload_n 0, 1) := by decide +kernel
theorem dX8_handTo_16 : decode cX8_handTo 16 = .ok (.getfield 29, 3) := by decide +kernel
theorem dX8_handTo_19 : decode cX8_handTo 19 = .ok (.iload 5, 2) := by decide +kernel
theorem dX8_handTo_21 : decode cX8_handTo 21 = .ok (.iload_n 3, 1) := by decide +kernel
theorem dX8_handTo_22 : decode cX8_handTo 22 = .ok (.iload 4, 2) := by decide +kernel
theorem dX8_handTo_24 : decode cX8_handTo 24 = .ok (.invokevirtual 143, 3) := by decide +kernel
theorem dX8_handTo_27 : decode cX8_handTo 27 = .ok (.invokevirtual 147, 3) := by decide +kernel
theorem dX8_handTo_30 : decode cX8_handTo 30 = .ok (.istore 6, 2) := by decide +kernel
theorem dX8_handTo_32 : decode cX8_handTo 32 = .ok (.aload_n 1, 1) := by decide +kernel
theorem dX8_handTo_33 : decode cX8_handTo 33 = .ok (.getfield 84, 3) := by decide +kernel
theorem dX8_handTo_36 : decode cX8_handTo 36 = .ok (.iload_n 2, 1) := by decide +kernel
theorem dX8_handTo_37 : decode cX8_handTo 37 = .ok (.iload_n 3, 1) := by decide +kernel
theorem dX8_handTo_38 : decode cX8_handTo 38 = .ok (.iastore, 1) := by decide +kernel
theorem dX8_handTo_39 : decode cX8_handTo 39 = .ok (.aload_n 1, 1) := by decide +kernel
theorem dX8_handTo_40 : decode cX8_handTo 40 = .ok (.getfield 123, 3) := by decide +kernel
theorem dX8_handTo_43 : decode cX8_handTo 43 = .ok (.iload_n 2, 1) := by decide +kernel
theorem dX8_handTo_44 : decode cX8_handTo 44 = .ok (.dup2, 1) := by decide +kernel
theorem dX8_handTo_45 : decode cX8_handTo 45 = .ok (.iaload, 1) := by decide +kernel
theorem dX8_handTo_46 : decode cX8_handTo 46 = .ok (.iload 6, 2) := by decide +kernel
theorem dX8_handTo_48 : decode cX8_handTo 48 = .ok (.iadd, 1) := by decide +kernel
theorem dX8_handTo_49 : decode cX8_handTo 49 = .ok (.iastore, 1) := by decide +kernel
theorem dX8_handTo_50 : decode cX8_handTo 50 = .ok (.aload_n 1, 1) := by decide +kernel
theorem dX8_handTo_51 : decode cX8_handTo 51 = .ok (.getfield 150, 3) := by decide +kernel
theorem dX8_handTo_54 : decode cX8_handTo 54 = .ok (.iload_n 2, 1) := by decide +kernel
theorem dX8_handTo_55 : decode cX8_handTo 55 = .ok (.dup2, 1) := by decide +kernel
theorem dX8_handTo_56 : decode cX8_handTo 56 = .ok (.iaload, 1) := by decide +kernel
theorem dX8_handTo_57 : decode cX8_handTo 57 = .ok (.iload 6, 2) := by decide +kernel
theorem dX8_handTo_59 : decode cX8_handTo 59 = .ok (.iadd, 1) := by decide +kernel
theorem dX8_handTo_60 : decode cX8_handTo 60 = .ok (.iastore, 1) := by decide +kernel
theorem dX8_handTo_61 : decode cX8_handTo 61 = .ok (.aload_n 1, 1) := by decide +kernel
theorem dX8_handTo_62 : decode cX8_handTo 62 = .ok (.getfield 153, 3) := by decide +kernel
theorem dX8_handTo_65 : decode cX8_handTo 65 = .ok (.iload_n 2, 1) := by decide +kernel
theorem dX8_handTo_66 : decode cX8_handTo 66 = .ok (.dup2, 1) := by decide +kernel
theorem dX8_handTo_67 : decode cX8_handTo 67 = .ok (.iaload, 1) := by decide +kernel
theorem dX8_handTo_68 : decode cX8_handTo 68 = .ok (.iconst 1, 1) := by decide +kernel
theorem dX8_handTo_69 : decode cX8_handTo 69 = .ok (.iadd, 1) := by decide +kernel
theorem dX8_handTo_70 : decode cX8_handTo 70 = .ok (.iastore, 1) := by decide +kernel
theorem dX8_handTo_71 : decode cX8_handTo 71 = .ok (.aload_n 1, 1) := by decide +kernel
theorem dX8_handTo_72 : decode cX8_handTo 72 = .ok (.getfield 156, 3) := by decide +kernel
theorem dX8_handTo_75 : decode cX8_handTo 75 = .ok (.bipush 60, 2) := by decide +kernel
theorem dX8_handTo_77 : decode cX8_handTo 77 = .ok (.if_icmp .ge 32, 3) := by decide +kernel
theorem dX8_handTo_80 : decode cX8_handTo 80 = .ok (.aload_n 1, 1) := by decide +kernel
theorem dX8_handTo_81 : decode cX8_handTo 81 = .ok (.getfield 159, 3) := by decide +kernel
theorem dX8_handTo_84 : decode cX8_handTo 84 = .ok (.aload_n 1, 1) := by decide +kernel
theorem dX8_handTo_85 : decode cX8_handTo 85 = .ok (.getfield 156, 3) := by decide +kernel
theorem dX8_handTo_88 : decode cX8_handTo 88 = .ok (.aload_n 0, 1) := by decide +kernel
theorem dX8_handTo_89 : decode cX8_handTo 89 = .ok (.getfield 29, 3) := by decide +kernel
theorem dX8_handTo_92 : decode cX8_handTo 92 = .ok (.iload 5, 2) := by decide +kernel
theorem dX8_handTo_94 : decode cX8_handTo 94 = .ok (.iload_n 3, 1) := by decide +kernel
theorem dX8_handTo_95 : decode cX8_handTo 95 = .ok (.invokevirtual 162, 3) := by decide +kernel
theorem dX8_handTo_98 : decode cX8_handTo 98 = .ok (.iastore, 1) := by decide +kernel
theorem dX8_handTo_99 : decode cX8_handTo 99 = .ok (.aload_n 1, 1) := by decide +kernel
theorem dX8_handTo_100 : decode cX8_handTo 100 = .ok (.dup, 1) := by decide +kernel
theorem dX8_handTo_101 : decode cX8_handTo 101 = .ok (.getfield 156, 3) := by decide +kernel
theorem dX8_handTo_104 : decode cX8_handTo 104 = .ok (.iconst 1, 1) := by decide +kernel
theorem dX8_handTo_105 : decode cX8_handTo 105 = .ok (.iadd, 1) := by decide +kernel
theorem dX8_handTo_106 : decode cX8_handTo 106 = .ok (.putfield 156, 3) := by decide +kernel
theorem dX8_handTo_109 : decode cX8_handTo 109 = .ok (.iload 6, 2) := by decide +kernel
theorem dX8_handTo_111 : decode cX8_handTo 111 = .ok (.ireturn, 1) := by decide +kernel
theorem dJ6_bitCount_0f7a4_0 : decode cJ6_bitCount_0f7a4 0 = .ok (.iload_n 0, 1) := by decide +kernel
theorem dJ6_bitCount_0f7a4_1 : decode cJ6_bitCount_0f7a4 1 = .ok (.iload_n 0, 1) := by decide +kernel
theorem dJ6_bitCount_0f7a4_2 : decode cJ6_bitCount_0f7a4 2 = .ok (.iconst 1, 1) := by decide +kernel
theorem dJ6_bitCount_0f7a4_3 : decode cJ6_bitCount_0f7a4 3 = .ok (.iushr, 1) := by decide +kernel
theorem dJ6_bitCount_0f7a4_4 : decode cJ6_bitCount_0f7a4 4 = .ok (.ldc_w 265, 3) := by decide +kernel
theorem dJ6_bitCount_0f7a4_7 : decode cJ6_bitCount_0f7a4 7 = .ok (.iand, 1) := by decide +kernel
theorem dJ6_bitCount_0f7a4_8 : decode cJ6_bitCount_0f7a4 8 = .ok (.isub, 1) := by decide +kernel
theorem dJ6_bitCount_0f7a4_9 : decode cJ6_bitCount_0f7a4 9 = .ok (.istore_n 0, 1) := by decide +kernel
theorem dJ6_bitCount_0f7a4_10 : decode cJ6_bitCount_0f7a4 10 = .ok (.iload_n 0, 1) := by decide +kernel
theorem dJ6_bitCount_0f7a4_11 : decode cJ6_bitCount_0f7a4 11 = .ok (.ldc_w 266, 3) := by decide +kernel
theorem dJ6_bitCount_0f7a4_14 : decode cJ6_bitCount_0f7a4 14 = .ok (.iand, 1) := by decide +kernel
theorem dJ6_bitCount_0f7a4_15 : decode cJ6_bitCount_0f7a4 15 = .ok (.iload_n 0, 1) := by decide +kernel
theorem dJ6_bitCount_0f7a4_16 : decode cJ6_bitCount_0f7a4 16 = .ok (.iconst 2, 1) := by decide +kernel
theorem dJ6_bitCount_0f7a4_17 : decode cJ6_bitCount_0f7a4 17 = .ok (.iushr, 1) := by decide +kernel
theorem dJ6_bitCount_0f7a4_18 : decode cJ6_bitCount_0f7a4 18 = .ok (.ldc_w 266, 3) := by decide +kernel
theorem dJ6_bitCount_0f7a4_21 : decode cJ6_bitCount_0f7a4 21 = .ok (.iand, 1) := by decide +kernel
theorem dJ6_bitCount_0f7a4_22 : decode cJ6_bitCount_0f7a4 22 = .ok (.iadd, 1) := by decide +kernel
theorem dJ6_bitCount_0f7a4_23 : decode cJ6_bitCount_0f7a4 23 = .ok (.istore_n 0, 1) := by decide +kernel
theorem dJ6_bitCount_0f7a4_24 : decode cJ6_bitCount_0f7a4 24 = .ok (.iload_n 0, 1) := by decide +kernel
theorem dJ6_bitCount_0f7a4_25 : decode cJ6_bitCount_0f7a4 25 = .ok (.iload_n 0, 1) := by decide +kernel
theorem dJ6_bitCount_0f7a4_26 : decode cJ6_bitCount_0f7a4 26 = .ok (.iconst 4, 1) := by decide +kernel
theorem dJ6_bitCount_0f7a4_27 : decode cJ6_bitCount_0f7a4 27 = .ok (.iushr, 1) := by decide +kernel
theorem dJ6_bitCount_0f7a4_28 : decode cJ6_bitCount_0f7a4 28 = .ok (.iadd, 1) := by decide +kernel
theorem dJ6_bitCount_0f7a4_29 : decode cJ6_bitCount_0f7a4 29 = .ok (.ldc_w 267, 3) := by decide +kernel
theorem dJ6_bitCount_0f7a4_32 : decode cJ6_bitCount_0f7a4 32 = .ok (.iand, 1) := by decide +kernel
theorem dJ6_bitCount_0f7a4_33 : decode cJ6_bitCount_0f7a4 33 = .ok (.istore_n 0, 1) := by decide +kernel
theorem dJ6_bitCount_0f7a4_34 : decode cJ6_bitCount_0f7a4 34 = .ok (.iload_n 0, 1) := by decide +kernel
theorem dJ6_bitCount_0f7a4_35 : decode cJ6_bitCount_0f7a4 35 = .ok (.iload_n 0, 1) := by decide +kernel
theorem dJ6_bitCount_0f7a4_36 : decode cJ6_bitCount_0f7a4 36 = .ok (.bipush 8, 2) := by decide +kernel
theorem dJ6_bitCount_0f7a4_38 : decode cJ6_bitCount_0f7a4 38 = .ok (.iushr, 1) := by decide +kernel
theorem dJ6_bitCount_0f7a4_39 : decode cJ6_bitCount_0f7a4 39 = .ok (.iadd, 1) := by decide +kernel
theorem dJ6_bitCount_0f7a4_40 : decode cJ6_bitCount_0f7a4 40 = .ok (.istore_n 0, 1) := by decide +kernel
theorem dJ6_bitCount_0f7a4_41 : decode cJ6_bitCount_0f7a4 41 = .ok (.iload_n 0, 1) := by decide +kernel
theorem dJ6_bitCount_0f7a4_42 : decode cJ6_bitCount_0f7a4 42 = .ok (.iload_n 0, 1) := by decide +kernel
theorem dJ6_bitCount_0f7a4_43 : decode cJ6_bitCount_0f7a4 43 = .ok (.bipush 16, 2) := by decide +kernel
theorem dJ6_bitCount_0f7a4_45 : decode cJ6_bitCount_0f7a4 45 = .ok (.iushr, 1) := by decide +kernel
theorem dJ6_bitCount_0f7a4_46 : decode cJ6_bitCount_0f7a4 46 = .ok (.iadd, 1) := by decide +kernel
theorem dJ6_bitCount_0f7a4_47 : decode cJ6_bitCount_0f7a4 47 = .ok (.istore_n 0, 1) := by decide +kernel
theorem dJ6_bitCount_0f7a4_48 : decode cJ6_bitCount_0f7a4 48 = .ok (.iload_n 0, 1) := by decide +kernel
theorem dJ6_bitCount_0f7a4_49 : decode cJ6_bitCount_0f7a4 49 = .ok (.bipush 63, 2) := by decide +kernel
theorem dJ6_bitCount_0f7a4_51 : decode cJ6_bitCount_0f7a4 51 = .ok (.iand, 1) := by decide +kernel
theorem dJ6_bitCount_0f7a4_52 : decode cJ6_bitCount_0f7a4 52 = .ok (.ireturn, 1) := by decide +kernel
theorem dX8_canWork_0 : decode cX8_canWork 0 = .ok (.aload_n 0, 1) := by decide +kernel
theorem dX8_canWork_1 : decode cX8_canWork 1 = .ok (.getfield 29, 3) := by decide +kernel
theorem dX8_canWork_4 : decode cX8_canWork 4 = .ok (.getfield 97, 3) := by decide +kernel
theorem dX8_canWork_7 : decode cX8_canWork 7 = .ok (.iload_n 2, 1) := by decide +kernel
theorem dX8_canWork_8 : decode cX8_canWork 8 = .ok (.aaload, 1) := by decide +kernel
theorem dX8_canWork_9 : decode cX8_canWork 9 = .ok (.getfield 110, 3) := by decide +kernel
theorem dX8_canWork_12 : decode cX8_canWork 12 = .ok (.aload_n 0, 1) := by decide +kernel
theorem dX8_canWork_13 : decode cX8_canWork 13 = .ok (.getfield 33, 3) := by decide +kernel
theorem dX8_canWork_16 : decode cX8_canWork 16 = .ok (.getfield 113, 3) := by decide +kernel
theorem dX8_canWork_19 : decode cX8_canWork 19 = .ok (.iload_n 1, 1) := by decide +kernel
theorem dX8_canWork_20 : decode cX8_canWork 20 = .ok (.iaload, 1) := by decide +kernel
theorem dX8_canWork_21 : decode cX8_canWork 21 = .ok (.ishr, 1) := by decide +kernel
theorem dX8_canWork_22 : decode cX8_canWork 22 = .ok (.iconst 1, 1) := by decide +kernel
theorem dX8_canWork_23 : decode cX8_canWork 23 = .ok (.iand, 1) := by decide +kernel
theorem dX8_canWork_24 : decode cX8_canWork 24 = .ok (.iconst 1, 1) := by decide +kernel
theorem dX8_canWork_25 : decode cX8_canWork 25 = .ok (.if_icmp .ne 7, 3) := by decide +kernel
theorem dX8_canWork_28 : decode cX8_canWork 28 = .ok (.iconst 1, 1) := by decide +kernel
theorem dX8_canWork_29 : decode cX8_canWork 29 = .ok (.goto 4, 3) := by decide +kernel
theorem dX8_canWork_32 : decode cX8_canWork 32 = .ok (.iconst 0, 1) := by decide +kernel
theorem dX8_canWork_33 : decode cX8_canWork 33 = .ok (.ireturn, 1) := by decide +kernel
theorem dX8_letterFor_0 : decode cX8_letterFor 0 = .ok (.aload_n 2, 1) := by decide +kernel
theorem dX8_letterFor_1 : decode cX8_letterFor 1 = .ok (.getfield 84, 3) := by decide +kernel
theorem dX8_letterFor_4 : decode cX8_letterFor 4 = .ok (.iload_n 3, 1) := by decide +kernel
theorem dX8_letterFor_5 : decode cX8_letterFor 5 = .ok (.iaload, 1) := by decide +kernel
theorem dX8_letterFor_6 : decode cX8_letterFor 6 = .ok (.istore 6, 2) := by decide +kernel
theorem dX8_letterFor_8 : decode cX8_letterFor 8 = .ok (.iload_n 1, 1) := by decide +kernel
theorem dX8_letterFor_9 : decode cX8_letterFor 9 = .ok (.tableswitch 280 98 119 #[219, 190, 280, 280, 273, 280, 280, 280, 280, 103, 120, 280, 280, 145, 259, 239, 178, 206, 280, 280, 280, 162], 103) := by decide +kernel
theorem dX8_letterFor_112 : decode cX8_letterFor 112 = .ok (.aload_n 0, 1) := by decide +kernel
theorem dX8_letterFor_113 : decode cX8_letterFor 113 = .ok (.getfield 29, 3) := by decide +kernel
theorem dX8_letterFor_116 : decode cX8_letterFor 116 = .ok (.getfield 187, 3) := by decide +kernel
theorem dX8_letterFor_119 : decode cX8_letterFor 119 = .ok (.iload 6, 2) := by decide +kernel
theorem dX8_letterFor_121 : decode cX8_letterFor 121 = .ok (.bipush 6, 2) := by decide +kernel
theorem dX8_letterFor_123 : decode cX8_letterFor 123 = .ok (.imul, 1) := by decide +kernel
theorem dX8_letterFor_124 : decode cX8_letterFor 124 = .ok (.iload 4, 2) := by decide +kernel
theorem dX8_letterFor_126 : decode cX8_letterFor 126 = .ok (.iadd, 1) := by decide +kernel
theorem dX8_letterFor_127 : decode cX8_letterFor 127 = .ok (.iaload, 1) := by decide +kernel
theorem dX8_letterFor_128 : decode cX8_letterFor 128 = .ok (.ireturn, 1) := by decide +kernel
theorem dX8_letterFor_129 : decode cX8_letterFor 129 = .ok (.aload_n 0, 1) := by decide +kernel
theorem dX8_letterFor_130 : decode cX8_letterFor 130 = .ok (.getfield 29, 3) := by decide +kernel
theorem dX8_letterFor_133 : decode cX8_letterFor 133 = .ok (.iload 6, 2) := by decide +kernel
theorem dX8_letterFor_135 : decode cX8_letterFor 135 = .ok (.iload 4, 2) := by decide +kernel
theorem dX8_letterFor_137 : decode cX8_letterFor 137 = .ok (.aload_n 0, 1) := by decide +kernel
theorem dX8_letterFor_138 : decode cX8_letterFor 138 = .ok (.getfield 29, 3) := by decide +kernel
theorem dX8_letterFor_141 : decode cX8_letterFor 141 = .ok (.iload 6, 2) := by decide +kernel
theorem dX8_letterFor_143 : decode cX8_letterFor 143 = .ok (.iload 4, 2) := by decide +kernel
theorem dX8_letterFor_145 : decode cX8_letterFor 145 = .ok (.iload 5, 2) := by decide +kernel
theorem dX8_letterFor_147 : decode cX8_letterFor 147 = .ok (.invokevirtual 143, 3) := by decide +kernel
theorem dX8_letterFor_150 : decode cX8_letterFor 150 = .ok (.invokevirtual 147, 3) := by decide +kernel
theorem dX8_letterFor_153 : decode cX8_letterFor 153 = .ok (.ireturn, 1) := by decide +kernel
theorem dX8_letterFor_154 : decode cX8_letterFor 154 = .ok (.aload_n 0, 1) := by decide +kernel
theorem dX8_letterFor_155 : decode cX8_letterFor 155 = .ok (.getfield 29, 3) := by decide +kernel
theorem dX8_letterFor_158 : decode cX8_letterFor 158 = .ok (.iload 6, 2) := by decide +kernel
theorem dX8_letterFor_160 : decode cX8_letterFor 160 = .ok (.iload 4, 2) := by decide +kernel
theorem dX8_letterFor_162 : decode cX8_letterFor 162 = .ok (.iload 5, 2) := by decide +kernel
theorem dX8_letterFor_164 : decode cX8_letterFor 164 = .ok (.invokevirtual 143, 3) := by decide +kernel
theorem dX8_letterFor_167 : decode cX8_letterFor 167 = .ok (.invokestatic 190, 3) := by decide +kernel
theorem dX8_letterFor_170 : decode cX8_letterFor 170 = .ok (.ireturn, 1) := by decide +kernel
theorem dX8_letterFor_171 : decode cX8_letterFor 171 = .ok (.aload_n 0, 1) := by decide +kernel
theorem dX8_letterFor_172 : decode cX8_letterFor 172 = .ok (.getfield 29, 3) := by decide +kernel
theorem dX8_letterFor_175 : decode cX8_letterFor 175 = .ok (.getfield 61, 3) := by decide +kernel
theorem dX8_letterFor_178 : decode cX8_letterFor 178 = .ok (.iload 5, 2) := by decide +kernel
theorem dX8_letterFor_180 : decode cX8_letterFor 180 = .ok (.iaload, 1) := by decide +kernel
theorem dX8_letterFor_181 : decode cX8_letterFor 181 = .ok (.iload 4, 2) := by decide +kernel
theorem dX8_letterFor_183 : decode cX8_letterFor 183 = .ok (.ishr, 1) := by decide +kernel
theorem dX8_letterFor_184 : decode cX8_letterFor 184 = .ok (.iconst 1, 1) := by decide +kernel
theorem dX8_letterFor_185 : decode cX8_letterFor 185 = .ok (.iand, 1) := by decide +kernel
theorem dX8_letterFor_186 : decode cX8_letterFor 186 = .ok (.ireturn, 1) := by decide +kernel
theorem dX8_letterFor_187 : decode cX8_letterFor 187 = .ok (.aload_n 0, 1) := by decide +kernel
theorem dX8_letterFor_188 : decode cX8_letterFor 188 = .ok (.getfield 29, 3) := by decide +kernel
theorem dX8_letterFor_191 : decode cX8_letterFor 191 = .ok (.iload 4, 2) := by decide +kernel
theorem dX8_letterFor_193 : decode cX8_letterFor 193 = .ok (.iload 5, 2) := by decide +kernel
theorem dX8_letterFor_195 : decode cX8_letterFor 195 = .ok (.invokevirtual 196, 3) := by decide +kernel
theorem dX8_letterFor_198 : decode cX8_letterFor 198 = .ok (.ireturn, 1) := by decide +kernel
theorem dX8_letterFor_199 : decode cX8_letterFor 199 = .ok (.aload_n 0, 1) := by decide +kernel
theorem dX8_letterFor_200 : decode cX8_letterFor 200 = .ok (.iload_n 3, 1) := by decide +kernel
theorem dX8_letterFor_201 : decode cX8_letterFor 201 = .ok (.iload 4, 2) := by decide +kernel
theorem dX8_letterFor_203 : decode cX8_letterFor 203 = .ok (.invokevirtual 93, 3) := by decide +kernel
theorem dX8_letterFor_206 : decode cX8_letterFor 206 = .ok (.ifCond .eq 7, 3) := by decide +kernel
theorem dX8_letterFor_209 : decode cX8_letterFor 209 = .ok (.iconst 1, 1) := by decide +kernel
theorem dX8_letterFor_210 : decode cX8_letterFor 210 = .ok (.goto 4, 3) := by decide +kernel
theorem dX8_letterFor_213 : decode cX8_letterFor 213 = .ok (.iconst 0, 1) := by decide +kernel
theorem dX8_letterFor_214 : decode cX8_letterFor 214 = .ok (.ireturn, 1) := by decide +kernel
theorem dX8_letterFor_215 : decode cX8_letterFor 215 = .ok (.iload 6, 2) := by decide +kernel
theorem dX8_letterFor_217 : decode cX8_letterFor 217 = .ok (.iload 4, 2) := by decide +kernel
theorem dX8_letterFor_219 : decode cX8_letterFor 219 = .ok (.if_icmp .ne 7, 3) := by decide +kernel
theorem dX8_letterFor_222 : decode cX8_letterFor 222 = .ok (.iconst 1, 1) := by decide +kernel
theorem dX8_letterFor_223 : decode cX8_letterFor 223 = .ok (.goto 4, 3) := by decide +kernel
theorem dX8_letterFor_226 : decode cX8_letterFor 226 = .ok (.iconst 0, 1) := by decide +kernel
theorem dX8_letterFor_227 : decode cX8_letterFor 227 = .ok (.ireturn, 1) := by decide +kernel
theorem dX8_letterFor_228 : decode cX8_letterFor 228 = .ok (.aload_n 0, 1) := by decide +kernel
theorem dX8_letterFor_229 : decode cX8_letterFor 229 = .ok (.getfield 33, 3) := by decide +kernel
theorem dX8_letterFor_232 : decode cX8_letterFor 232 = .ok (.getfield 199, 3) := by decide +kernel
theorem dX8_letterFor_235 : decode cX8_letterFor 235 = .ok (.iload_n 3, 1) := by decide +kernel
theorem dX8_letterFor_236 : decode cX8_letterFor 236 = .ok (.iaload, 1) := by decide +kernel
theorem dX8_letterFor_237 : decode cX8_letterFor 237 = .ok (.iload 4, 2) := by decide +kernel
theorem dX8_letterFor_239 : decode cX8_letterFor 239 = .ok (.if_icmp .ne 7, 3) := by decide +kernel
theorem dX8_letterFor_242 : decode cX8_letterFor 242 = .ok (.iconst 1, 1) := by decide +kernel
theorem dX8_letterFor_243 : decode cX8_letterFor 243 = .ok (.goto 4, 3) := by decide +kernel
theorem dX8_letterFor_246 : decode cX8_letterFor 246 = .ok (.iconst 0, 1) := by decide +kernel
theorem dX8_letterFor_247 : decode cX8_letterFor 247 = .ok (.ireturn, 1) := by decide +kernel
theorem dX8_letterFor_248 : decode cX8_letterFor 248 = .ok (.aload_n 0, 1) := by decide +kernel
theorem dX8_letterFor_249 : decode cX8_letterFor 249 = .ok (.getfield 33, 3) := by decide +kernel
theorem dX8_letterFor_252 : decode cX8_letterFor 252 = .ok (.getfield 90, 3) := by decide +kernel
theorem dX8_letterFor_255 : decode cX8_letterFor 255 = .ok (.iload_n 3, 1) := by decide +kernel
theorem dX8_letterFor_256 : decode cX8_letterFor 256 = .ok (.iaload, 1) := by decide +kernel
theorem dX8_letterFor_257 : decode cX8_letterFor 257 = .ok (.iload 4, 2) := by decide +kernel
theorem dX8_letterFor_259 : decode cX8_letterFor 259 = .ok (.if_icmp .ne 7, 3) := by decide +kernel
theorem dX8_letterFor_262 : decode cX8_letterFor 262 = .ok (.iconst 1, 1) := by decide +kernel
theorem dX8_letterFor_263 : decode cX8_letterFor 263 = .ok (.goto 4, 3) := by decide +kernel
theorem dX8_letterFor_266 : decode cX8_letterFor 266 = .ok (.iconst 0, 1) := by decide +kernel
theorem dX8_letterFor_267 : decode cX8_letterFor 267 = .ok (.ireturn, 1) := by decide +kernel
theorem dX8_letterFor_268 : decode cX8_letterFor 268 = .ok (.aload_n 0, 1) := by decide +kernel
theorem dX8_letterFor_269 : decode cX8_letterFor 269 = .ok (.getfield 29, 3) := by decide +kernel
theorem dX8_letterFor_272 : decode cX8_letterFor 272 = .ok (.getfield 97, 3) := by decide +kernel
theorem dX8_letterFor_275 : decode cX8_letterFor 275 = .ok (.iload 4, 2) := by decide +kernel
theorem dX8_letterFor_277 : decode cX8_letterFor 277 = .ok (.aaload, 1) := by decide +kernel
theorem dX8_letterFor_278 : decode cX8_letterFor 278 = .ok (.getfield 122, 3) := by decide +kernel
theorem dX8_letterFor_281 : decode cX8_letterFor 281 = .ok (.ireturn, 1) := by decide +kernel
theorem dX8_letterFor_282 : decode cX8_letterFor 282 = .ok (.aload_n 2, 1) := by decide +kernel
theorem dX8_letterFor_283 : decode cX8_letterFor 283 = .ok (.getfield 123, 3) := by decide +kernel
theorem dX8_letterFor_286 : decode cX8_letterFor 286 = .ok (.iload_n 3, 1) := by decide +kernel
theorem dX8_letterFor_287 : decode cX8_letterFor 287 = .ok (.iaload, 1) := by decide +kernel
theorem dX8_letterFor_288 : decode cX8_letterFor 288 = .ok (.ireturn, 1) := by decide +kernel
theorem dX8_letterFor_289 : decode cX8_letterFor 289 = .ok (.iload 4, 2) := by decide +kernel
theorem dX8_letterFor_291 : decode cX8_letterFor 291 = .ok (.ireturn, 1) := by decide +kernel
theorem dX8_valueFor_0 : decode cX8_valueFor 0 = .ok (.aload_n 0, 1) := by decide +kernel
theorem dX8_valueFor_1 : decode cX8_valueFor 1 = .ok (.getfield 37, 3) := by decide +kernel
theorem dX8_valueFor_4 : decode cX8_valueFor 4 = .ok (.iconst 0, 1) := by decide +kernel
theorem dX8_valueFor_5 : decode cX8_valueFor 5 = .ok (.putfield 166, 3) := by decide +kernel
theorem dX8_valueFor_8 : decode cX8_valueFor 8 = .ok (.iconst 0, 1) := by decide +kernel
theorem dX8_valueFor_9 : decode cX8_valueFor 9 = .ok (.istore 5, 2) := by decide +kernel
theorem dX8_valueFor_11 : decode cX8_valueFor 11 = .ok (.iload 5, 2) := by decide +kernel
theorem dX8_valueFor_13 : decode cX8_valueFor 13 = .ok (.aload_n 0, 1) := by decide +kernel
theorem dX8_valueFor_14 : decode cX8_valueFor 14 = .ok (.getfield 37, 3) := by decide +kernel
theorem dX8_valueFor_17 : decode cX8_valueFor 17 = .ok (.getfield 70, 3) := by decide +kernel
theorem dX8_valueFor_20 : decode cX8_valueFor 20 = .ok (.if_icmp .ge 87, 3) := by decide +kernel
theorem dX8_valueFor_23 : decode cX8_valueFor 23 = .ok (.aload_n 0, 1) := by decide +kernel
theorem dX8_valueFor_24 : decode cX8_valueFor 24 = .ok (.getfield 37, 3) := by decide +kernel
theorem dX8_valueFor_27 : decode cX8_valueFor 27 = .ok (.getfield 169, 3) := by decide +kernel
theorem dX8_valueFor_30 : decode cX8_valueFor 30 = .ok (.iload 5, 2) := by decide +kernel
theorem dX8_valueFor_32 : decode cX8_valueFor 32 = .ok (.iaload, 1) := by decide +kernel
theorem dX8_valueFor_33 : decode cX8_valueFor 33 = .ok (.istore 6, 2) := by decide +kernel
theorem dX8_valueFor_35 : decode cX8_valueFor 35 = .ok (.iload 6, 2) := by decide +kernel
theorem dX8_valueFor_37 : decode cX8_valueFor 37 = .ok (.sipush 2000, 3) := by decide +kernel
theorem dX8_valueFor_40 : decode cX8_valueFor 40 = .ok (.if_icmp .lt 19, 3) := by decide +kernel
theorem dX8_valueFor_43 : decode cX8_valueFor 43 = .ok (.aload_n 0, 1) := by decide +kernel
theorem dX8_valueFor_44 : decode cX8_valueFor 44 = .ok (.getfield 37, 3) := by decide +kernel
theorem dX8_valueFor_47 : decode cX8_valueFor 47 = .ok (.iload 6, 2) := by decide +kernel
theorem dX8_valueFor_49 : decode cX8_valueFor 49 = .ok (.sipush 2000, 3) := by decide +kernel
theorem dX8_valueFor_52 : decode cX8_valueFor 52 = .ok (.isub, 1) := by decide +kernel
theorem dX8_valueFor_53 : decode cX8_valueFor 53 = .ok (.invokevirtual 172, 3) := by decide +kernel
theorem dX8_valueFor_56 : decode cX8_valueFor 56 = .ok (.goto 45, 3) := by decide +kernel
theorem dX8_valueFor_59 : decode cX8_valueFor 59 = .ok (.iload 6, 2) := by decide +kernel
theorem dX8_valueFor_61 : decode cX8_valueFor 61 = .ok (.sipush 1000, 3) := by decide +kernel
theorem dX8_valueFor_64 : decode cX8_valueFor 64 = .ok (.if_icmp .lt 28, 3) := by decide +kernel
theorem dX8_valueFor_67 : decode cX8_valueFor 67 = .ok (.aload_n 0, 1) := by decide +kernel
theorem dX8_valueFor_68 : decode cX8_valueFor 68 = .ok (.getfield 37, 3) := by decide +kernel
theorem dX8_valueFor_71 : decode cX8_valueFor 71 = .ok (.aload_n 0, 1) := by decide +kernel
theorem dX8_valueFor_72 : decode cX8_valueFor 72 = .ok (.iload 6, 2) := by decide +kernel
theorem dX8_valueFor_74 : decode cX8_valueFor 74 = .ok (.sipush 1000, 3) := by decide +kernel
theorem dX8_valueFor_77 : decode cX8_valueFor 77 = .ok (.isub, 1) := by decide +kernel
theorem dX8_valueFor_78 : decode cX8_valueFor 78 = .ok (.aload_n 1, 1) := by decide +kernel
theorem dX8_valueFor_79 : decode cX8_valueFor 79 = .ok (.iload_n 2, 1) := by decide +kernel
theorem dX8_valueFor_80 : decode cX8_valueFor 80 = .ok (.iload_n 3, 1) := by decide +kernel
theorem dX8_valueFor_81 : decode cX8_valueFor 81 = .ok (.iload 4, 2) := by decide +kernel
theorem dX8_valueFor_83 : decode cX8_valueFor 83 = .ok (.invokevirtual 176, 3) := by decide +kernel
theorem dX8_valueFor_86 : decode cX8_valueFor 86 = .ok (.invokevirtual 180, 3) := by decide +kernel
theorem dX8_valueFor_89 : decode cX8_valueFor 89 = .ok (.goto 12, 3) := by decide +kernel
theorem dX8_valueFor_92 : decode cX8_valueFor 92 = .ok (.aload_n 0, 1) := by decide +kernel
theorem dX8_valueFor_93 : decode cX8_valueFor 93 = .ok (.getfield 37, 3) := by decide +kernel
theorem dX8_valueFor_96 : decode cX8_valueFor 96 = .ok (.iload 6, 2) := by decide +kernel
theorem dX8_valueFor_98 : decode cX8_valueFor 98 = .ok (.invokevirtual 180, 3) := by decide +kernel
theorem dX8_valueFor_101 : decode cX8_valueFor 101 = .ok (.iinc 5 1, 3) := by decide +kernel
theorem dX8_valueFor_104 : decode cX8_valueFor 104 = .ok (.goto (-93), 3) := by decide +kernel
theorem dX8_valueFor_107 : decode cX8_valueFor 107 = .ok (.aload_n 0, 1) := by decide +kernel
theorem dX8_valueFor_108 : decode cX8_valueFor 108 = .ok (.getfield 37, 3) := by decide +kernel
theorem dX8_valueFor_111 : decode cX8_valueFor 111 = .ok (.invokevirtual 183, 3) := by decide +kernel
theorem dX8_valueFor_114 : decode cX8_valueFor 114 = .ok (.ireturn, 1) := by decide +kernel
theorem dX8_handReady_0 : decode cX8_handReady 0 = .ok (.aload_n 1, 1) := by decide +kernel
theorem dX8_handReady_1 : decode cX8_handReady 1 = .ok (.getfield 54, 3) := by decide +kernel
theorem dX8_handReady_4 : decode cX8_handReady 4 = .ok (.iconst 1, 1) := by decide +kernel
theorem dX8_handReady_5 : decode cX8_handReady 5 = .ok (.iadd, 1) := by decide +kernel
theorem dX8_handReady_6 : decode cX8_handReady 6 = .ok (.istore 4, 2) := by decide +kernel
theorem dX8_handReady_8 : decode cX8_handReady 8 = .ok (.iconst 0, 1) := by decide +kernel
theorem dX8_handReady_9 : decode cX8_handReady 9 = .ok (.istore 5, 2) := by decide +kernel
theorem dX8_handReady_11 : decode cX8_handReady 11 = .ok (.iload 5, 2) := by decide +kernel
theorem dX8_handReady_13 : decode cX8_handReady 13 = .ok (.aload_n 0, 1) := by decide +kernel
theorem dX8_handReady_14 : decode cX8_handReady 14 = .ok (.getfield 33, 3) := by decide +kernel
theorem dX8_handReady_17 : decode cX8_handReady 17 = .ok (.getfield 41, 3) := by decide +kernel
theorem dX8_handReady_20 : decode cX8_handReady 20 = .ok (.if_icmp .ge 123, 3) := by decide +kernel
theorem dX8_handReady_23 : decode cX8_handReady 23 = .ok (.iload_n 2, 1) := by decide +kernel
theorem dX8_handReady_24 : decode cX8_handReady 24 = .ok (.iload 5, 2) := by decide +kernel
theorem dX8_handReady_26 : decode cX8_handReady 26 = .ok (.ishr, 1) := by decide +kernel
theorem dX8_handReady_27 : decode cX8_handReady 27 = .ok (.iconst 1, 1) := by decide +kernel
theorem dX8_handReady_28 : decode cX8_handReady 28 = .ok (.iand, 1) := by decide +kernel
theorem dX8_handReady_29 : decode cX8_handReady 29 = .ok (.ifCond .eq 108, 3) := by decide +kernel
theorem dX8_handReady_32 : decode cX8_handReady 32 = .ok (.iload_n 3, 1) := by decide +kernel
theorem dX8_handReady_33 : decode cX8_handReady 33 = .ok (.aload_n 1, 1) := by decide +kernel
theorem dX8_handReady_34 : decode cX8_handReady 34 = .ok (.getfield 84, 3) := by decide +kernel
theorem dX8_handReady_37 : decode cX8_handReady 37 = .ok (.iload 5, 2) := by decide +kernel
theorem dX8_handReady_39 : decode cX8_handReady 39 = .ok (.iaload, 1) := by decide +kernel
theorem dX8_handReady_40 : decode cX8_handReady 40 = .ok (.ishr, 1) := by decide +kernel
theorem dX8_handReady_41 : decode cX8_handReady 41 = .ok (.iconst 1, 1) := by decide +kernel
theorem dX8_handReady_42 : decode cX8_handReady 42 = .ok (.iand, 1) := by decide +kernel
theorem dX8_handReady_43 : decode cX8_handReady 43 = .ok (.ifCond .ne 6, 3) := by decide +kernel
theorem dX8_handReady_46 : decode cX8_handReady 46 = .ok (.goto 91, 3) := by decide +kernel
theorem dX8_handReady_49 : decode cX8_handReady 49 = .ok (.iconst 0, 1) := by decide +kernel
theorem dX8_handReady_50 : decode cX8_handReady 50 = .ok (.istore 6, 2) := by decide +kernel
theorem dX8_handReady_52 : decode cX8_handReady 52 = .ok (.aload_n 0, 1) := by decide +kernel
theorem dX8_handReady_53 : decode cX8_handReady 53 = .ok (.aload_n 1, 1) := by decide +kernel
theorem dX8_handReady_54 : decode cX8_handReady 54 = .ok (.iload 5, 2) := by decide +kernel
theorem dX8_handReady_56 : decode cX8_handReady 56 = .ok (.iconst 0, 1) := by decide +kernel
theorem dX8_handReady_57 : decode cX8_handReady 57 = .ok (.iload 4, 2) := by decide +kernel
theorem dX8_handReady_59 : decode cX8_handReady 59 = .ok (.invokevirtual 135, 3) := by decide +kernel
theorem dX8_handReady_62 : decode cX8_handReady 62 = .ok (.istore 7, 2) := by decide +kernel
theorem dX8_handReady_64 : decode cX8_handReady 64 = .ok (.iconst 1, 1) := by decide +kernel
theorem dX8_handReady_65 : decode cX8_handReady 65 = .ok (.istore 8, 2) := by decide +kernel
theorem dX8_handReady_67 : decode cX8_handReady 67 = .ok (.iload 8, 2) := by decide +kernel
theorem dX8_handReady_69 : decode cX8_handReady 69 = .ok (.aload_n 0, 1) := by decide +kernel
theorem dX8_handReady_70 : decode cX8_handReady 70 = .ok (.getfield 29, 3) := by decide +kernel
theorem dX8_handReady_73 : decode cX8_handReady 73 = .ok (.getfield 139, 3) := by decide +kernel
theorem dX8_handReady_76 : decode cX8_handReady 76 = .ok (.if_icmp .ge 37, 3) := by decide +kernel
theorem dX8_handReady_79 : decode cX8_handReady 79 = .ok (.aload_n 0, 1) := by decide +kernel
theorem dX8_handReady_80 : decode cX8_handReady 80 = .ok (.aload_n 1, 1) := by decide +kernel
theorem dX8_handReady_81 : decode cX8_handReady 81 = .ok (.iload 5, 2) := by decide +kernel
theorem dX8_handReady_83 : decode cX8_handReady 83 = .ok (.iload 8, 2) := by decide +kernel
theorem dX8_handReady_85 : decode cX8_handReady 85 = .ok (.iload 4, 2) := by decide +kernel
theorem dX8_handReady_87 : decode cX8_handReady 87 = .ok (.invokevirtual 135, 3) := by decide +kernel
theorem dX8_handReady_90 : decode cX8_handReady 90 = .ok (.istore 9, 2) := by decide +kernel
theorem dX8_handReady_92 : decode cX8_handReady 92 = .ok (.iload 9, 2) := by decide +kernel
theorem dX8_handReady_94 : decode cX8_handReady 94 = .ok (.iload 7, 2) := by decide +kernel
theorem dX8_handReady_96 : decode cX8_handReady 96 = .ok (.if_icmp .le 11, 3) := by decide +kernel
theorem dX8_handReady_99 : decode cX8_handReady 99 = .ok (.iload 8, 2) := by decide +kernel
theorem dX8_handReady_101 : decode cX8_handReady 101 = .ok (.istore 6, 2) := by decide +kernel
theorem dX8_handReady_103 : decode cX8_handReady 103 = .ok (.iload 9, 2) := by decide +kernel
theorem dX8_handReady_105 : decode cX8_handReady 105 = .ok (.istore 7, 2) := by decide +kernel
theorem dX8_handReady_107 : decode cX8_handReady 107 = .ok (.iinc 8 1, 3) := by decide +kernel
theorem dX8_handReady_110 : decode cX8_handReady 110 = .ok (.goto (-43), 3) := by decide +kernel
theorem dX8_handReady_113 : decode cX8_handReady 113 = .ok (.iload 6, 2) := by decide +kernel
theorem dX8_handReady_115 : decode cX8_handReady 115 = .ok (.aload_n 1, 1) := by decide +kernel
theorem dX8_handReady_116 : decode cX8_handReady 116 = .ok (.getfield 84, 3) := by decide +kernel
theorem dX8_handReady_119 : decode cX8_handReady 119 = .ok (.iload 5, 2) := by decide +kernel
theorem dX8_handReady_121 : decode cX8_handReady 121 = .ok (.iaload, 1) := by decide +kernel
theorem dX8_handReady_122 : decode cX8_handReady 122 = .ok (.if_icmp .eq 15, 3) := by decide +kernel
theorem dX8_handReady_125 : decode cX8_handReady 125 = .ok (.aload_n 0, 1) := by decide +kernel
theorem dX8_handReady_126 : decode cX8_handReady 126 = .ok (.aload_n 1, 1) := by decide +kernel
theorem dX8_handReady_127 : decode cX8_handReady 127 = .ok (.iload 5, 2) := by decide +kernel
theorem dX8_handReady_129 : decode cX8_handReady 129 = .ok (.iload 6, 2) := by decide +kernel
theorem dX8_handReady_131 : decode cX8_handReady 131 = .ok (.iload 4, 2) := by decide +kernel
theorem dX8_handReady_133 : decode cX8_handReady 133 = .ok (.invokevirtual 140, 3) := by decide +kernel
theorem dX8_handReady_136 : decode cX8_handReady 136 = .ok (.pop, 1) := by decide +kernel
theorem dX8_handReady_137 : decode cX8_handReady 137 = .ok (.iinc 5 1, 3) := by decide +kernel
theorem dX8_handReady_140 : decode cX8_handReady 140 = .ok (.goto (-129), 3) := by decide +kernel
theorem dX8_handReady_143 : decode cX8_handReady 143 = .ok (.return_, 1) := by decide +kernel
theorem dJ7_fill_53178_0 : decode cJ7_fill_53178 0 = .ok (.iconst 0, 1) := by decide +kernel
theorem dJ7_fill_53178_1 : decode cJ7_fill_53178 1 = .ok (.istore_n 2, 1) := by decide +kernel
theorem dJ7_fill_53178_2 : decode cJ7_fill_53178 2 = .ok (.aload_n 0, 1) := by decide +kernel
theorem dJ7_fill_53178_3 : decode cJ7_fill_53178 3 = .ok (.arraylength, 1) := by decide +kernel
theorem dJ7_fill_53178_4 : decode cJ7_fill_53178 4 = .ok (.istore_n 3, 1) := by decide +kernel
theorem dJ7_fill_53178_5 : decode cJ7_fill_53178 5 = .ok (.iload_n 2, 1) := by decide +kernel
theorem dJ7_fill_53178_6 : decode cJ7_fill_53178 6 = .ok (.iload_n 3, 1) := by decide +kernel
theorem dJ7_fill_53178_7 : decode cJ7_fill_53178 7 = .ok (.if_icmp .ge 13, 3) := by decide +kernel
theorem dJ7_fill_53178_10 : decode cJ7_fill_53178 10 = .ok (.aload_n 0, 1) := by decide +kernel
theorem dJ7_fill_53178_11 : decode cJ7_fill_53178 11 = .ok (.iload_n 2, 1) := by decide +kernel
theorem dJ7_fill_53178_12 : decode cJ7_fill_53178 12 = .ok (.iload_n 1, 1) := by decide +kernel
theorem dJ7_fill_53178_13 : decode cJ7_fill_53178 13 = .ok (.iastore, 1) := by decide +kernel
theorem dJ7_fill_53178_14 : decode cJ7_fill_53178 14 = .ok (.iinc 2 1, 3) := by decide +kernel
theorem dJ7_fill_53178_17 : decode cJ7_fill_53178 17 = .ok (.goto (-12), 3) := by decide +kernel
theorem dJ7_fill_53178_20 : decode cJ7_fill_53178 20 = .ok (.return_, 1) := by decide +kernel
theorem dX8_workOn_0 : decode cX8_workOn 0 = .ok (.aload_n 1, 1) := by decide +kernel
theorem dX8_workOn_1 : decode cX8_workOn 1 = .ok (.getfield 84, 3) := by decide +kernel
theorem dX8_workOn_4 : decode cX8_workOn 4 = .ok (.iload_n 2, 1) := by decide +kernel
theorem dX8_workOn_5 : decode cX8_workOn 5 = .ok (.iaload, 1) := by decide +kernel
theorem dX8_workOn_6 : decode cX8_workOn 6 = .ok (.istore_n 3, 1) := by decide +kernel
theorem dX8_workOn_7 : decode cX8_workOn 7 = .ok (.aload_n 0, 1) := by decide +kernel
theorem dX8_workOn_8 : decode cX8_workOn 8 = .ok (.getfield 22, 3) := by decide +kernel
theorem dX8_workOn_11 : decode cX8_workOn 11 = .ok (.iload_n 3, 1) := by decide +kernel
theorem dX8_workOn_12 : decode cX8_workOn 12 = .ok (.dup2, 1) := by decide +kernel
theorem dX8_workOn_13 : decode cX8_workOn 13 = .ok (.iaload, 1) := by decide +kernel
theorem dX8_workOn_14 : decode cX8_workOn 14 = .ok (.iconst 1, 1) := by decide +kernel
theorem dX8_workOn_15 : decode cX8_workOn 15 = .ok (.iadd, 1) := by decide +kernel
theorem dX8_workOn_16 : decode cX8_workOn 16 = .ok (.iastore, 1) := by decide +kernel
theorem dX8_workOn_17 : decode cX8_workOn 17 = .ok (.aload_n 0, 1) := by decide +kernel
theorem dX8_workOn_18 : decode cX8_workOn 18 = .ok (.dup, 1) := by decide +kernel
theorem dX8_workOn_19 : decode cX8_workOn 19 = .ok (.getfield 18, 3) := by decide +kernel
theorem dX8_workOn_22 : decode cX8_workOn 22 = .ok (.iconst 1, 1) := by decide +kernel
theorem dX8_workOn_23 : decode cX8_workOn 23 = .ok (.iload_n 2, 1) := by decide +kernel
theorem dX8_workOn_24 : decode cX8_workOn 24 = .ok (.ishl, 1) := by decide +kernel
theorem dX8_workOn_25 : decode cX8_workOn 25 = .ok (.ior, 1) := by decide +kernel
theorem dX8_workOn_26 : decode cX8_workOn 26 = .ok (.putfield 18, 3) := by decide +kernel
theorem dX8_workOn_29 : decode cX8_workOn 29 = .ok (.aload_n 1, 1) := by decide +kernel
theorem dX8_workOn_30 : decode cX8_workOn 30 = .ok (.getfield 116, 3) := by decide +kernel
theorem dX8_workOn_33 : decode cX8_workOn 33 = .ok (.iload_n 2, 1) := by decide +kernel
theorem dX8_workOn_34 : decode cX8_workOn 34 = .ok (.dup2, 1) := by decide +kernel
theorem dX8_workOn_35 : decode cX8_workOn 35 = .ok (.iaload, 1) := by decide +kernel
theorem dX8_workOn_36 : decode cX8_workOn 36 = .ok (.iconst 1, 1) := by decide +kernel
theorem dX8_workOn_37 : decode cX8_workOn 37 = .ok (.iadd, 1) := by decide +kernel
theorem dX8_workOn_38 : decode cX8_workOn 38 = .ok (.iastore, 1) := by decide +kernel
theorem dX8_workOn_39 : decode cX8_workOn 39 = .ok (.aload_n 1, 1) := by decide +kernel
theorem dX8_workOn_40 : decode cX8_workOn 40 = .ok (.dup, 1) := by decide +kernel
theorem dX8_workOn_41 : decode cX8_workOn 41 = .ok (.getfield 119, 3) := by decide +kernel
theorem dX8_workOn_44 : decode cX8_workOn 44 = .ok (.aload_n 0, 1) := by decide +kernel
theorem dX8_workOn_45 : decode cX8_workOn 45 = .ok (.getfield 29, 3) := by decide +kernel
theorem dX8_workOn_48 : decode cX8_workOn 48 = .ok (.getfield 97, 3) := by decide +kernel
theorem dX8_workOn_51 : decode cX8_workOn 51 = .ok (.iload_n 3, 1) := by decide +kernel
theorem dX8_workOn_52 : decode cX8_workOn 52 = .ok (.aaload, 1) := by decide +kernel
theorem dX8_workOn_53 : decode cX8_workOn 53 = .ok (.getfield 122, 3) := by decide +kernel
theorem dX8_workOn_56 : decode cX8_workOn 56 = .ok (.iadd, 1) := by decide +kernel
theorem dX8_workOn_57 : decode cX8_workOn 57 = .ok (.putfield 119, 3) := by decide +kernel
theorem dX8_workOn_60 : decode cX8_workOn 60 = .ok (.aload_n 1, 1) := by decide +kernel
theorem dX8_workOn_61 : decode cX8_workOn 61 = .ok (.getfield 123, 3) := by decide +kernel
theorem dX8_workOn_64 : decode cX8_workOn 64 = .ok (.iload_n 2, 1) := by decide +kernel
theorem dX8_workOn_65 : decode cX8_workOn 65 = .ok (.dup2, 1) := by decide +kernel
theorem dX8_workOn_66 : decode cX8_workOn 66 = .ok (.iaload, 1) := by decide +kernel
theorem dX8_workOn_67 : decode cX8_workOn 67 = .ok (.iconst 1, 1) := by decide +kernel
theorem dX8_workOn_68 : decode cX8_workOn 68 = .ok (.isub, 1) := by decide +kernel
theorem dX8_workOn_69 : decode cX8_workOn 69 = .ok (.iastore, 1) := by decide +kernel
theorem dX8_workOn_70 : decode cX8_workOn 70 = .ok (.aload_n 1, 1) := by decide +kernel
theorem dX8_workOn_71 : decode cX8_workOn 71 = .ok (.getfield 126, 3) := by decide +kernel
theorem dX8_workOn_74 : decode cX8_workOn 74 = .ok (.iload_n 2, 1) := by decide +kernel
theorem dX8_workOn_75 : decode cX8_workOn 75 = .ok (.dup2, 1) := by decide +kernel
theorem dX8_workOn_76 : decode cX8_workOn 76 = .ok (.iaload, 1) := by decide +kernel
theorem dX8_workOn_77 : decode cX8_workOn 77 = .ok (.iconst 1, 1) := by decide +kernel
theorem dX8_workOn_78 : decode cX8_workOn 78 = .ok (.iadd, 1) := by decide +kernel
theorem dX8_workOn_79 : decode cX8_workOn 79 = .ok (.iastore, 1) := by decide +kernel
theorem dX8_workOn_80 : decode cX8_workOn 80 = .ok (.aload_n 1, 1) := by decide +kernel
theorem dX8_workOn_81 : decode cX8_workOn 81 = .ok (.getfield 123, 3) := by decide +kernel
theorem dX8_workOn_84 : decode cX8_workOn 84 = .ok (.iload_n 2, 1) := by decide +kernel
theorem dX8_workOn_85 : decode cX8_workOn 85 = .ok (.iaload, 1) := by decide +kernel
theorem dX8_workOn_86 : decode cX8_workOn 86 = .ok (.ifCond .ne 30, 3) := by decide +kernel
theorem dX8_workOn_89 : decode cX8_workOn 89 = .ok (.aload_n 1, 1) := by decide +kernel
theorem dX8_workOn_90 : decode cX8_workOn 90 = .ok (.dup, 1) := by decide +kernel
theorem dX8_workOn_91 : decode cX8_workOn 91 = .ok (.getfield 46, 3) := by decide +kernel
theorem dX8_workOn_94 : decode cX8_workOn 94 = .ok (.iconst 1, 1) := by decide +kernel
theorem dX8_workOn_95 : decode cX8_workOn 95 = .ok (.iload_n 2, 1) := by decide +kernel
theorem dX8_workOn_96 : decode cX8_workOn 96 = .ok (.ishl, 1) := by decide +kernel
theorem dX8_workOn_97 : decode cX8_workOn 97 = .ok (.ior, 1) := by decide +kernel
theorem dX8_workOn_98 : decode cX8_workOn 98 = .ok (.putfield 46, 3) := by decide +kernel
theorem dX8_workOn_101 : decode cX8_workOn 101 = .ok (.aload_n 1, 1) := by decide +kernel
theorem dX8_workOn_102 : decode cX8_workOn 102 = .ok (.getfield 129, 3) := by decide +kernel
theorem dX8_workOn_105 : decode cX8_workOn 105 = .ok (.iload_n 2, 1) := by decide +kernel
theorem dX8_workOn_106 : decode cX8_workOn 106 = .ok (.aload_n 1, 1) := by decide +kernel
theorem dX8_workOn_107 : decode cX8_workOn 107 = .ok (.getfield 54, 3) := by decide +kernel
theorem dX8_workOn_110 : decode cX8_workOn 110 = .ok (.iconst 1, 1) := by decide +kernel
theorem dX8_workOn_111 : decode cX8_workOn 111 = .ok (.iadd, 1) := by decide +kernel
theorem dX8_workOn_112 : decode cX8_workOn 112 = .ok (.iastore, 1) := by decide +kernel
theorem dX8_workOn_113 : decode cX8_workOn 113 = .ok (.goto 60, 3) := by decide +kernel
theorem dX8_workOn_116 : decode cX8_workOn 116 = .ok (.aload_n 0, 1) := by decide +kernel
theorem dX8_workOn_117 : decode cX8_workOn 117 = .ok (.getfield 15, 3) := by decide +kernel
theorem dX8_workOn_120 : decode cX8_workOn 120 = .ok (.ifCond .eq 53, 3) := by decide +kernel
theorem dX8_workOn_123 : decode cX8_workOn 123 = .ok (.aload_n 0, 1) := by decide +kernel
theorem dX8_workOn_124 : decode cX8_workOn 124 = .ok (.getfield 33, 3) := by decide +kernel
theorem dX8_workOn_127 : decode cX8_workOn 127 = .ok (.getfield 90, 3) := by decide +kernel
theorem dX8_workOn_130 : decode cX8_workOn 130 = .ok (.iload_n 2, 1) := by decide +kernel
theorem dX8_workOn_131 : decode cX8_workOn 131 = .ok (.iaload, 1) := by decide +kernel
theorem dX8_workOn_132 : decode cX8_workOn 132 = .ok (.iconst (-1), 1) := by decide +kernel
theorem dX8_workOn_133 : decode cX8_workOn 133 = .ok (.if_icmp .eq 40, 3) := by decide +kernel
theorem dX8_workOn_136 : decode cX8_workOn 136 = .ok (.aload_n 1, 1) := by decide +kernel
theorem dX8_workOn_137 : decode cX8_workOn 137 = .ok (.getfield 126, 3) := by decide +kernel
theorem dX8_workOn_140 : decode cX8_workOn 140 = .ok (.iload_n 2, 1) := by decide +kernel
theorem dX8_workOn_141 : decode cX8_workOn 141 = .ok (.iaload, 1) := by decide +kernel
theorem dX8_workOn_142 : decode cX8_workOn 142 = .ok (.aload_n 0, 1) := by decide +kernel
theorem dX8_workOn_143 : decode cX8_workOn 143 = .ok (.getfield 33, 3) := by decide +kernel
theorem dX8_workOn_146 : decode cX8_workOn 146 = .ok (.getfield 132, 3) := by decide +kernel
theorem dX8_workOn_149 : decode cX8_workOn 149 = .ok (.iload_n 2, 1) := by decide +kernel
theorem dX8_workOn_150 : decode cX8_workOn 150 = .ok (.iaload, 1) := by decide +kernel
theorem dX8_workOn_151 : decode cX8_workOn 151 = .ok (.if_icmp .ne 22, 3) := by decide +kernel
theorem dX8_workOn_154 : decode cX8_workOn 154 = .ok (.aload_n 1, 1) := by decide +kernel
theorem dX8_workOn_155 : decode cX8_workOn 155 = .ok (.dup, 1) := by decide +kernel
theorem dX8_workOn_156 : decode cX8_workOn 156 = .ok (.getfield 87, 3) := by decide +kernel
theorem dX8_workOn_159 : decode cX8_workOn 159 = .ok (.iconst 1, 1) := by decide +kernel
theorem dX8_workOn_160 : decode cX8_workOn 160 = .ok (.iload_n 2, 1) := by decide +kernel
theorem dX8_workOn_161 : decode cX8_workOn 161 = .ok (.ishl, 1) := by decide +kernel
theorem dX8_workOn_162 : decode cX8_workOn 162 = .ok (.ior, 1) := by decide +kernel
theorem dX8_workOn_163 : decode cX8_workOn 163 = .ok (.putfield 87, 3) := by decide +kernel
theorem dX8_workOn_166 : decode cX8_workOn 166 = .ok (.aload_n 1, 1) := by decide +kernel
theorem dX8_workOn_167 : decode cX8_workOn 167 = .ok (.getfield 126, 3) := by decide +kernel
theorem dX8_workOn_170 : decode cX8_workOn 170 = .ok (.iload_n 2, 1) := by decide +kernel
theorem dX8_workOn_171 : decode cX8_workOn 171 = .ok (.iconst 0, 1) := by decide +kernel
theorem dX8_workOn_172 : decode cX8_workOn 172 = .ok (.iastore, 1) := by decide +kernel
theorem dX8_workOn_173 : decode cX8_workOn 173 = .ok (.return_, 1) := by decide +kernel
theorem dX8_workReady_0 : decode cX8_workReady 0 = .ok (.aload_n 0, 1) := by decide +kernel
theorem dX8_workReady_1 : decode cX8_workReady 1 = .ok (.getfield 22, 3) := by decide +kernel
theorem dX8_workReady_4 : decode cX8_workReady 4 = .ok (.iconst 0, 1) := by decide +kernel
theorem dX8_workReady_5 : decode cX8_workReady 5 = .ok (.invokestatic 78, 3) := by decide +kernel
theorem dX8_workReady_8 : decode cX8_workReady 8 = .ok (.aload_n 0, 1) := by decide +kernel
theorem dX8_workReady_9 : decode cX8_workReady 9 = .ok (.iconst 0, 1) := by decide +kernel
theorem dX8_workReady_10 : decode cX8_workReady 10 = .ok (.putfield 18, 3) := by decide +kernel
theorem dX8_workReady_13 : decode cX8_workReady 13 = .ok (.iconst 0, 1) := by decide +kernel
theorem dX8_workReady_14 : decode cX8_workReady 14 = .ok (.istore 4, 2) := by decide +kernel
theorem dX8_workReady_16 : decode cX8_workReady 16 = .ok (.iload 4, 2) := by decide +kernel
theorem dX8_workReady_18 : decode cX8_workReady 18 = .ok (.aload_n 0, 1) := by decide +kernel
theorem dX8_workReady_19 : decode cX8_workReady 19 = .ok (.getfield 33, 3) := by decide +kernel
theorem dX8_workReady_22 : decode cX8_workReady 22 = .ok (.getfield 41, 3) := by decide +kernel
theorem dX8_workReady_25 : decode cX8_workReady 25 = .ok (.if_icmp .ge 139, 3) := by decide +kernel
theorem dX8_workReady_28 : decode cX8_workReady 28 = .ok (.aload_n 1, 1) := by decide +kernel
theorem dX8_workReady_29 : decode cX8_workReady 29 = .ok (.getfield 84, 3) := by decide +kernel
theorem dX8_workReady_32 : decode cX8_workReady 32 = .ok (.iload 4, 2) := by decide +kernel
theorem dX8_workReady_34 : decode cX8_workReady 34 = .ok (.iaload, 1) := by decide +kernel
theorem dX8_workReady_35 : decode cX8_workReady 35 = .ok (.istore 5, 2) := by decide +kernel
theorem dX8_workReady_37 : decode cX8_workReady 37 = .ok (.iload_n 2, 1) := by decide +kernel
theorem dX8_workReady_38 : decode cX8_workReady 38 = .ok (.iload 4, 2) := by decide +kernel
theorem dX8_workReady_40 : decode cX8_workReady 40 = .ok (.ishr, 1) := by decide +kernel
theorem dX8_workReady_41 : decode cX8_workReady 41 = .ok (.iconst 1, 1) := by decide +kernel
theorem dX8_workReady_42 : decode cX8_workReady 42 = .ok (.iand, 1) := by decide +kernel
theorem dX8_workReady_43 : decode cX8_workReady 43 = .ok (.ifCond .eq 115, 3) := by decide +kernel
theorem dX8_workReady_46 : decode cX8_workReady 46 = .ok (.iload_n 3, 1) := by decide +kernel
theorem dX8_workReady_47 : decode cX8_workReady 47 = .ok (.iload 5, 2) := by decide +kernel
theorem dX8_workReady_49 : decode cX8_workReady 49 = .ok (.ishr, 1) := by decide +kernel
theorem dX8_workReady_50 : decode cX8_workReady 50 = .ok (.iconst 1, 1) := by decide +kernel
theorem dX8_workReady_51 : decode cX8_workReady 51 = .ok (.iand, 1) := by decide +kernel
theorem dX8_workReady_52 : decode cX8_workReady 52 = .ok (.ifCond .ne 6, 3) := by decide +kernel
theorem dX8_workReady_55 : decode cX8_workReady 55 = .ok (.goto 103, 3) := by decide +kernel
theorem dX8_workReady_58 : decode cX8_workReady 58 = .ok (.aload_n 1, 1) := by decide +kernel
theorem dX8_workReady_59 : decode cX8_workReady 59 = .ok (.getfield 87, 3) := by decide +kernel
theorem dX8_workReady_62 : decode cX8_workReady 62 = .ok (.iload 4, 2) := by decide +kernel
theorem dX8_workReady_64 : decode cX8_workReady 64 = .ok (.ishr, 1) := by decide +kernel
theorem dX8_workReady_65 : decode cX8_workReady 65 = .ok (.iconst 1, 1) := by decide +kernel
theorem dX8_workReady_66 : decode cX8_workReady 66 = .ok (.iand, 1) := by decide +kernel
theorem dX8_workReady_67 : decode cX8_workReady 67 = .ok (.iconst 1, 1) := by decide +kernel
theorem dX8_workReady_68 : decode cX8_workReady 68 = .ok (.if_icmp .ne 49, 3) := by decide +kernel
theorem dX8_workReady_71 : decode cX8_workReady 71 = .ok (.aload_n 0, 1) := by decide +kernel
theorem dX8_workReady_72 : decode cX8_workReady 72 = .ok (.getfield 33, 3) := by decide +kernel
theorem dX8_workReady_75 : decode cX8_workReady 75 = .ok (.getfield 90, 3) := by decide +kernel
theorem dX8_workReady_78 : decode cX8_workReady 78 = .ok (.iload 4, 2) := by decide +kernel
theorem dX8_workReady_80 : decode cX8_workReady 80 = .ok (.iaload, 1) := by decide +kernel
theorem dX8_workReady_81 : decode cX8_workReady 81 = .ok (.istore 6, 2) := by decide +kernel
theorem dX8_workReady_83 : decode cX8_workReady 83 = .ok (.iload 6, 2) := by decide +kernel
theorem dX8_workReady_85 : decode cX8_workReady 85 = .ok (.iconst (-1), 1) := by decide +kernel
theorem dX8_workReady_86 : decode cX8_workReady 86 = .ok (.if_icmp .eq 28, 3) := by decide +kernel
theorem dX8_workReady_89 : decode cX8_workReady 89 = .ok (.iload_n 3, 1) := by decide +kernel
theorem dX8_workReady_90 : decode cX8_workReady 90 = .ok (.iload 6, 2) := by decide +kernel
theorem dX8_workReady_92 : decode cX8_workReady 92 = .ok (.ishr, 1) := by decide +kernel
theorem dX8_workReady_93 : decode cX8_workReady 93 = .ok (.iconst 1, 1) := by decide +kernel
theorem dX8_workReady_94 : decode cX8_workReady 94 = .ok (.iand, 1) := by decide +kernel
theorem dX8_workReady_95 : decode cX8_workReady 95 = .ok (.iconst 1, 1) := by decide +kernel
theorem dX8_workReady_96 : decode cX8_workReady 96 = .ok (.if_icmp .ne 18, 3) := by decide +kernel
theorem dX8_workReady_99 : decode cX8_workReady 99 = .ok (.aload_n 1, 1) := by decide +kernel
theorem dX8_workReady_100 : decode cX8_workReady 100 = .ok (.dup, 1) := by decide +kernel
theorem dX8_workReady_101 : decode cX8_workReady 101 = .ok (.getfield 87, 3) := by decide +kernel
theorem dX8_workReady_104 : decode cX8_workReady 104 = .ok (.iconst 1, 1) := by decide +kernel
theorem dX8_workReady_105 : decode cX8_workReady 105 = .ok (.iload 4, 2) := by decide +kernel
theorem dX8_workReady_107 : decode cX8_workReady 107 = .ok (.ishl, 1) := by decide +kernel
theorem dX8_workReady_108 : decode cX8_workReady 108 = .ok (.iconst (-1), 1) := by decide +kernel
theorem dX8_workReady_109 : decode cX8_workReady 109 = .ok (.ixor, 1) := by decide +kernel
theorem dX8_workReady_110 : decode cX8_workReady 110 = .ok (.iand, 1) := by decide +kernel
theorem dX8_workReady_111 : decode cX8_workReady 111 = .ok (.putfield 87, 3) := by decide +kernel
theorem dX8_workReady_114 : decode cX8_workReady 114 = .ok (.goto 44, 3) := by decide +kernel
theorem dX8_workReady_117 : decode cX8_workReady 117 = .ok (.aload_n 0, 1) := by decide +kernel
theorem dX8_workReady_118 : decode cX8_workReady 118 = .ok (.iload 4, 2) := by decide +kernel
theorem dX8_workReady_120 : decode cX8_workReady 120 = .ok (.iload 5, 2) := by decide +kernel
theorem dX8_workReady_122 : decode cX8_workReady 122 = .ok (.invokevirtual 93, 3) := by decide +kernel
theorem dX8_workReady_125 : decode cX8_workReady 125 = .ok (.ifCond .eq 33, 3) := by decide +kernel
theorem dX8_workReady_128 : decode cX8_workReady 128 = .ok (.aload_n 0, 1) := by decide +kernel
theorem dX8_workReady_129 : decode cX8_workReady 129 = .ok (.getfield 22, 3) := by decide +kernel
theorem dX8_workReady_132 : decode cX8_workReady 132 = .ok (.iload 5, 2) := by decide +kernel
theorem dX8_workReady_134 : decode cX8_workReady 134 = .ok (.iaload, 1) := by decide +kernel
theorem dX8_workReady_135 : decode cX8_workReady 135 = .ok (.aload_n 0, 1) := by decide +kernel
theorem dX8_workReady_136 : decode cX8_workReady 136 = .ok (.getfield 29, 3) := by decide +kernel
theorem dX8_workReady_139 : decode cX8_workReady 139 = .ok (.getfield 97, 3) := by decide +kernel
theorem dX8_workReady_142 : decode cX8_workReady 142 = .ok (.iload 5, 2) := by decide +kernel
theorem dX8_workReady_144 : decode cX8_workReady 144 = .ok (.aaload, 1) := by decide +kernel
theorem dX8_workReady_145 : decode cX8_workReady 145 = .ok (.getfield 101, 3) := by decide +kernel
theorem dX8_workReady_148 : decode cX8_workReady 148 = .ok (.if_icmp .ge 10, 3) := by decide +kernel
theorem dX8_workReady_151 : decode cX8_workReady 151 = .ok (.aload_n 0, 1) := by decide +kernel
theorem dX8_workReady_152 : decode cX8_workReady 152 = .ok (.aload_n 1, 1) := by decide +kernel
theorem dX8_workReady_153 : decode cX8_workReady 153 = .ok (.iload 4, 2) := by decide +kernel
theorem dX8_workReady_155 : decode cX8_workReady 155 = .ok (.invokevirtual 106, 3) := by decide +kernel
theorem dX8_workReady_158 : decode cX8_workReady 158 = .ok (.iinc 4 1, 3) := by decide +kernel
theorem dX8_workReady_161 : decode cX8_workReady 161 = .ok (.goto (-145), 3) := by decide +kernel
theorem dX8_workReady_164 : decode cX8_workReady 164 = .ok (.return_, 1) := by decide +kernel
noncomputable def s_X7_allLost_4 (fu : Nat) (ih : Nat → Int32 → Int32 → hM → Option (Int32 × hM)) (a0 : Nat) (x1 : Int32) (x2 : Int32) (m : hM) : Option (Int32 × hM) :=
  if 8 ≤ x2 then (
some (x1, m)) else (
if hIn x2 8 then (
hLet (x1 + (gI m (a0 + 7) (Int32.toNatClampNeg x2))) fun y3 =>
hLet (x2 + 1) fun y4 =>
ih a0 y3 y4 m) else none)
noncomputable def f_X7_allLost_4 (fu : Nat) (n : Nat) : Nat → Int32 → Int32 → hM → Option (Int32 × hM) :=
  Nat.rec (motive := fun _ => Nat → Int32 → Int32 → hM → Option (Int32 × hM)) (fun _ _ _ _ => none) (fun _ ih => s_X7_allLost_4 fu ih) n
theorem f_X7_allLost_4_s (fu : Nat) (n : Nat) (a0 : Nat) (x1 : Int32) (x2 : Int32) (m : hM) : f_X7_allLost_4 fu (n + 1) a0 x1 x2 m = s_X7_allLost_4 fu (f_X7_allLost_4 fu n) a0 x1 x2 m := rfl
set_option maxRecDepth 100000 in
set_option maxHeartbeats 4000000 in
theorem r_X7_allLost_4 {G : hG} {X : hX} (C : Cx G X 1 cX7_allLost 3 RX7 (some .int)) (K : Cr G X) (fu : Nat) (n : Nat) : ∀ (a0 : Nat) (ha0 : a0 ∈ stL) (x1 : Int32) (x2 : Int32) (m : hM), Rf vI G X 4 [(0, hA G a0), (1, .int x1), (2, .int x2)] [] m (f_X7_allLost_4 fu n a0 x1 x2 m) := by
  induction n with
  | zero => intros; exact rf_none
  | succ n ih =>
    intro a0 ha0 x1 x2 m
    show Rf vI G X 4 [(0, hA G a0), (1, .int x1), (2, .int x2)] [] m (s_X7_allLost_4 fu (f_X7_allLost_4 fu n) a0 x1 x2 m)
    unfold s_X7_allLost_4
    refine rf_iload_n C (n := 5) (q := 2) dX7_allLost_4 rfl rfl rfl ?_
    refine rf_bipush C (n := 7) (v := 8) dX7_allLost_5 rfl (by decide) ?_
    refine rf_icmp_ge C (tgt := 25) (n := 10) dX7_allLost_7 (by decide) rfl (fun h1 => ?_) (fun h1 => ?_)
    · refine rf_iload_n C (n := 26) (q := 1) dX7_allLost_25 rfl rfl rfl ?_
      exact rf_iret C K dX7_allLost_26
    · refine rf_iload_n C (n := 11) (q := 1) dX7_allLost_10 rfl rfl rfl ?_
      refine rf_aload_n C (n := 12) (q := 0) dX7_allLost_11 rfl rfl rfl ?_
      refine rf_getS C (n := 15) fl_RX7_40 (pS_l ha0) rfl dX7_allLost_12 rfl ?_
      refine rf_iload_n C (n := 16) (q := 2) dX7_allLost_15 rfl rfl rfl ?_
      refine rf_guard (fun h2 => ?_)
      refine rf_iald C (n := 17) (st_a7 ha0) h2 rfl dX7_allLost_16 rfl ?_
      refine rf_iadd C (n := 18) dX7_allLost_17 rfl ?_
      refine rf_letI (fun y3 => ?_)
      refine rf_istore_n C (n := 19) [(1, .int y3), (0, hA G a0), (2, .int x2)] dX7_allLost_18 rfl rfl (by decide) rfl ?_
      refine rf_iinc2 C (n := 22) (q := 2) (fun y4 => [(2, .int y4), (1, .int y3), (0, hA G a0)]) dX7_allLost_19 rfl rfl (by decide) (by decide) (fun _ => rfl) (fun y4 => ?_)
      refine rf_goto C (n := 4) dX7_allLost_22 (by decide) ?_
      exact rf_lv _ [2, 1, 0] rfl (ih _ ha0 _ _ _)
noncomputable def f_X7_allLost (fu : Nat) (a0 : Nat) (m : hM) : Option (Int32 × hM) :=
  if a0 ∈ stL then (f_X7_allLost_4 fu fu a0 0 0 m) else none
set_option maxRecDepth 100000 in
set_option maxHeartbeats 4000000 in
theorem c_X7_allLost (G : hG) (fu : Nat) (a0 : Nat) (m : hM) : Mt vI G 1 yX7_allLost cX7_allLost 3 (some .int) [hA G a0] m (f_X7_allLost fu a0 m) := by
  refine mt_of (by decide +kernel) (Nat.le_of_ble_eq_true rfl) (fun X C K => ?_)
  have C : Cx G X 1 cX7_allLost 3 RX7 (some .int) := C
  show Rf vI G X 0 [(0, hA G a0)] [] m _
  unfold f_X7_allLost
  refine rf_guard (fun ha0 => ?_)
  refine rf_iconst C (n := 1) (v := 0) dX7_allLost_0 rfl (by decide) ?_
  refine rf_istore_n C (n := 2) [(1, .int 0), (0, hA G a0)] dX7_allLost_1 rfl rfl (by decide) rfl ?_
  refine rf_iconst C (n := 3) (v := 0) dX7_allLost_2 rfl (by decide) ?_
  refine rf_istore_n C (n := 4) [(2, .int 0), (1, .int 0), (0, hA G a0)] dX7_allLost_3 rfl rfl (by decide) rfl ?_
  exact rf_lv _ [2, 1, 0] rfl (r_X7_allLost_4 C K fu fu _ ha0 _ _ _)
noncomputable def f_X8_readyPieces_51 (fu : Nat) (k4 : Nat → Int32 → Int32 → hM → Option (Int32 × hM)) (a1 : Nat) (x2 : Int32) (x3 : Int32) (m : hM) : Option (Int32 × hM) :=
  hLet (x3 + 1) fun y3 =>
k4 a1 x2 y3 m
set_option maxRecDepth 100000 in
set_option maxHeartbeats 4000000 in
theorem r_X8_readyPieces_51 {G : hG} {X : hX} (C : Cx G X 1 cX8_readyPieces 4 RX8 (some .int)) (K : Cr G X) (fu : Nat) (k4 : Nat → Int32 → Int32 → hM → Option (Int32 × hM)) (hk4 : ∀ (a1 : Nat) (ha1 : a1 ∈ stL) (x2 : Int32) (x3 : Int32) (m : hM), Rf vI G X 4 [(0, hA G 32), (1, hA G a1), (2, .int x2), (3, .int x3)] [] m (k4 a1 x2 x3 m)) (a1 : Nat) (ha1 : a1 ∈ stL) (x2 : Int32) (x3 : Int32) (m : hM) : Rf vI G X 51 [(0, hA G 32), (1, hA G a1), (2, .int x2), (3, .int x3)] [] m (f_X8_readyPieces_51 fu k4 a1 x2 x3 m) := by
  unfold f_X8_readyPieces_51
  refine rf_iinc2 C (n := 54) (q := 3) (fun y3 => [(3, .int y3), (0, hA G 32), (1, hA G a1), (2, .int x2)]) dX8_readyPieces_51 rfl rfl (by decide) (by decide) (fun _ => rfl) (fun y3 => ?_)
  refine rf_goto C (n := 4) dX8_readyPieces_54 (by decide) ?_
  exact rf_lv _ [1, 2, 3, 0] rfl (hk4 _ ha1 _ _ _)
noncomputable def s_X8_readyPieces_4 (fu : Nat) (ih : Nat → Int32 → Int32 → hM → Option (Int32 × hM)) (a1 : Nat) (x2 : Int32) (x3 : Int32) (m : hM) : Option (Int32 × hM) :=
  if (gI m 18 6) ≤ x3 then (
some (x2, m)) else (
if ¬ (((gI m a1 1) >>> (x3 &&& 31)) &&& 1) = 0 then (
f_X8_readyPieces_51 fu ih a1 x2 x3 m) else (
if hIn x3 8 then (
if ¬ ((gI m 22 (Int32.toNatClampNeg x3)) &&& ((gI m a1 1) ^^^ (-1))) = 0 then (
f_X8_readyPieces_51 fu ih a1 x2 x3 m) else (
hLet (x2 ||| (1 <<< (x3 &&& 31))) fun y6 =>
f_X8_readyPieces_51 fu ih a1 y6 x3 m)) else none))
noncomputable def f_X8_readyPieces_4 (fu : Nat) (n : Nat) : Nat → Int32 → Int32 → hM → Option (Int32 × hM) :=
  Nat.rec (motive := fun _ => Nat → Int32 → Int32 → hM → Option (Int32 × hM)) (fun _ _ _ _ => none) (fun _ ih => s_X8_readyPieces_4 fu ih) n
theorem f_X8_readyPieces_4_s (fu : Nat) (n : Nat) (a1 : Nat) (x2 : Int32) (x3 : Int32) (m : hM) : f_X8_readyPieces_4 fu (n + 1) a1 x2 x3 m = s_X8_readyPieces_4 fu (f_X8_readyPieces_4 fu n) a1 x2 x3 m := rfl
set_option maxRecDepth 100000 in
set_option maxHeartbeats 4000000 in
theorem r_X8_readyPieces_4 {G : hG} {X : hX} (C : Cx G X 1 cX8_readyPieces 4 RX8 (some .int)) (K : Cr G X) (fu : Nat) (n : Nat) : ∀ (a1 : Nat) (ha1 : a1 ∈ stL) (x2 : Int32) (x3 : Int32) (m : hM), Rf vI G X 4 [(0, hA G 32), (1, hA G a1), (2, .int x2), (3, .int x3)] [] m (f_X8_readyPieces_4 fu n a1 x2 x3 m) := by
  induction n with
  | zero => intros; exact rf_none
  | succ n ih =>
    intro a1 ha1 x2 x3 m
    show Rf vI G X 4 [(0, hA G 32), (1, hA G a1), (2, .int x2), (3, .int x3)] [] m (s_X8_readyPieces_4 fu (f_X8_readyPieces_4 fu n) a1 x2 x3 m)
    unfold s_X8_readyPieces_4
    refine rf_iload_n C (n := 5) (q := 3) dX8_readyPieces_4 rfl rfl rfl ?_
    refine rf_aload_n C (n := 6) (q := 0) dX8_readyPieces_5 rfl rfl rfl ?_
    refine rf_getS C (n := 9) fl_RX8_33 ly_32 rfl dX8_readyPieces_6 rfl ?_
    refine rf_getI C (n := 12) fl_RX8_41 ly_18 rfl dX8_readyPieces_9 rfl ?_
    refine rf_icmp_ge C (tgt := 57) (n := 15) dX8_readyPieces_12 (by decide) rfl (fun h1 => ?_) (fun h1 => ?_)
    · refine rf_iload_n C (n := 58) (q := 2) dX8_readyPieces_57 rfl rfl rfl ?_
      exact rf_iret C K dX8_readyPieces_58
    · refine rf_aload_n C (n := 16) (q := 1) dX8_readyPieces_15 rfl rfl rfl ?_
      refine rf_getI C (n := 19) fl_RX8_46 (pS_l ha1) rfl dX8_readyPieces_16 rfl ?_
      refine rf_iload_n C (n := 20) (q := 3) dX8_readyPieces_19 rfl rfl rfl ?_
      refine rf_ishr C (n := 21) dX8_readyPieces_20 rfl ?_
      refine rf_iconst C (n := 22) (v := 1) dX8_readyPieces_21 rfl (by decide) ?_
      refine rf_iand C (n := 23) dX8_readyPieces_22 rfl ?_
      refine rf_if_ne C (tgt := 51) (n := 26) dX8_readyPieces_23 (by decide) rfl (fun h2 => ?_) (fun h2 => ?_)
      · exact rf_lv _ [0, 1, 2, 3] rfl (r_X8_readyPieces_51 C K fu _ ih _ ha1 _ _ _)
      · refine rf_aload_n C (n := 27) (q := 0) dX8_readyPieces_26 rfl rfl rfl ?_
        refine rf_getS C (n := 30) fl_RX8_33 ly_32 rfl dX8_readyPieces_27 rfl ?_
        refine rf_getS C (n := 33) fl_RX8_51 ly_18 rfl dX8_readyPieces_30 rfl ?_
        refine rf_iload_n C (n := 34) (q := 3) dX8_readyPieces_33 rfl rfl rfl ?_
        refine rf_guard (fun h4 => ?_)
        refine rf_iald C (n := 35) ly_22 h4 rfl dX8_readyPieces_34 rfl ?_
        refine rf_aload_n C (n := 36) (q := 1) dX8_readyPieces_35 rfl rfl rfl ?_
        refine rf_getI C (n := 39) fl_RX8_46 (pS_l ha1) rfl dX8_readyPieces_36 rfl ?_
        refine rf_iconst C (n := 40) (v := (-1)) dX8_readyPieces_39 rfl (by decide) ?_
        refine rf_ixor C (n := 41) dX8_readyPieces_40 rfl ?_
        refine rf_iand C (n := 42) dX8_readyPieces_41 rfl ?_
        refine rf_if_ne C (tgt := 51) (n := 45) dX8_readyPieces_42 (by decide) rfl (fun h5 => ?_) (fun h5 => ?_)
        · exact rf_lv _ [0, 1, 2, 3] rfl (r_X8_readyPieces_51 C K fu _ ih _ ha1 _ _ _)
        · refine rf_iload_n C (n := 46) (q := 2) dX8_readyPieces_45 rfl rfl rfl ?_
          refine rf_iconst C (n := 47) (v := 1) dX8_readyPieces_46 rfl (by decide) ?_
          refine rf_iload_n C (n := 48) (q := 3) dX8_readyPieces_47 rfl rfl rfl ?_
          refine rf_ishl C (n := 49) dX8_readyPieces_48 rfl ?_
          refine rf_ior C (n := 50) dX8_readyPieces_49 rfl ?_
          refine rf_letI (fun y6 => ?_)
          refine rf_istore_n C (n := 51) [(2, .int y6), (0, hA G 32), (1, hA G a1), (3, .int x3)] dX8_readyPieces_50 rfl rfl (by decide) rfl ?_
          exact rf_lv _ [1, 2, 0, 3] rfl (r_X8_readyPieces_51 C K fu _ ih _ ha1 _ _ _)
noncomputable def f_X8_readyPieces (fu : Nat) (a1 : Nat) (m : hM) : Option (Int32 × hM) :=
  if a1 ∈ stL then (f_X8_readyPieces_4 fu fu a1 0 0 m) else none
set_option maxRecDepth 100000 in
set_option maxHeartbeats 4000000 in
theorem c_X8_readyPieces (G : hG) (fu : Nat) (a1 : Nat) (m : hM) : Mt vI G 1 yX8_readyPieces cX8_readyPieces 4 (some .int) [hA G 32, hA G a1] m (f_X8_readyPieces fu a1 m) := by
  refine mt_of (by decide +kernel) (Nat.le_of_ble_eq_true rfl) (fun X C K => ?_)
  have C : Cx G X 1 cX8_readyPieces 4 RX8 (some .int) := C
  show Rf vI G X 0 [(0, hA G 32), (1, hA G a1)] [] m _
  unfold f_X8_readyPieces
  refine rf_guard (fun ha1 => ?_)
  refine rf_iconst C (n := 1) (v := 0) dX8_readyPieces_0 rfl (by decide) ?_
  refine rf_istore_n C (n := 2) [(2, .int 0), (0, hA G 32), (1, hA G a1)] dX8_readyPieces_1 rfl rfl (by decide) rfl ?_
  refine rf_iconst C (n := 3) (v := 0) dX8_readyPieces_2 rfl (by decide) ?_
  refine rf_istore_n C (n := 4) [(3, .int 0), (2, .int 0), (0, hA G 32), (1, hA G a1)] dX8_readyPieces_3 rfl rfl (by decide) rfl ?_
  exact rf_lv _ [2, 3, 1, 0] rfl (r_X8_readyPieces_4 C K fu fu _ ha1 _ _ _)
noncomputable def f_X8_handTo (fu : Nat) (a1 : Nat) (x2 : Int32) (x3 : Int32) (x4 : Int32) (m : hM) : Option (Int32 × hM) :=
  if a1 ∈ stL then (if hIn x2 8 then (
hLet (gI m (a1 + 1) (Int32.toNatClampNeg x2)) fun y2 =>
hBd (f_X0_bothFrom fu y2 x3 x4 m) fun y3 m4 =>
hBd (f_X0_lostBy fu y2 x3 y3 m4) fun y5 m6 =>
if hIn x2 8 then (
hLet (sI m6 (a1 + 1) (Int32.toNatClampNeg x2) x3) fun m8 =>
if hIn x2 8 then (
if hIn x2 8 then (
hLet (sI m8 (a1 + 2) (Int32.toNatClampNeg x2) ((gI m8 (a1 + 2) (Int32.toNatClampNeg x2)) + y5)) fun m11 =>
if hIn x2 8 then (
if hIn x2 8 then (
hLet (sI m11 (a1 + 7) (Int32.toNatClampNeg x2) ((gI m11 (a1 + 7) (Int32.toNatClampNeg x2)) + y5)) fun m14 =>
if hIn x2 8 then (
if hIn x2 8 then (
hLet (sI m14 (a1 + 6) (Int32.toNatClampNeg x2) ((gI m14 (a1 + 6) (Int32.toNatClampNeg x2)) + 1)) fun m17 =>
if 60 ≤ (gI m17 a1 12) then (
some (y5, m17)) else (
hBd (f_X0_wrongBetween fu y2 x3 m17) fun y19 m20 =>
if hIn (gI m17 a1 12) 60 then (
hLet (sI m20 (a1 + 8) (Int32.toNatClampNeg (gI m17 a1 12)) y19) fun m22 =>
hLet (sI m22 a1 12 ((gI m22 a1 12) + 1)) fun m23 =>
some (y5, m23)) else none)) else none) else none) else none) else none) else none) else none) else none) else none) else none
set_option maxRecDepth 100000 in
set_option maxHeartbeats 4000000 in
theorem c_X8_handTo (G : hG) (fu : Nat) (a1 : Nat) (x2 : Int32) (x3 : Int32) (x4 : Int32) (m : hM) : Mt vI G 3 yX8_handTo cX8_handTo 7 (some .int) [hA G 32, hA G a1, .int x2, .int x3, .int x4] m (f_X8_handTo fu a1 x2 x3 x4 m) := by
  refine mt_of (by decide +kernel) (Nat.le_of_ble_eq_true rfl) (fun X C K => ?_)
  have C : Cx G X 3 cX8_handTo 7 RX8 (some .int) := C
  show Rf vI G X 0 [(0, hA G 32), (1, hA G a1), (2, .int x2), (3, .int x3), (4, .int x4)] [] m _
  unfold f_X8_handTo
  refine rf_guard (fun ha1 => ?_)
  refine rf_aload_n C (n := 1) (q := 1) dX8_handTo_0 rfl rfl rfl ?_
  refine rf_getS C (n := 4) fl_RX8_84 (pS_l ha1) rfl dX8_handTo_1 rfl ?_
  refine rf_iload_n C (n := 5) (q := 2) dX8_handTo_4 rfl rfl rfl ?_
  refine rf_guard (fun h1 => ?_)
  refine rf_iald C (n := 6) (st_a1 ha1) h1 rfl dX8_handTo_5 rfl ?_
  refine rf_letI (fun y2 => ?_)
  refine rf_istore C (n := 8) [(5, .int y2), (0, hA G 32), (1, hA G a1), (2, .int x2), (3, .int x3), (4, .int x4)] dX8_handTo_6 rfl (by decide) rfl ?_
  refine rf_aload_n C (n := 9) (q := 1) dX8_handTo_8 rfl rfl rfl ?_
  refine rf_getS C (n := 12) fl_RX8_29 ly_32 rfl dX8_handTo_9 rfl ?_
  refine rf_iload C (n := 14) (q := 0) dX8_handTo_12 rfl rfl ?_
  refine rf_iload_n C (n := 15) (q := 4) dX8_handTo_14 rfl rfl rfl ?_
  refine rf_aload_n C (n := 16) (q := 1) dX8_handTo_15 rfl rfl rfl ?_
  refine rf_getS C (n := 19) fl_RX8_29 ly_32 rfl dX8_handTo_16 rfl ?_
  refine rf_iload C (n := 21) (q := 0) dX8_handTo_19 rfl rfl ?_
  refine rf_iload_n C (n := 22) (q := 4) dX8_handTo_21 rfl rfl rfl ?_
  refine rf_iload C (n := 24) (q := 5) dX8_handTo_22 rfl rfl ?_
  refine rf_callVi C (n := 27) (c_X0_bothFrom G fu _ _ _ _) mw_RX8_143 ly_1 rfl ⟨by decide, by decide⟩ rfl (Nat.le_of_ble_eq_true rfl) rfl dX8_handTo_24 rfl (fun y3 m4 => ?_)
  refine rf_callVi C (n := 30) (c_X0_lostBy G fu _ _ _ _) mw_RX8_147 ly_1 rfl ⟨by decide, by decide⟩ rfl (Nat.le_of_ble_eq_true rfl) rfl dX8_handTo_27 rfl (fun y5 m6 => ?_)
  refine rf_istore C (n := 32) [(6, .int y5), (5, .int y2), (0, hA G 32), (1, hA G a1), (2, .int x2), (3, .int x3), (4, .int x4)] dX8_handTo_30 rfl (by decide) rfl ?_
  refine rf_aload_n C (n := 33) (q := 3) dX8_handTo_32 rfl rfl rfl ?_
  refine rf_getS C (n := 36) fl_RX8_84 (pS_l ha1) rfl dX8_handTo_33 rfl ?_
  refine rf_iload_n C (n := 37) (q := 4) dX8_handTo_36 rfl rfl rfl ?_
  refine rf_iload_n C (n := 38) (q := 5) dX8_handTo_37 rfl rfl rfl ?_
  refine rf_guard (fun h7 => ?_)
  refine rf_iast C (n := 39) (st_a1 ha1) h7 rfl dX8_handTo_38 rfl ?_
  refine rf_letM (fun m8 => ?_)
  refine rf_aload_n C (n := 40) (q := 3) dX8_handTo_39 rfl rfl rfl ?_
  refine rf_getS C (n := 43) fl_RX8_123 (pS_l ha1) rfl dX8_handTo_40 rfl ?_
  refine rf_iload_n C (n := 44) (q := 4) dX8_handTo_43 rfl rfl rfl ?_
  refine rf_dup2 C (n := 45) dX8_handTo_44 rfl rfl rfl ?_
  refine rf_guard (fun h9 => ?_)
  refine rf_iald C (n := 46) (st_a2 ha1) h9 rfl dX8_handTo_45 rfl ?_
  refine rf_iload C (n := 48) (q := 0) dX8_handTo_46 rfl rfl ?_
  refine rf_iadd C (n := 49) dX8_handTo_48 rfl ?_
  refine rf_guard (fun h10 => ?_)
  refine rf_iast C (n := 50) (st_a2 ha1) h10 rfl dX8_handTo_49 rfl ?_
  refine rf_letM (fun m11 => ?_)
  refine rf_aload_n C (n := 51) (q := 3) dX8_handTo_50 rfl rfl rfl ?_
  refine rf_getS C (n := 54) fl_RX8_150 (pS_l ha1) rfl dX8_handTo_51 rfl ?_
  refine rf_iload_n C (n := 55) (q := 4) dX8_handTo_54 rfl rfl rfl ?_
  refine rf_dup2 C (n := 56) dX8_handTo_55 rfl rfl rfl ?_
  refine rf_guard (fun h12 => ?_)
  refine rf_iald C (n := 57) (st_a7 ha1) h12 rfl dX8_handTo_56 rfl ?_
  refine rf_iload C (n := 59) (q := 0) dX8_handTo_57 rfl rfl ?_
  refine rf_iadd C (n := 60) dX8_handTo_59 rfl ?_
  refine rf_guard (fun h13 => ?_)
  refine rf_iast C (n := 61) (st_a7 ha1) h13 rfl dX8_handTo_60 rfl ?_
  refine rf_letM (fun m14 => ?_)
  refine rf_aload_n C (n := 62) (q := 3) dX8_handTo_61 rfl rfl rfl ?_
  refine rf_getS C (n := 65) fl_RX8_153 (pS_l ha1) rfl dX8_handTo_62 rfl ?_
  refine rf_iload_n C (n := 66) (q := 4) dX8_handTo_65 rfl rfl rfl ?_
  refine rf_dup2 C (n := 67) dX8_handTo_66 rfl rfl rfl ?_
  refine rf_guard (fun h15 => ?_)
  refine rf_iald C (n := 68) (st_a6 ha1) h15 rfl dX8_handTo_67 rfl ?_
  refine rf_iconst C (n := 69) (v := 1) dX8_handTo_68 rfl (by decide) ?_
  refine rf_iadd C (n := 70) dX8_handTo_69 rfl ?_
  refine rf_guard (fun h16 => ?_)
  refine rf_iast C (n := 71) (st_a6 ha1) h16 rfl dX8_handTo_70 rfl ?_
  refine rf_letM (fun m17 => ?_)
  refine rf_aload_n C (n := 72) (q := 3) dX8_handTo_71 rfl rfl rfl ?_
  refine rf_getI C (n := 75) fl_RX8_156 (pS_l ha1) rfl dX8_handTo_72 rfl ?_
  refine rf_bipush C (n := 77) (v := 60) dX8_handTo_75 rfl (by decide) ?_
  refine rf_icmp_ge C (tgt := 109) (n := 80) dX8_handTo_77 (by decide) rfl (fun h18 => ?_) (fun h18 => ?_)
  · refine rf_iload C (n := 111) (q := 0) dX8_handTo_109 rfl rfl ?_
    exact rf_iret C K dX8_handTo_111
  · refine rf_aload_n C (n := 81) (q := 3) dX8_handTo_80 rfl rfl rfl ?_
    refine rf_getS C (n := 84) fl_RX8_159 (pS_l ha1) rfl dX8_handTo_81 rfl ?_
    refine rf_aload_n C (n := 85) (q := 3) dX8_handTo_84 rfl rfl rfl ?_
    refine rf_getI C (n := 88) fl_RX8_156 (pS_l ha1) rfl dX8_handTo_85 rfl ?_
    refine rf_aload_n C (n := 89) (q := 2) dX8_handTo_88 rfl rfl rfl ?_
    refine rf_getS C (n := 92) fl_RX8_29 ly_32 rfl dX8_handTo_89 rfl ?_
    refine rf_iload C (n := 94) (q := 1) dX8_handTo_92 rfl rfl ?_
    refine rf_iload_n C (n := 95) (q := 5) dX8_handTo_94 rfl rfl rfl ?_
    refine rf_callVi C (n := 98) (c_X0_wrongBetween G fu _ _ _) mw_RX8_162 ly_1 rfl ⟨by decide, by decide⟩ rfl (Nat.le_of_ble_eq_true rfl) rfl dX8_handTo_95 rfl (fun y19 m20 => ?_)
    refine rf_guard (fun h21 => ?_)
    refine rf_iast C (n := 99) (st_a8 ha1) h21 rfl dX8_handTo_98 rfl ?_
    refine rf_letM (fun m22 => ?_)
    refine rf_aload_n C (n := 100) (q := 3) dX8_handTo_99 rfl rfl rfl ?_
    refine rf_dup C (n := 101) dX8_handTo_100 rfl rfl ?_
    refine rf_getI C (n := 104) fl_RX8_156 (pS_l ha1) rfl dX8_handTo_101 rfl ?_
    refine rf_iconst C (n := 105) (v := 1) dX8_handTo_104 rfl (by decide) ?_
    refine rf_iadd C (n := 106) dX8_handTo_105 rfl ?_
    refine rf_putI C (n := 109) pl_RX8_156 (pS_l ha1) rfl ⟨rfl, rfl⟩ dX8_handTo_106 rfl ?_
    refine rf_letM (fun m23 => ?_)
    refine rf_iload C (n := 111) (q := 0) dX8_handTo_109 rfl rfl ?_
    exact rf_iret C K dX8_handTo_111
noncomputable def f_J6_bitCount_0f7a4 (fu : Nat) (x0 : Int32) (m : hM) : Option (Int32 × hM) :=
  hLet (x0 - (((Int32.toUInt32 x0 >>> (Int32.toUInt32 1 &&& Int32.toUInt32 31)).toInt32) &&& 1431655765)) fun y1 =>
hLet ((y1 &&& 858993459) + (((Int32.toUInt32 y1 >>> (Int32.toUInt32 2 &&& Int32.toUInt32 31)).toInt32) &&& 858993459)) fun y2 =>
hLet ((y2 + ((Int32.toUInt32 y2 >>> (Int32.toUInt32 4 &&& Int32.toUInt32 31)).toInt32)) &&& 252645135) fun y3 =>
hLet (y3 + ((Int32.toUInt32 y3 >>> (Int32.toUInt32 8 &&& Int32.toUInt32 31)).toInt32)) fun y4 =>
hLet (y4 + ((Int32.toUInt32 y4 >>> (Int32.toUInt32 16 &&& Int32.toUInt32 31)).toInt32)) fun y5 =>
some (y5 &&& 63, m)
set_option maxRecDepth 100000 in
set_option maxHeartbeats 4000000 in
theorem c_J6_bitCount_0f7a4 (G : hG) (fu : Nat) (x0 : Int32) (m : hM) : Mt vI G 1 yJ6_bitCount_0f7a4 cJ6_bitCount_0f7a4 1 (some .int) [.int x0] m (f_J6_bitCount_0f7a4 fu x0 m) := by
  refine mt_of (by decide +kernel) (Nat.le_of_ble_eq_true rfl) (fun X C K => ?_)
  have C : Cx G X 1 cJ6_bitCount_0f7a4 1 RJ6 (some .int) := C
  show Rf vI G X 0 [(0, .int x0)] [] m _
  unfold f_J6_bitCount_0f7a4
  refine rf_iload_n C (n := 1) (q := 0) dJ6_bitCount_0f7a4_0 rfl rfl rfl ?_
  refine rf_iload_n C (n := 2) (q := 0) dJ6_bitCount_0f7a4_1 rfl rfl rfl ?_
  refine rf_iconst C (n := 3) (v := 1) dJ6_bitCount_0f7a4_2 rfl (by decide) ?_
  refine rf_iushr C (n := 4) dJ6_bitCount_0f7a4_3 rfl ?_
  refine rf_ldcw C (n := 7) dJ6_bitCount_0f7a4_4 rfl kc_RJ6_265 ?_
  refine rf_iand C (n := 8) dJ6_bitCount_0f7a4_7 rfl ?_
  refine rf_isub C (n := 9) dJ6_bitCount_0f7a4_8 rfl ?_
  refine rf_letI (fun y1 => ?_)
  refine rf_istore_n C (n := 10) [(0, .int y1)] dJ6_bitCount_0f7a4_9 rfl rfl (by decide) rfl ?_
  refine rf_iload_n C (n := 11) (q := 0) dJ6_bitCount_0f7a4_10 rfl rfl rfl ?_
  refine rf_ldcw C (n := 14) dJ6_bitCount_0f7a4_11 rfl kc_RJ6_266 ?_
  refine rf_iand C (n := 15) dJ6_bitCount_0f7a4_14 rfl ?_
  refine rf_iload_n C (n := 16) (q := 0) dJ6_bitCount_0f7a4_15 rfl rfl rfl ?_
  refine rf_iconst C (n := 17) (v := 2) dJ6_bitCount_0f7a4_16 rfl (by decide) ?_
  refine rf_iushr C (n := 18) dJ6_bitCount_0f7a4_17 rfl ?_
  refine rf_ldcw C (n := 21) dJ6_bitCount_0f7a4_18 rfl kc_RJ6_266 ?_
  refine rf_iand C (n := 22) dJ6_bitCount_0f7a4_21 rfl ?_
  refine rf_iadd C (n := 23) dJ6_bitCount_0f7a4_22 rfl ?_
  refine rf_letI (fun y2 => ?_)
  refine rf_istore_n C (n := 24) [(0, .int y2)] dJ6_bitCount_0f7a4_23 rfl rfl (by decide) rfl ?_
  refine rf_iload_n C (n := 25) (q := 0) dJ6_bitCount_0f7a4_24 rfl rfl rfl ?_
  refine rf_iload_n C (n := 26) (q := 0) dJ6_bitCount_0f7a4_25 rfl rfl rfl ?_
  refine rf_iconst C (n := 27) (v := 4) dJ6_bitCount_0f7a4_26 rfl (by decide) ?_
  refine rf_iushr C (n := 28) dJ6_bitCount_0f7a4_27 rfl ?_
  refine rf_iadd C (n := 29) dJ6_bitCount_0f7a4_28 rfl ?_
  refine rf_ldcw C (n := 32) dJ6_bitCount_0f7a4_29 rfl kc_RJ6_267 ?_
  refine rf_iand C (n := 33) dJ6_bitCount_0f7a4_32 rfl ?_
  refine rf_letI (fun y3 => ?_)
  refine rf_istore_n C (n := 34) [(0, .int y3)] dJ6_bitCount_0f7a4_33 rfl rfl (by decide) rfl ?_
  refine rf_iload_n C (n := 35) (q := 0) dJ6_bitCount_0f7a4_34 rfl rfl rfl ?_
  refine rf_iload_n C (n := 36) (q := 0) dJ6_bitCount_0f7a4_35 rfl rfl rfl ?_
  refine rf_bipush C (n := 38) (v := 8) dJ6_bitCount_0f7a4_36 rfl (by decide) ?_
  refine rf_iushr C (n := 39) dJ6_bitCount_0f7a4_38 rfl ?_
  refine rf_iadd C (n := 40) dJ6_bitCount_0f7a4_39 rfl ?_
  refine rf_letI (fun y4 => ?_)
  refine rf_istore_n C (n := 41) [(0, .int y4)] dJ6_bitCount_0f7a4_40 rfl rfl (by decide) rfl ?_
  refine rf_iload_n C (n := 42) (q := 0) dJ6_bitCount_0f7a4_41 rfl rfl rfl ?_
  refine rf_iload_n C (n := 43) (q := 0) dJ6_bitCount_0f7a4_42 rfl rfl rfl ?_
  refine rf_bipush C (n := 45) (v := 16) dJ6_bitCount_0f7a4_43 rfl (by decide) ?_
  refine rf_iushr C (n := 46) dJ6_bitCount_0f7a4_45 rfl ?_
  refine rf_iadd C (n := 47) dJ6_bitCount_0f7a4_46 rfl ?_
  refine rf_letI (fun y5 => ?_)
  refine rf_istore_n C (n := 48) [(0, .int y5)] dJ6_bitCount_0f7a4_47 rfl rfl (by decide) rfl ?_
  refine rf_iload_n C (n := 49) (q := 0) dJ6_bitCount_0f7a4_48 rfl rfl rfl ?_
  refine rf_bipush C (n := 51) (v := 63) dJ6_bitCount_0f7a4_49 rfl (by decide) ?_
  refine rf_iand C (n := 52) dJ6_bitCount_0f7a4_51 rfl ?_
  exact rf_iret C K dJ6_bitCount_0f7a4_52
noncomputable def f_X8_canWork (fu : Nat) (x1 : Int32) (x2 : Int32) (m : hM) : Option (Int32 × hM) :=
  if hIn x2 6 then (
if hIn x1 8 then (
if ¬ (((gI m (6 + 2 * (Int32.toNatClampNeg x2)) 5) >>> ((gI m 19 (Int32.toNatClampNeg x1)) &&& 31)) &&& 1) = 1 then (
some (0, m)) else (
some (1, m))) else none) else none
set_option maxRecDepth 100000 in
set_option maxHeartbeats 4000000 in
theorem c_X8_canWork (G : hG) (fu : Nat) (x1 : Int32) (x2 : Int32) (m : hM) : Mt vI G 1 yX8_canWork cX8_canWork 3 (some .boolean) [hA G 32, .int x1, .int x2] m (f_X8_canWork fu x1 x2 m) := by
  refine mt_of (by decide +kernel) (Nat.le_of_ble_eq_true rfl) (fun X C K => ?_)
  have C : Cx G X 1 cX8_canWork 3 RX8 (some .boolean) := C
  show Rf vI G X 0 [(0, hA G 32), (1, .int x1), (2, .int x2)] [] m _
  unfold f_X8_canWork
  refine rf_aload_n C (n := 1) (q := 0) dX8_canWork_0 rfl rfl rfl ?_
  refine rf_getS C (n := 4) fl_RX8_29 ly_32 rfl dX8_canWork_1 rfl ?_
  refine rf_getS C (n := 7) fl_RX8_97 ly_1 rfl dX8_canWork_4 rfl ?_
  refine rf_iload_n C (n := 8) (q := 2) dX8_canWork_7 rfl rfl rfl ?_
  refine rf_guard (fun h1 => ?_)
  refine rf_aaldO C (n := 9) ly_2 h1 (of_r h1) dX8_canWork_8 rfl ?_
  refine rf_getI C (n := 12) fl_RX8_110 (pO_l (of_o h1)) rfl dX8_canWork_9 rfl ?_
  refine rf_aload_n C (n := 13) (q := 0) dX8_canWork_12 rfl rfl rfl ?_
  refine rf_getS C (n := 16) fl_RX8_33 ly_32 rfl dX8_canWork_13 rfl ?_
  refine rf_getS C (n := 19) fl_RX8_113 ly_18 rfl dX8_canWork_16 rfl ?_
  refine rf_iload_n C (n := 20) (q := 1) dX8_canWork_19 rfl rfl rfl ?_
  refine rf_guard (fun h2 => ?_)
  refine rf_iald C (n := 21) ly_19 h2 rfl dX8_canWork_20 rfl ?_
  refine rf_ishr C (n := 22) dX8_canWork_21 rfl ?_
  refine rf_iconst C (n := 23) (v := 1) dX8_canWork_22 rfl (by decide) ?_
  refine rf_iand C (n := 24) dX8_canWork_23 rfl ?_
  refine rf_iconst C (n := 25) (v := 1) dX8_canWork_24 rfl (by decide) ?_
  refine rf_icmp_ne C (tgt := 32) (n := 28) dX8_canWork_25 (by decide) rfl (fun h3 => ?_) (fun h3 => ?_)
  · refine rf_iconst C (n := 33) (v := 0) dX8_canWork_32 rfl (by decide) ?_
    exact rf_zret C K (by decide) dX8_canWork_33
  · refine rf_iconst C (n := 29) (v := 1) dX8_canWork_28 rfl (by decide) ?_
    refine rf_goto C (n := 33) dX8_canWork_29 (by decide) ?_
    exact rf_zret C K (by decide) dX8_canWork_33
noncomputable def f_X8_letterFor (fu : Nat) (x1 : Int32) (a2 : Nat) (x3 : Int32) (x4 : Int32) (x5 : Int32) (m : hM) : Option (Int32 × hM) :=
  if a2 ∈ stL then (if hIn x3 8 then (
hLet (gI m (a2 + 1) (Int32.toNatClampNeg x3)) fun y2 =>
if x1 = 98 then (
if hIn x3 8 then (
if ¬ (gI m 23 (Int32.toNatClampNeg x3)) = x4 then (
some (0, m)) else (
some (1, m))) else none) else if x1 = 99 then (
hBd (f_X8_canWork fu x3 x4 m) fun y7 m8 =>
if y7 = 0 then (
some (0, m8)) else (
some (1, m8))) else if x1 = 102 then (
if hIn x3 8 then (
some (gI m (a2 + 2) (Int32.toNatClampNeg x3), m)) else none) else if x1 = 107 then (
if hIn ((y2 * 6) + x4) 36 then (
some (gI m 3 (Int32.toNatClampNeg ((y2 * 6) + x4)), m)) else none) else if x1 = 108 then (
hBd (f_X0_bothFrom fu y2 x4 x5 m) fun y15 m16 =>
hBd (f_X0_lostBy fu y2 x4 y15 m16) fun y17 m18 =>
some (y17, m18)) else if x1 = 111 then (
hBd (f_X0_bothFrom fu y2 x4 x5 m) fun y20 m21 =>
hBd (f_J6_bitCount_0f7a4 fu y20 m21) fun y22 m23 =>
some (y22, m23)) else if x1 = 112 then (
if hIn x4 6 then (
some (gI m (6 + 2 * (Int32.toNatClampNeg x4)) 3, m)) else none) else if x1 = 113 then (
if hIn x3 8 then (
if ¬ (gI m 24 (Int32.toNatClampNeg x3)) = x4 then (
some (0, m)) else (
some (1, m))) else none) else if x1 = 114 then (
hBd (f_X0_nextWork fu x4 x5 m) fun y30 m31 =>
some (y30, m31)) else if x1 = 115 then (
if ¬ y2 = x4 then (
some (0, m)) else (
some (1, m))) else if x1 = 119 then (
if hIn x5 2560 then (
some (((gI m 4 (Int32.toNatClampNeg x5)) >>> (x4 &&& 31)) &&& 1, m)) else none) else (
some (x4, m))) else none) else none
set_option maxRecDepth 100000 in
set_option maxHeartbeats 4000000 in
theorem c_X8_letterFor (G : hG) (fu : Nat) (x1 : Int32) (a2 : Nat) (x3 : Int32) (x4 : Int32) (x5 : Int32) (m : hM) : Mt vI G 3 yX8_letterFor cX8_letterFor 7 (some .int) [hA G 32, .int x1, hA G a2, .int x3, .int x4, .int x5] m (f_X8_letterFor fu x1 a2 x3 x4 x5 m) := by
  refine mt_of (by decide +kernel) (Nat.le_of_ble_eq_true rfl) (fun X C K => ?_)
  have C : Cx G X 3 cX8_letterFor 7 RX8 (some .int) := C
  show Rf vI G X 0 [(0, hA G 32), (1, .int x1), (2, hA G a2), (3, .int x3), (4, .int x4), (5, .int x5)] [] m _
  unfold f_X8_letterFor
  refine rf_guard (fun ha2 => ?_)
  refine rf_aload_n C (n := 1) (q := 2) dX8_letterFor_0 rfl rfl rfl ?_
  refine rf_getS C (n := 4) fl_RX8_84 (pS_l ha2) rfl dX8_letterFor_1 rfl ?_
  refine rf_iload_n C (n := 5) (q := 3) dX8_letterFor_4 rfl rfl rfl ?_
  refine rf_guard (fun h1 => ?_)
  refine rf_iald C (n := 6) (st_a1 ha2) h1 rfl dX8_letterFor_5 rfl ?_
  refine rf_letI (fun y2 => ?_)
  refine rf_istore C (n := 8) [(6, .int y2), (0, hA G 32), (1, .int x1), (2, hA G a2), (3, .int x3), (4, .int x4), (5, .int x5)] dX8_letterFor_6 rfl (by decide) rfl ?_
  refine rf_iload_n C (n := 9) (q := 2) dX8_letterFor_8 rfl rfl rfl ?_
  refine rf_sw (fun h3 => ?_) (fun h3 => ?_)
  · refine rf_tabIn C (n := 228) (off := 219) dX8_letterFor_9 h3 (by decide) (by decide) (by decide) (by decide) ?_
    refine rf_aload_n C (n := 229) (q := 1) dX8_letterFor_228 rfl rfl rfl ?_
    refine rf_getS C (n := 232) fl_RX8_33 ly_32 rfl dX8_letterFor_229 rfl ?_
    refine rf_getS C (n := 235) fl_RX8_199 ly_18 rfl dX8_letterFor_232 rfl ?_
    refine rf_iload_n C (n := 236) (q := 4) dX8_letterFor_235 rfl rfl rfl ?_
    refine rf_guard (fun h4 => ?_)
    refine rf_iald C (n := 237) ly_23 h4 rfl dX8_letterFor_236 rfl ?_
    refine rf_iload C (n := 239) (q := 5) dX8_letterFor_237 rfl rfl ?_
    refine rf_icmp_ne C (tgt := 246) (n := 242) dX8_letterFor_239 (by decide) rfl (fun h5 => ?_) (fun h5 => ?_)
    · refine rf_iconst C (n := 247) (v := 0) dX8_letterFor_246 rfl (by decide) ?_
      exact rf_iret C K dX8_letterFor_247
    · refine rf_iconst C (n := 243) (v := 1) dX8_letterFor_242 rfl (by decide) ?_
      refine rf_goto C (n := 247) dX8_letterFor_243 (by decide) ?_
      exact rf_iret C K dX8_letterFor_247
  refine rf_sw (fun h6 => ?_) (fun h6 => ?_)
  · refine rf_tabIn C (n := 199) (off := 190) dX8_letterFor_9 h6 (by decide) (by decide) (by decide) (by decide) ?_
    refine rf_aload_n C (n := 200) (q := 1) dX8_letterFor_199 rfl rfl rfl ?_
    refine rf_iload_n C (n := 201) (q := 4) dX8_letterFor_200 rfl rfl rfl ?_
    refine rf_iload C (n := 203) (q := 5) dX8_letterFor_201 rfl rfl ?_
    refine rf_callVi C (n := 206) (c_X8_canWork G fu _ _ _) mw_RX8_93 ly_32 rfl ⟨by decide, by decide⟩ rfl (Nat.le_of_ble_eq_true rfl) rfl dX8_letterFor_203 rfl (fun y7 m8 => ?_)
    refine rf_if_eq C (tgt := 213) (n := 209) dX8_letterFor_206 (by decide) rfl (fun h9 => ?_) (fun h9 => ?_)
    · refine rf_iconst C (n := 214) (v := 0) dX8_letterFor_213 rfl (by decide) ?_
      exact rf_iret C K dX8_letterFor_214
    · refine rf_iconst C (n := 210) (v := 1) dX8_letterFor_209 rfl (by decide) ?_
      refine rf_goto C (n := 214) dX8_letterFor_210 (by decide) ?_
      exact rf_iret C K dX8_letterFor_214
  refine rf_sw (fun h10 => ?_) (fun h10 => ?_)
  · refine rf_tabIn C (n := 282) (off := 273) dX8_letterFor_9 h10 (by decide) (by decide) (by decide) (by decide) ?_
    refine rf_aload_n C (n := 283) (q := 3) dX8_letterFor_282 rfl rfl rfl ?_
    refine rf_getS C (n := 286) fl_RX8_123 (pS_l ha2) rfl dX8_letterFor_283 rfl ?_
    refine rf_iload_n C (n := 287) (q := 4) dX8_letterFor_286 rfl rfl rfl ?_
    refine rf_guard (fun h11 => ?_)
    refine rf_iald C (n := 288) (st_a2 ha2) h11 rfl dX8_letterFor_287 rfl ?_
    exact rf_iret C K dX8_letterFor_288
  refine rf_sw (fun h12 => ?_) (fun h12 => ?_)
  · refine rf_tabIn C (n := 112) (off := 103) dX8_letterFor_9 h12 (by decide) (by decide) (by decide) (by decide) ?_
    refine rf_aload_n C (n := 113) (q := 1) dX8_letterFor_112 rfl rfl rfl ?_
    refine rf_getS C (n := 116) fl_RX8_29 ly_32 rfl dX8_letterFor_113 rfl ?_
    refine rf_getS C (n := 119) fl_RX8_187 ly_1 rfl dX8_letterFor_116 rfl ?_
    refine rf_iload C (n := 121) (q := 0) dX8_letterFor_119 rfl rfl ?_
    refine rf_bipush C (n := 123) (v := 6) dX8_letterFor_121 rfl (by decide) ?_
    refine rf_imul C (n := 124) dX8_letterFor_123 rfl ?_
    refine rf_iload C (n := 126) (q := 5) dX8_letterFor_124 rfl rfl ?_
    refine rf_iadd C (n := 127) dX8_letterFor_126 rfl ?_
    refine rf_guard (fun h13 => ?_)
    refine rf_iald C (n := 128) ly_3 h13 rfl dX8_letterFor_127 rfl ?_
    exact rf_iret C K dX8_letterFor_128
  refine rf_sw (fun h14 => ?_) (fun h14 => ?_)
  · refine rf_tabIn C (n := 129) (off := 120) dX8_letterFor_9 h14 (by decide) (by decide) (by decide) (by decide) ?_
    refine rf_aload_n C (n := 130) (q := 1) dX8_letterFor_129 rfl rfl rfl ?_
    refine rf_getS C (n := 133) fl_RX8_29 ly_32 rfl dX8_letterFor_130 rfl ?_
    refine rf_iload C (n := 135) (q := 0) dX8_letterFor_133 rfl rfl ?_
    refine rf_iload C (n := 137) (q := 5) dX8_letterFor_135 rfl rfl ?_
    refine rf_aload_n C (n := 138) (q := 1) dX8_letterFor_137 rfl rfl rfl ?_
    refine rf_getS C (n := 141) fl_RX8_29 ly_32 rfl dX8_letterFor_138 rfl ?_
    refine rf_iload C (n := 143) (q := 0) dX8_letterFor_141 rfl rfl ?_
    refine rf_iload C (n := 145) (q := 5) dX8_letterFor_143 rfl rfl ?_
    refine rf_iload C (n := 147) (q := 6) dX8_letterFor_145 rfl rfl ?_
    refine rf_callVi C (n := 150) (c_X0_bothFrom G fu _ _ _ _) mw_RX8_143 ly_1 rfl ⟨by decide, by decide⟩ rfl (Nat.le_of_ble_eq_true rfl) rfl dX8_letterFor_147 rfl (fun y15 m16 => ?_)
    refine rf_callVi C (n := 153) (c_X0_lostBy G fu _ _ _ _) mw_RX8_147 ly_1 rfl ⟨by decide, by decide⟩ rfl (Nat.le_of_ble_eq_true rfl) rfl dX8_letterFor_150 rfl (fun y17 m18 => ?_)
    exact rf_iret C K dX8_letterFor_153
  refine rf_sw (fun h19 => ?_) (fun h19 => ?_)
  · refine rf_tabIn C (n := 154) (off := 145) dX8_letterFor_9 h19 (by decide) (by decide) (by decide) (by decide) ?_
    refine rf_aload_n C (n := 155) (q := 1) dX8_letterFor_154 rfl rfl rfl ?_
    refine rf_getS C (n := 158) fl_RX8_29 ly_32 rfl dX8_letterFor_155 rfl ?_
    refine rf_iload C (n := 160) (q := 0) dX8_letterFor_158 rfl rfl ?_
    refine rf_iload C (n := 162) (q := 5) dX8_letterFor_160 rfl rfl ?_
    refine rf_iload C (n := 164) (q := 6) dX8_letterFor_162 rfl rfl ?_
    refine rf_callVi C (n := 167) (c_X0_bothFrom G fu _ _ _ _) mw_RX8_143 ly_1 rfl ⟨by decide, by decide⟩ rfl (Nat.le_of_ble_eq_true rfl) rfl dX8_letterFor_164 rfl (fun y20 m21 => ?_)
    refine rf_callSi C (n := 170) (c_J6_bitCount_0f7a4 G fu _ _) sw_RX8_190 ⟨by decide, by decide⟩ rfl (Nat.le_of_ble_eq_true rfl) rfl dX8_letterFor_167 rfl (fun y22 m23 => ?_)
    exact rf_iret C K dX8_letterFor_170
  refine rf_sw (fun h24 => ?_) (fun h24 => ?_)
  · refine rf_tabIn C (n := 268) (off := 259) dX8_letterFor_9 h24 (by decide) (by decide) (by decide) (by decide) ?_
    refine rf_aload_n C (n := 269) (q := 1) dX8_letterFor_268 rfl rfl rfl ?_
    refine rf_getS C (n := 272) fl_RX8_29 ly_32 rfl dX8_letterFor_269 rfl ?_
    refine rf_getS C (n := 275) fl_RX8_97 ly_1 rfl dX8_letterFor_272 rfl ?_
    refine rf_iload C (n := 277) (q := 5) dX8_letterFor_275 rfl rfl ?_
    refine rf_guard (fun h25 => ?_)
    refine rf_aaldO C (n := 278) ly_2 h25 (of_r h25) dX8_letterFor_277 rfl ?_
    refine rf_getI C (n := 281) fl_RX8_122 (pO_l (of_o h25)) rfl dX8_letterFor_278 rfl ?_
    exact rf_iret C K dX8_letterFor_281
  refine rf_sw (fun h26 => ?_) (fun h26 => ?_)
  · refine rf_tabIn C (n := 248) (off := 239) dX8_letterFor_9 h26 (by decide) (by decide) (by decide) (by decide) ?_
    refine rf_aload_n C (n := 249) (q := 1) dX8_letterFor_248 rfl rfl rfl ?_
    refine rf_getS C (n := 252) fl_RX8_33 ly_32 rfl dX8_letterFor_249 rfl ?_
    refine rf_getS C (n := 255) fl_RX8_90 ly_18 rfl dX8_letterFor_252 rfl ?_
    refine rf_iload_n C (n := 256) (q := 4) dX8_letterFor_255 rfl rfl rfl ?_
    refine rf_guard (fun h27 => ?_)
    refine rf_iald C (n := 257) ly_24 h27 rfl dX8_letterFor_256 rfl ?_
    refine rf_iload C (n := 259) (q := 5) dX8_letterFor_257 rfl rfl ?_
    refine rf_icmp_ne C (tgt := 266) (n := 262) dX8_letterFor_259 (by decide) rfl (fun h28 => ?_) (fun h28 => ?_)
    · refine rf_iconst C (n := 267) (v := 0) dX8_letterFor_266 rfl (by decide) ?_
      exact rf_iret C K dX8_letterFor_267
    · refine rf_iconst C (n := 263) (v := 1) dX8_letterFor_262 rfl (by decide) ?_
      refine rf_goto C (n := 267) dX8_letterFor_263 (by decide) ?_
      exact rf_iret C K dX8_letterFor_267
  refine rf_sw (fun h29 => ?_) (fun h29 => ?_)
  · refine rf_tabIn C (n := 187) (off := 178) dX8_letterFor_9 h29 (by decide) (by decide) (by decide) (by decide) ?_
    refine rf_aload_n C (n := 188) (q := 1) dX8_letterFor_187 rfl rfl rfl ?_
    refine rf_getS C (n := 191) fl_RX8_29 ly_32 rfl dX8_letterFor_188 rfl ?_
    refine rf_iload C (n := 193) (q := 5) dX8_letterFor_191 rfl rfl ?_
    refine rf_iload C (n := 195) (q := 6) dX8_letterFor_193 rfl rfl ?_
    refine rf_callVi C (n := 198) (c_X0_nextWork G fu _ _ _) mw_RX8_196 ly_1 rfl ⟨by decide, by decide⟩ rfl (Nat.le_of_ble_eq_true rfl) rfl dX8_letterFor_195 rfl (fun y30 m31 => ?_)
    exact rf_iret C K dX8_letterFor_198
  refine rf_sw (fun h32 => ?_) (fun h32 => ?_)
  · refine rf_tabIn C (n := 215) (off := 206) dX8_letterFor_9 h32 (by decide) (by decide) (by decide) (by decide) ?_
    refine rf_iload C (n := 217) (q := 0) dX8_letterFor_215 rfl rfl ?_
    refine rf_iload C (n := 219) (q := 5) dX8_letterFor_217 rfl rfl ?_
    refine rf_icmp_ne C (tgt := 226) (n := 222) dX8_letterFor_219 (by decide) rfl (fun h33 => ?_) (fun h33 => ?_)
    · refine rf_iconst C (n := 227) (v := 0) dX8_letterFor_226 rfl (by decide) ?_
      exact rf_iret C K dX8_letterFor_227
    · refine rf_iconst C (n := 223) (v := 1) dX8_letterFor_222 rfl (by decide) ?_
      refine rf_goto C (n := 227) dX8_letterFor_223 (by decide) ?_
      exact rf_iret C K dX8_letterFor_227
  refine rf_sw (fun h34 => ?_) (fun h34 => ?_)
  · refine rf_tabIn C (n := 171) (off := 162) dX8_letterFor_9 h34 (by decide) (by decide) (by decide) (by decide) ?_
    refine rf_aload_n C (n := 172) (q := 1) dX8_letterFor_171 rfl rfl rfl ?_
    refine rf_getS C (n := 175) fl_RX8_29 ly_32 rfl dX8_letterFor_172 rfl ?_
    refine rf_getS C (n := 178) fl_RX8_61 ly_1 rfl dX8_letterFor_175 rfl ?_
    refine rf_iload C (n := 180) (q := 6) dX8_letterFor_178 rfl rfl ?_
    refine rf_guard (fun h35 => ?_)
    refine rf_iald C (n := 181) ly_4 h35 rfl dX8_letterFor_180 rfl ?_
    refine rf_iload C (n := 183) (q := 5) dX8_letterFor_181 rfl rfl ?_
    refine rf_ishr C (n := 184) dX8_letterFor_183 rfl ?_
    refine rf_iconst C (n := 185) (v := 1) dX8_letterFor_184 rfl (by decide) ?_
    refine rf_iand C (n := 186) dX8_letterFor_185 rfl ?_
    exact rf_iret C K dX8_letterFor_186
  refine rf_tabD C (n := 289) dX8_letterFor_9 [98, 99, 102, 107, 108, 111, 112, 113, 114, 115, 119] (by intro c hc; simp only [List.mem_cons, List.not_mem_nil, or_false] at hc; rcases hc with rfl | rfl | rfl | rfl | rfl | rfl | rfl | rfl | rfl | rfl | rfl <;> assumption) (by decide) (by decide) (by decide) ?_
  refine rf_iload C (n := 291) (q := 5) dX8_letterFor_289 rfl rfl ?_
  exact rf_iret C K dX8_letterFor_291
noncomputable def f_X8_valueFor_107 (fu : Nat) (m : hM) : Option (Int32 × hM) :=
  hBd (f_X5_pop fu m) fun y3 m4 =>
some (y3, m4)
set_option maxRecDepth 100000 in
set_option maxHeartbeats 4000000 in
theorem r_X8_valueFor_107 {G : hG} {X : hX} (C : Cx G X 4 cX8_valueFor 7 RX8 (some .int)) (K : Cr G X) (fu : Nat) (m : hM) : Rf vI G X 107 [(0, hA G 32)] [] m (f_X8_valueFor_107 fu m) := by
  unfold f_X8_valueFor_107
  refine rf_aload_n C (n := 108) (q := 0) dX8_valueFor_107 rfl rfl rfl ?_
  refine rf_getS C (n := 111) fl_RX8_37 ly_32 rfl dX8_valueFor_108 rfl ?_
  refine rf_callVi C (n := 114) (c_X5_pop G fu _) mw_RX8_183 ly_25 rfl ⟨by decide, by decide⟩ rfl (Nat.le_of_ble_eq_true rfl) rfl dX8_valueFor_111 rfl (fun y3 m4 => ?_)
  exact rf_iret C K dX8_valueFor_114
noncomputable def f_X8_valueFor_101 (fu : Nat) (k11 : Nat → Int32 → Int32 → Int32 → Int32 → hM → Option (Int32 × hM)) (a1 : Nat) (x2 : Int32) (x3 : Int32) (x4 : Int32) (x5 : Int32) (m : hM) : Option (Int32 × hM) :=
  hLet (x5 + 1) fun y10 =>
k11 a1 x2 x3 x4 y10 m
set_option maxRecDepth 100000 in
set_option maxHeartbeats 4000000 in
theorem r_X8_valueFor_101 {G : hG} {X : hX} (C : Cx G X 4 cX8_valueFor 7 RX8 (some .int)) (K : Cr G X) (fu : Nat) (k11 : Nat → Int32 → Int32 → Int32 → Int32 → hM → Option (Int32 × hM)) (hk11 : ∀ (a1 : Nat) (ha1 : a1 ∈ stL) (x2 : Int32) (x3 : Int32) (x4 : Int32) (x5 : Int32) (m : hM), Rf vI G X 11 [(0, hA G 32), (1, hA G a1), (2, .int x2), (3, .int x3), (4, .int x4), (5, .int x5)] [] m (k11 a1 x2 x3 x4 x5 m)) (a1 : Nat) (ha1 : a1 ∈ stL) (x2 : Int32) (x3 : Int32) (x4 : Int32) (x5 : Int32) (m : hM) : Rf vI G X 101 [(0, hA G 32), (1, hA G a1), (2, .int x2), (3, .int x3), (4, .int x4), (5, .int x5)] [] m (f_X8_valueFor_101 fu k11 a1 x2 x3 x4 x5 m) := by
  unfold f_X8_valueFor_101
  refine rf_iinc2 C (n := 104) (q := 5) (fun y10 => [(5, .int y10), (0, hA G 32), (1, hA G a1), (2, .int x2), (3, .int x3), (4, .int x4)]) dX8_valueFor_101 rfl rfl (by decide) (by decide) (fun _ => rfl) (fun y10 => ?_)
  refine rf_goto C (n := 11) dX8_valueFor_104 (by decide) ?_
  exact rf_lv _ [1, 2, 3, 4, 5, 0] rfl (hk11 _ ha1 _ _ _ _ _)
noncomputable def s_X8_valueFor_11 (fu : Nat) (ih : Nat → Int32 → Int32 → Int32 → Int32 → hM → Option (Int32 × hM)) (a1 : Nat) (x2 : Int32) (x3 : Int32) (x4 : Int32) (x5 : Int32) (m : hM) : Option (Int32 × hM) :=
  if (gI m 25 1) ≤ x5 then (
f_X8_valueFor_107 fu m) else (
if hIn x5 40 then (
hLet (gI m 26 (Int32.toNatClampNeg x5)) fun y6 =>
if y6 < 2000 then (
if y6 < 1000 then (
hBd (f_X5_push fu y6 m) fun _ m9 =>
f_X8_valueFor_101 fu ih a1 x2 x3 x4 x5 m9) else (
hBd (f_X8_letterFor fu (y6 - 1000) a1 x2 x3 x4 m) fun y11 m12 =>
hBd (f_X5_push fu y11 m12) fun _ m13 =>
f_X8_valueFor_101 fu ih a1 x2 x3 x4 x5 m13)) else (
hBd (f_X5_apply fu (y6 - 2000) m) fun _ m14 =>
f_X8_valueFor_101 fu ih a1 x2 x3 x4 x5 m14)) else none)
noncomputable def f_X8_valueFor_11 (fu : Nat) (n : Nat) : Nat → Int32 → Int32 → Int32 → Int32 → hM → Option (Int32 × hM) :=
  Nat.rec (motive := fun _ => Nat → Int32 → Int32 → Int32 → Int32 → hM → Option (Int32 × hM)) (fun _ _ _ _ _ _ => none) (fun _ ih => s_X8_valueFor_11 fu ih) n
theorem f_X8_valueFor_11_s (fu : Nat) (n : Nat) (a1 : Nat) (x2 : Int32) (x3 : Int32) (x4 : Int32) (x5 : Int32) (m : hM) : f_X8_valueFor_11 fu (n + 1) a1 x2 x3 x4 x5 m = s_X8_valueFor_11 fu (f_X8_valueFor_11 fu n) a1 x2 x3 x4 x5 m := rfl
set_option maxRecDepth 100000 in
set_option maxHeartbeats 4000000 in
theorem r_X8_valueFor_11 {G : hG} {X : hX} (C : Cx G X 4 cX8_valueFor 7 RX8 (some .int)) (K : Cr G X) (fu : Nat) (n : Nat) : ∀ (a1 : Nat) (ha1 : a1 ∈ stL) (x2 : Int32) (x3 : Int32) (x4 : Int32) (x5 : Int32) (m : hM), Rf vI G X 11 [(0, hA G 32), (1, hA G a1), (2, .int x2), (3, .int x3), (4, .int x4), (5, .int x5)] [] m (f_X8_valueFor_11 fu n a1 x2 x3 x4 x5 m) := by
  induction n with
  | zero => intros; exact rf_none
  | succ n ih =>
    intro a1 ha1 x2 x3 x4 x5 m
    show Rf vI G X 11 [(0, hA G 32), (1, hA G a1), (2, .int x2), (3, .int x3), (4, .int x4), (5, .int x5)] [] m (s_X8_valueFor_11 fu (f_X8_valueFor_11 fu n) a1 x2 x3 x4 x5 m)
    unfold s_X8_valueFor_11
    refine rf_iload C (n := 13) (q := 5) dX8_valueFor_11 rfl rfl ?_
    refine rf_aload_n C (n := 14) (q := 0) dX8_valueFor_13 rfl rfl rfl ?_
    refine rf_getS C (n := 17) fl_RX8_37 ly_32 rfl dX8_valueFor_14 rfl ?_
    refine rf_getI C (n := 20) fl_RX8_70 ly_25 rfl dX8_valueFor_17 rfl ?_
    refine rf_icmp_ge C (tgt := 107) (n := 23) dX8_valueFor_20 (by decide) rfl (fun h2 => ?_) (fun h2 => ?_)
    · exact rf_lv _ [0] rfl (r_X8_valueFor_107 C K fu _)
    · refine rf_aload_n C (n := 24) (q := 0) dX8_valueFor_23 rfl rfl rfl ?_
      refine rf_getS C (n := 27) fl_RX8_37 ly_32 rfl dX8_valueFor_24 rfl ?_
      refine rf_getS C (n := 30) fl_RX8_169 ly_25 rfl dX8_valueFor_27 rfl ?_
      refine rf_iload C (n := 32) (q := 5) dX8_valueFor_30 rfl rfl ?_
      refine rf_guard (fun h5 => ?_)
      refine rf_iald C (n := 33) ly_26 h5 rfl dX8_valueFor_32 rfl ?_
      refine rf_letI (fun y6 => ?_)
      refine rf_istore C (n := 35) [(6, .int y6), (0, hA G 32), (1, hA G a1), (2, .int x2), (3, .int x3), (4, .int x4), (5, .int x5)] dX8_valueFor_33 rfl (by decide) rfl ?_
      refine rf_iload C (n := 37) (q := 0) dX8_valueFor_35 rfl rfl ?_
      refine rf_sipush C (n := 40) (v := 2000) dX8_valueFor_37 rfl (by decide) ?_
      refine rf_icmp_lt C (tgt := 59) (n := 43) dX8_valueFor_40 (by decide) rfl (fun h7 => ?_) (fun h7 => ?_)
      · refine rf_iload C (n := 61) (q := 0) dX8_valueFor_59 rfl rfl ?_
        refine rf_sipush C (n := 64) (v := 1000) dX8_valueFor_61 rfl (by decide) ?_
        refine rf_icmp_lt C (tgt := 92) (n := 67) dX8_valueFor_64 (by decide) rfl (fun h8 => ?_) (fun h8 => ?_)
        · refine rf_aload_n C (n := 93) (q := 1) dX8_valueFor_92 rfl rfl rfl ?_
          refine rf_getS C (n := 96) fl_RX8_37 ly_32 rfl dX8_valueFor_93 rfl ?_
          refine rf_iload C (n := 98) (q := 0) dX8_valueFor_96 rfl rfl ?_
          refine rf_callVv C (n := 101) (c_X5_push G fu _ _) mw_RX8_180 ly_25 rfl ⟨by decide, by decide⟩ rfl (Nat.le_of_ble_eq_true rfl) rfl dX8_valueFor_98 rfl (fun _ m9 => ?_)
          exact rf_lv _ [1, 2, 3, 4, 5, 6] rfl (r_X8_valueFor_101 C K fu _ ih _ ha1 _ _ _ _ _)
        · refine rf_aload_n C (n := 68) (q := 1) dX8_valueFor_67 rfl rfl rfl ?_
          refine rf_getS C (n := 71) fl_RX8_37 ly_32 rfl dX8_valueFor_68 rfl ?_
          refine rf_aload_n C (n := 72) (q := 1) dX8_valueFor_71 rfl rfl rfl ?_
          refine rf_iload C (n := 74) (q := 0) dX8_valueFor_72 rfl rfl ?_
          refine rf_sipush C (n := 77) (v := 1000) dX8_valueFor_74 rfl (by decide) ?_
          refine rf_isub C (n := 78) dX8_valueFor_77 rfl ?_
          refine rf_aload_n C (n := 79) (q := 2) dX8_valueFor_78 rfl rfl rfl ?_
          refine rf_iload_n C (n := 80) (q := 3) dX8_valueFor_79 rfl rfl rfl ?_
          refine rf_iload_n C (n := 81) (q := 4) dX8_valueFor_80 rfl rfl rfl ?_
          refine rf_iload C (n := 83) (q := 5) dX8_valueFor_81 rfl rfl ?_
          refine rf_callVi C (n := 86) (c_X8_letterFor G fu _ _ _ _ _ _) mw_RX8_176 ly_32 rfl ⟨by decide, by decide⟩ rfl (Nat.le_of_ble_eq_true rfl) rfl dX8_valueFor_83 rfl (fun y11 m12 => ?_)
          refine rf_callVv C (n := 89) (c_X5_push G fu _ _) mw_RX8_180 ly_25 rfl ⟨by decide, by decide⟩ rfl (Nat.le_of_ble_eq_true rfl) rfl dX8_valueFor_86 rfl (fun _ m13 => ?_)
          refine rf_goto C (n := 101) dX8_valueFor_89 (by decide) ?_
          exact rf_lv _ [1, 2, 3, 4, 5, 6] rfl (r_X8_valueFor_101 C K fu _ ih _ ha1 _ _ _ _ _)
      · refine rf_aload_n C (n := 44) (q := 1) dX8_valueFor_43 rfl rfl rfl ?_
        refine rf_getS C (n := 47) fl_RX8_37 ly_32 rfl dX8_valueFor_44 rfl ?_
        refine rf_iload C (n := 49) (q := 0) dX8_valueFor_47 rfl rfl ?_
        refine rf_sipush C (n := 52) (v := 2000) dX8_valueFor_49 rfl (by decide) ?_
        refine rf_isub C (n := 53) dX8_valueFor_52 rfl ?_
        refine rf_callVv C (n := 56) (c_X5_apply G fu _ _) mw_RX8_172 ly_25 rfl ⟨by decide, by decide⟩ rfl (Nat.le_of_ble_eq_true rfl) rfl dX8_valueFor_53 rfl (fun _ m14 => ?_)
        refine rf_goto C (n := 101) dX8_valueFor_56 (by decide) ?_
        exact rf_lv _ [1, 2, 3, 4, 5, 6] rfl (r_X8_valueFor_101 C K fu _ ih _ ha1 _ _ _ _ _)
noncomputable def f_X8_valueFor (fu : Nat) (a1 : Nat) (x2 : Int32) (x3 : Int32) (x4 : Int32) (m : hM) : Option (Int32 × hM) :=
  if a1 ∈ stL then (hLet (sI m 25 3 0) fun m1 =>
f_X8_valueFor_11 fu fu a1 x2 x3 x4 0 m1) else none
set_option maxRecDepth 100000 in
set_option maxHeartbeats 4000000 in
theorem c_X8_valueFor (G : hG) (fu : Nat) (a1 : Nat) (x2 : Int32) (x3 : Int32) (x4 : Int32) (m : hM) : Mt vI G 4 yX8_valueFor cX8_valueFor 7 (some .int) [hA G 32, hA G a1, .int x2, .int x3, .int x4] m (f_X8_valueFor fu a1 x2 x3 x4 m) := by
  refine mt_of (by decide +kernel) (Nat.le_of_ble_eq_true rfl) (fun X C K => ?_)
  have C : Cx G X 4 cX8_valueFor 7 RX8 (some .int) := C
  show Rf vI G X 0 [(0, hA G 32), (1, hA G a1), (2, .int x2), (3, .int x3), (4, .int x4)] [] m _
  unfold f_X8_valueFor
  refine rf_guard (fun ha1 => ?_)
  refine rf_aload_n C (n := 1) (q := 0) dX8_valueFor_0 rfl rfl rfl ?_
  refine rf_getS C (n := 4) fl_RX8_37 ly_32 rfl dX8_valueFor_1 rfl ?_
  refine rf_iconst C (n := 5) (v := 0) dX8_valueFor_4 rfl (by decide) ?_
  refine rf_putI C (n := 8) pl_RX8_166 ly_25 rfl ⟨rfl, rfl⟩ dX8_valueFor_5 rfl ?_
  refine rf_letM (fun m1 => ?_)
  refine rf_iconst C (n := 9) (v := 0) dX8_valueFor_8 rfl (by decide) ?_
  refine rf_istore C (n := 11) [(5, .int 0), (0, hA G 32), (1, hA G a1), (2, .int x2), (3, .int x3), (4, .int x4)] dX8_valueFor_9 rfl (by decide) rfl ?_
  exact rf_lv _ [1, 2, 3, 4, 5, 0] rfl (r_X8_valueFor_11 C K fu fu _ ha1 _ _ _ _ _)
noncomputable def f_X8_handReady_137 (fu : Nat) (k11 : Nat → Int32 → Int32 → Int32 → Int32 → hM → Option (Unit × hM)) (a1 : Nat) (x2 : Int32) (x3 : Int32) (x4 : Int32) (x5 : Int32) (m : hM) : Option (Unit × hM) :=
  hLet (x5 + 1) fun y4 =>
k11 a1 x2 x3 x4 y4 m
set_option maxRecDepth 100000 in
set_option maxHeartbeats 4000000 in
theorem r_X8_handReady_137 {G : hG} {X : hX} (C : Cx G X 5 cX8_handReady 10 RX8 none) (K : Cr G X) (fu : Nat) (k11 : Nat → Int32 → Int32 → Int32 → Int32 → hM → Option (Unit × hM)) (hk11 : ∀ (a1 : Nat) (ha1 : a1 ∈ stL) (x2 : Int32) (x3 : Int32) (x4 : Int32) (x5 : Int32) (m : hM), Rf vU G X 11 [(0, hA G 32), (1, hA G a1), (2, .int x2), (3, .int x3), (4, .int x4), (5, .int x5)] [] m (k11 a1 x2 x3 x4 x5 m)) (a1 : Nat) (ha1 : a1 ∈ stL) (x2 : Int32) (x3 : Int32) (x4 : Int32) (x5 : Int32) (m : hM) : Rf vU G X 137 [(0, hA G 32), (1, hA G a1), (2, .int x2), (3, .int x3), (4, .int x4), (5, .int x5)] [] m (f_X8_handReady_137 fu k11 a1 x2 x3 x4 x5 m) := by
  unfold f_X8_handReady_137
  refine rf_iinc2 C (n := 140) (q := 5) (fun y4 => [(5, .int y4), (0, hA G 32), (1, hA G a1), (2, .int x2), (3, .int x3), (4, .int x4)]) dX8_handReady_137 rfl rfl (by decide) (by decide) (fun _ => rfl) (fun y4 => ?_)
  refine rf_goto C (n := 11) dX8_handReady_140 (by decide) ?_
  exact rf_lv _ [1, 2, 3, 4, 5, 0] rfl (hk11 _ ha1 _ _ _ _ _)
noncomputable def f_X8_handReady_113 (fu : Nat) (k11 : Nat → Int32 → Int32 → Int32 → Int32 → hM → Option (Unit × hM)) (a1 : Nat) (x2 : Int32) (x3 : Int32) (x4 : Int32) (x5 : Int32) (x6 : Int32) (m : hM) : Option (Unit × hM) :=
  if hIn x5 8 then (
if x6 = (gI m (a1 + 1) (Int32.toNatClampNeg x5)) then (
f_X8_handReady_137 fu k11 a1 x2 x3 x4 x5 m) else (
hBd (f_X8_handTo fu a1 x5 x6 x4 m) fun y12 m13 =>
f_X8_handReady_137 fu k11 a1 x2 x3 x4 x5 m13)) else none
set_option maxRecDepth 100000 in
set_option maxHeartbeats 4000000 in
theorem r_X8_handReady_113 {G : hG} {X : hX} (C : Cx G X 5 cX8_handReady 10 RX8 none) (K : Cr G X) (fu : Nat) (k11 : Nat → Int32 → Int32 → Int32 → Int32 → hM → Option (Unit × hM)) (hk11 : ∀ (a1 : Nat) (ha1 : a1 ∈ stL) (x2 : Int32) (x3 : Int32) (x4 : Int32) (x5 : Int32) (m : hM), Rf vU G X 11 [(0, hA G 32), (1, hA G a1), (2, .int x2), (3, .int x3), (4, .int x4), (5, .int x5)] [] m (k11 a1 x2 x3 x4 x5 m)) (a1 : Nat) (ha1 : a1 ∈ stL) (x2 : Int32) (x3 : Int32) (x4 : Int32) (x5 : Int32) (x6 : Int32) (m : hM) : Rf vU G X 113 [(0, hA G 32), (1, hA G a1), (2, .int x2), (3, .int x3), (4, .int x4), (5, .int x5), (6, .int x6)] [] m (f_X8_handReady_113 fu k11 a1 x2 x3 x4 x5 x6 m) := by
  unfold f_X8_handReady_113
  refine rf_iload C (n := 115) (q := 6) dX8_handReady_113 rfl rfl ?_
  refine rf_aload_n C (n := 116) (q := 1) dX8_handReady_115 rfl rfl rfl ?_
  refine rf_getS C (n := 119) fl_RX8_84 (pS_l ha1) rfl dX8_handReady_116 rfl ?_
  refine rf_iload C (n := 121) (q := 5) dX8_handReady_119 rfl rfl ?_
  refine rf_guard (fun h10 => ?_)
  refine rf_iald C (n := 122) (st_a1 ha1) h10 rfl dX8_handReady_121 rfl ?_
  refine rf_icmp_eq C (tgt := 137) (n := 125) dX8_handReady_122 (by decide) rfl (fun h11 => ?_) (fun h11 => ?_)
  · exact rf_lv _ [0, 1, 2, 3, 4, 5] rfl (r_X8_handReady_137 C K fu _ hk11 _ ha1 _ _ _ _ _)
  · refine rf_aload_n C (n := 126) (q := 0) dX8_handReady_125 rfl rfl rfl ?_
    refine rf_aload_n C (n := 127) (q := 1) dX8_handReady_126 rfl rfl rfl ?_
    refine rf_iload C (n := 129) (q := 5) dX8_handReady_127 rfl rfl ?_
    refine rf_iload C (n := 131) (q := 6) dX8_handReady_129 rfl rfl ?_
    refine rf_iload C (n := 133) (q := 4) dX8_handReady_131 rfl rfl ?_
    refine rf_callVi C (n := 136) (c_X8_handTo G fu _ _ _ _ _) mw_RX8_140 ly_32 rfl ⟨by decide, by decide⟩ rfl (Nat.le_of_ble_eq_true rfl) rfl dX8_handReady_133 rfl (fun y12 m13 => ?_)
    refine rf_pop C (n := 137) dX8_handReady_136 rfl rfl ?_
    exact rf_lv _ [0, 1, 2, 3, 4, 5] rfl (r_X8_handReady_137 C K fu _ hk11 _ ha1 _ _ _ _ _)
noncomputable def f_X8_handReady_107 (fu : Nat) (k11 : Nat → Int32 → Int32 → Int32 → Int32 → hM → Option (Unit × hM)) (k67 : Nat → Int32 → Int32 → Int32 → Int32 → Int32 → Int32 → Int32 → hM → Option (Unit × hM)) (a1 : Nat) (x2 : Int32) (x3 : Int32) (x4 : Int32) (x5 : Int32) (x6 : Int32) (x7 : Int32) (x8 : Int32) (m : hM) : Option (Unit × hM) :=
  hLet (x8 + 1) fun y17 =>
k67 a1 x2 x3 x4 x5 x6 x7 y17 m
set_option maxRecDepth 100000 in
set_option maxHeartbeats 4000000 in
theorem r_X8_handReady_107 {G : hG} {X : hX} (C : Cx G X 5 cX8_handReady 10 RX8 none) (K : Cr G X) (fu : Nat) (k11 : Nat → Int32 → Int32 → Int32 → Int32 → hM → Option (Unit × hM)) (hk11 : ∀ (a1 : Nat) (ha1 : a1 ∈ stL) (x2 : Int32) (x3 : Int32) (x4 : Int32) (x5 : Int32) (m : hM), Rf vU G X 11 [(0, hA G 32), (1, hA G a1), (2, .int x2), (3, .int x3), (4, .int x4), (5, .int x5)] [] m (k11 a1 x2 x3 x4 x5 m)) (k67 : Nat → Int32 → Int32 → Int32 → Int32 → Int32 → Int32 → Int32 → hM → Option (Unit × hM)) (hk67 : ∀ (a1 : Nat) (ha1 : a1 ∈ stL) (x2 : Int32) (x3 : Int32) (x4 : Int32) (x5 : Int32) (x6 : Int32) (x7 : Int32) (x8 : Int32) (m : hM), Rf vU G X 67 [(0, hA G 32), (1, hA G a1), (2, .int x2), (3, .int x3), (4, .int x4), (5, .int x5), (6, .int x6), (7, .int x7), (8, .int x8)] [] m (k67 a1 x2 x3 x4 x5 x6 x7 x8 m)) (a1 : Nat) (ha1 : a1 ∈ stL) (x2 : Int32) (x3 : Int32) (x4 : Int32) (x5 : Int32) (x6 : Int32) (x7 : Int32) (x8 : Int32) (m : hM) : Rf vU G X 107 [(0, hA G 32), (1, hA G a1), (2, .int x2), (3, .int x3), (4, .int x4), (5, .int x5), (6, .int x6), (7, .int x7), (8, .int x8)] [] m (f_X8_handReady_107 fu k11 k67 a1 x2 x3 x4 x5 x6 x7 x8 m) := by
  unfold f_X8_handReady_107
  refine rf_iinc2 C (n := 110) (q := 8) (fun y17 => [(8, .int y17), (0, hA G 32), (1, hA G a1), (2, .int x2), (3, .int x3), (4, .int x4), (5, .int x5), (6, .int x6), (7, .int x7)]) dX8_handReady_107 rfl rfl (by decide) (by decide) (fun _ => rfl) (fun y17 => ?_)
  refine rf_goto C (n := 67) dX8_handReady_110 (by decide) ?_
  exact rf_lv _ [1, 2, 3, 4, 5, 6, 7, 8, 0] rfl (hk67 _ ha1 _ _ _ _ _ _ _ _)
noncomputable def s_X8_handReady_67 (fu : Nat) (k11 : Nat → Int32 → Int32 → Int32 → Int32 → hM → Option (Unit × hM)) (ih : Nat → Int32 → Int32 → Int32 → Int32 → Int32 → Int32 → Int32 → hM → Option (Unit × hM)) (a1 : Nat) (x2 : Int32) (x3 : Int32) (x4 : Int32) (x5 : Int32) (x6 : Int32) (x7 : Int32) (x8 : Int32) (m : hM) : Option (Unit × hM) :=
  if (gI m 1 4) ≤ x8 then (
f_X8_handReady_113 fu k11 a1 x2 x3 x4 x5 x6 m) else (
hBd (f_X8_valueFor fu a1 x5 x8 x4 m) fun y14 m15 =>
if y14 ≤ x7 then (
f_X8_handReady_107 fu k11 ih a1 x2 x3 x4 x5 x6 x7 x8 m15) else (
f_X8_handReady_107 fu k11 ih a1 x2 x3 x4 x5 x8 y14 x8 m15))
noncomputable def f_X8_handReady_67 (fu : Nat) (k11 : Nat → Int32 → Int32 → Int32 → Int32 → hM → Option (Unit × hM)) (n : Nat) : Nat → Int32 → Int32 → Int32 → Int32 → Int32 → Int32 → Int32 → hM → Option (Unit × hM) :=
  Nat.rec (motive := fun _ => Nat → Int32 → Int32 → Int32 → Int32 → Int32 → Int32 → Int32 → hM → Option (Unit × hM)) (fun _ _ _ _ _ _ _ _ _ => none) (fun _ ih => s_X8_handReady_67 fu k11 ih) n
theorem f_X8_handReady_67_s (fu : Nat) (k11 : Nat → Int32 → Int32 → Int32 → Int32 → hM → Option (Unit × hM)) (n : Nat) (a1 : Nat) (x2 : Int32) (x3 : Int32) (x4 : Int32) (x5 : Int32) (x6 : Int32) (x7 : Int32) (x8 : Int32) (m : hM) : f_X8_handReady_67 fu k11 (n + 1) a1 x2 x3 x4 x5 x6 x7 x8 m = s_X8_handReady_67 fu k11 (f_X8_handReady_67 fu k11 n) a1 x2 x3 x4 x5 x6 x7 x8 m := rfl
set_option maxRecDepth 100000 in
set_option maxHeartbeats 4000000 in
theorem r_X8_handReady_67 {G : hG} {X : hX} (C : Cx G X 5 cX8_handReady 10 RX8 none) (K : Cr G X) (fu : Nat) (k11 : Nat → Int32 → Int32 → Int32 → Int32 → hM → Option (Unit × hM)) (hk11 : ∀ (a1 : Nat) (ha1 : a1 ∈ stL) (x2 : Int32) (x3 : Int32) (x4 : Int32) (x5 : Int32) (m : hM), Rf vU G X 11 [(0, hA G 32), (1, hA G a1), (2, .int x2), (3, .int x3), (4, .int x4), (5, .int x5)] [] m (k11 a1 x2 x3 x4 x5 m)) (n : Nat) : ∀ (a1 : Nat) (ha1 : a1 ∈ stL) (x2 : Int32) (x3 : Int32) (x4 : Int32) (x5 : Int32) (x6 : Int32) (x7 : Int32) (x8 : Int32) (m : hM), Rf vU G X 67 [(0, hA G 32), (1, hA G a1), (2, .int x2), (3, .int x3), (4, .int x4), (5, .int x5), (6, .int x6), (7, .int x7), (8, .int x8)] [] m (f_X8_handReady_67 fu k11 n a1 x2 x3 x4 x5 x6 x7 x8 m) := by
  induction n with
  | zero => intros; exact rf_none
  | succ n ih =>
    intro a1 ha1 x2 x3 x4 x5 x6 x7 x8 m
    show Rf vU G X 67 [(0, hA G 32), (1, hA G a1), (2, .int x2), (3, .int x3), (4, .int x4), (5, .int x5), (6, .int x6), (7, .int x7), (8, .int x8)] [] m (s_X8_handReady_67 fu k11 (f_X8_handReady_67 fu k11 n) a1 x2 x3 x4 x5 x6 x7 x8 m)
    unfold s_X8_handReady_67
    refine rf_iload C (n := 69) (q := 8) dX8_handReady_67 rfl rfl ?_
    refine rf_aload_n C (n := 70) (q := 0) dX8_handReady_69 rfl rfl rfl ?_
    refine rf_getS C (n := 73) fl_RX8_29 ly_32 rfl dX8_handReady_70 rfl ?_
    refine rf_getI C (n := 76) fl_RX8_139 ly_1 rfl dX8_handReady_73 rfl ?_
    refine rf_icmp_ge C (tgt := 113) (n := 79) dX8_handReady_76 (by decide) rfl (fun h9 => ?_) (fun h9 => ?_)
    · exact rf_lv _ [0, 1, 2, 3, 4, 5, 6] rfl (r_X8_handReady_113 C K fu _ hk11 _ ha1 _ _ _ _ _ _)
    · refine rf_aload_n C (n := 80) (q := 0) dX8_handReady_79 rfl rfl rfl ?_
      refine rf_aload_n C (n := 81) (q := 1) dX8_handReady_80 rfl rfl rfl ?_
      refine rf_iload C (n := 83) (q := 5) dX8_handReady_81 rfl rfl ?_
      refine rf_iload C (n := 85) (q := 8) dX8_handReady_83 rfl rfl ?_
      refine rf_iload C (n := 87) (q := 4) dX8_handReady_85 rfl rfl ?_
      refine rf_callVi C (n := 90) (c_X8_valueFor G fu _ _ _ _ _) mw_RX8_135 ly_32 rfl ⟨by decide, by decide⟩ rfl (Nat.le_of_ble_eq_true rfl) rfl dX8_handReady_87 rfl (fun y14 m15 => ?_)
      refine rf_istore C (n := 92) [(9, .int y14), (0, hA G 32), (1, hA G a1), (2, .int x2), (3, .int x3), (4, .int x4), (5, .int x5), (6, .int x6), (7, .int x7), (8, .int x8)] dX8_handReady_90 rfl (by decide) rfl ?_
      refine rf_iload C (n := 94) (q := 0) dX8_handReady_92 rfl rfl ?_
      refine rf_iload C (n := 96) (q := 8) dX8_handReady_94 rfl rfl ?_
      refine rf_icmp_le C (tgt := 107) (n := 99) dX8_handReady_96 (by decide) rfl (fun h16 => ?_) (fun h16 => ?_)
      · exact rf_lv _ [1, 2, 3, 4, 5, 6, 7, 8, 9] rfl (r_X8_handReady_107 C K fu _ hk11 _ ih _ ha1 _ _ _ _ _ _ _ _)
      · refine rf_iload C (n := 101) (q := 9) dX8_handReady_99 rfl rfl ?_
        refine rf_istore C (n := 103) [(6, .int x8), (9, .int y14), (0, hA G 32), (1, hA G a1), (2, .int x2), (3, .int x3), (4, .int x4), (5, .int x5), (7, .int x7), (8, .int x8)] dX8_handReady_101 rfl (by decide) rfl ?_
        refine rf_iload C (n := 105) (q := 1) dX8_handReady_103 rfl rfl ?_
        refine rf_istore C (n := 107) [(7, .int y14), (6, .int x8), (9, .int y14), (0, hA G 32), (1, hA G a1), (2, .int x2), (3, .int x3), (4, .int x4), (5, .int x5), (8, .int x8)] dX8_handReady_105 rfl (by decide) rfl ?_
        exact rf_lv _ [3, 4, 5, 6, 7, 8, 1, 0, 9] rfl (r_X8_handReady_107 C K fu _ hk11 _ ih _ ha1 _ _ _ _ _ _ _ _)
noncomputable def s_X8_handReady_11 (fu : Nat) (ih : Nat → Int32 → Int32 → Int32 → Int32 → hM → Option (Unit × hM)) (a1 : Nat) (x2 : Int32) (x3 : Int32) (x4 : Int32) (x5 : Int32) (m : hM) : Option (Unit × hM) :=
  if (gI m 18 6) ≤ x5 then (
some ((), m)) else (
if ((x2 >>> (x5 &&& 31)) &&& 1) = 0 then (
f_X8_handReady_137 fu ih a1 x2 x3 x4 x5 m) else (
if hIn x5 8 then (
if ¬ ((x3 >>> ((gI m (a1 + 1) (Int32.toNatClampNeg x5)) &&& 31)) &&& 1) = 0 then (
hBd (f_X8_valueFor fu a1 x5 0 x4 m) fun y7 m8 =>
f_X8_handReady_67 fu ih fu a1 x2 x3 x4 x5 0 y7 1 m8) else (
f_X8_handReady_137 fu ih a1 x2 x3 x4 x5 m)) else none))
noncomputable def f_X8_handReady_11 (fu : Nat) (n : Nat) : Nat → Int32 → Int32 → Int32 → Int32 → hM → Option (Unit × hM) :=
  Nat.rec (motive := fun _ => Nat → Int32 → Int32 → Int32 → Int32 → hM → Option (Unit × hM)) (fun _ _ _ _ _ _ => none) (fun _ ih => s_X8_handReady_11 fu ih) n
theorem f_X8_handReady_11_s (fu : Nat) (n : Nat) (a1 : Nat) (x2 : Int32) (x3 : Int32) (x4 : Int32) (x5 : Int32) (m : hM) : f_X8_handReady_11 fu (n + 1) a1 x2 x3 x4 x5 m = s_X8_handReady_11 fu (f_X8_handReady_11 fu n) a1 x2 x3 x4 x5 m := rfl
set_option maxRecDepth 100000 in
set_option maxHeartbeats 4000000 in
theorem r_X8_handReady_11 {G : hG} {X : hX} (C : Cx G X 5 cX8_handReady 10 RX8 none) (K : Cr G X) (fu : Nat) (n : Nat) : ∀ (a1 : Nat) (ha1 : a1 ∈ stL) (x2 : Int32) (x3 : Int32) (x4 : Int32) (x5 : Int32) (m : hM), Rf vU G X 11 [(0, hA G 32), (1, hA G a1), (2, .int x2), (3, .int x3), (4, .int x4), (5, .int x5)] [] m (f_X8_handReady_11 fu n a1 x2 x3 x4 x5 m) := by
  induction n with
  | zero => intros; exact rf_none
  | succ n ih =>
    intro a1 ha1 x2 x3 x4 x5 m
    show Rf vU G X 11 [(0, hA G 32), (1, hA G a1), (2, .int x2), (3, .int x3), (4, .int x4), (5, .int x5)] [] m (s_X8_handReady_11 fu (f_X8_handReady_11 fu n) a1 x2 x3 x4 x5 m)
    unfold s_X8_handReady_11
    refine rf_iload C (n := 13) (q := 5) dX8_handReady_11 rfl rfl ?_
    refine rf_aload_n C (n := 14) (q := 0) dX8_handReady_13 rfl rfl rfl ?_
    refine rf_getS C (n := 17) fl_RX8_33 ly_32 rfl dX8_handReady_14 rfl ?_
    refine rf_getI C (n := 20) fl_RX8_41 ly_18 rfl dX8_handReady_17 rfl ?_
    refine rf_icmp_ge C (tgt := 143) (n := 23) dX8_handReady_20 (by decide) rfl (fun h2 => ?_) (fun h2 => ?_)
    · exact rf_vret C K dX8_handReady_143
    · refine rf_iload_n C (n := 24) (q := 2) dX8_handReady_23 rfl rfl rfl ?_
      refine rf_iload C (n := 26) (q := 5) dX8_handReady_24 rfl rfl ?_
      refine rf_ishr C (n := 27) dX8_handReady_26 rfl ?_
      refine rf_iconst C (n := 28) (v := 1) dX8_handReady_27 rfl (by decide) ?_
      refine rf_iand C (n := 29) dX8_handReady_28 rfl ?_
      refine rf_if_eq C (tgt := 137) (n := 32) dX8_handReady_29 (by decide) rfl (fun h3 => ?_) (fun h3 => ?_)
      · exact rf_lv _ [0, 1, 2, 3, 4, 5] rfl (r_X8_handReady_137 C K fu _ ih _ ha1 _ _ _ _ _)
      · refine rf_iload_n C (n := 33) (q := 3) dX8_handReady_32 rfl rfl rfl ?_
        refine rf_aload_n C (n := 34) (q := 1) dX8_handReady_33 rfl rfl rfl ?_
        refine rf_getS C (n := 37) fl_RX8_84 (pS_l ha1) rfl dX8_handReady_34 rfl ?_
        refine rf_iload C (n := 39) (q := 5) dX8_handReady_37 rfl rfl ?_
        refine rf_guard (fun h5 => ?_)
        refine rf_iald C (n := 40) (st_a1 ha1) h5 rfl dX8_handReady_39 rfl ?_
        refine rf_ishr C (n := 41) dX8_handReady_40 rfl ?_
        refine rf_iconst C (n := 42) (v := 1) dX8_handReady_41 rfl (by decide) ?_
        refine rf_iand C (n := 43) dX8_handReady_42 rfl ?_
        refine rf_if_ne C (tgt := 49) (n := 46) dX8_handReady_43 (by decide) rfl (fun h6 => ?_) (fun h6 => ?_)
        · refine rf_iconst C (n := 50) (v := 0) dX8_handReady_49 rfl (by decide) ?_
          refine rf_istore C (n := 52) [(6, .int 0), (0, hA G 32), (1, hA G a1), (2, .int x2), (3, .int x3), (4, .int x4), (5, .int x5)] dX8_handReady_50 rfl (by decide) rfl ?_
          refine rf_aload_n C (n := 53) (q := 1) dX8_handReady_52 rfl rfl rfl ?_
          refine rf_aload_n C (n := 54) (q := 2) dX8_handReady_53 rfl rfl rfl ?_
          refine rf_iload C (n := 56) (q := 6) dX8_handReady_54 rfl rfl ?_
          refine rf_iconst C (n := 57) (v := 0) dX8_handReady_56 rfl (by decide) ?_
          refine rf_iload C (n := 59) (q := 5) dX8_handReady_57 rfl rfl ?_
          refine rf_callVi C (n := 62) (c_X8_valueFor G fu _ _ _ _ _) mw_RX8_135 ly_32 rfl ⟨by decide, by decide⟩ rfl (Nat.le_of_ble_eq_true rfl) rfl dX8_handReady_59 rfl (fun y7 m8 => ?_)
          refine rf_istore C (n := 64) [(7, .int y7), (6, .int 0), (0, hA G 32), (1, hA G a1), (2, .int x2), (3, .int x3), (4, .int x4), (5, .int x5)] dX8_handReady_62 rfl (by decide) rfl ?_
          refine rf_iconst C (n := 65) (v := 1) dX8_handReady_64 rfl (by decide) ?_
          refine rf_istore C (n := 67) [(8, .int 1), (7, .int y7), (6, .int 0), (0, hA G 32), (1, hA G a1), (2, .int x2), (3, .int x3), (4, .int x4), (5, .int x5)] dX8_handReady_65 rfl (by decide) rfl ?_
          exact rf_lv _ [3, 4, 5, 6, 7, 8, 2, 1, 0] rfl (r_X8_handReady_67 C K fu _ ih fu _ ha1 _ _ _ _ _ _ _ _)
        · refine rf_goto C (n := 137) dX8_handReady_46 (by decide) ?_
          exact rf_lv _ [0, 1, 2, 3, 4, 5] rfl (r_X8_handReady_137 C K fu _ ih _ ha1 _ _ _ _ _)
noncomputable def f_X8_handReady (fu : Nat) (a1 : Nat) (x2 : Int32) (x3 : Int32) (m : hM) : Option (Unit × hM) :=
  if a1 ∈ stL then (hLet ((gI m a1 0) + 1) fun y1 =>
f_X8_handReady_11 fu fu a1 x2 x3 y1 0 m) else none
set_option maxRecDepth 100000 in
set_option maxHeartbeats 4000000 in
theorem c_X8_handReady (G : hG) (fu : Nat) (a1 : Nat) (x2 : Int32) (x3 : Int32) (m : hM) : Mt vU G 5 yX8_handReady cX8_handReady 10 none [hA G 32, hA G a1, .int x2, .int x3] m (f_X8_handReady fu a1 x2 x3 m) := by
  refine mt_of (by decide +kernel) (Nat.le_of_ble_eq_true rfl) (fun X C K => ?_)
  have C : Cx G X 5 cX8_handReady 10 RX8 none := C
  show Rf vU G X 0 [(0, hA G 32), (1, hA G a1), (2, .int x2), (3, .int x3)] [] m _
  unfold f_X8_handReady
  refine rf_guard (fun ha1 => ?_)
  refine rf_aload_n C (n := 1) (q := 1) dX8_handReady_0 rfl rfl rfl ?_
  refine rf_getI C (n := 4) fl_RX8_54 (pS_l ha1) rfl dX8_handReady_1 rfl ?_
  refine rf_iconst C (n := 5) (v := 1) dX8_handReady_4 rfl (by decide) ?_
  refine rf_iadd C (n := 6) dX8_handReady_5 rfl ?_
  refine rf_letI (fun y1 => ?_)
  refine rf_istore C (n := 8) [(4, .int y1), (0, hA G 32), (1, hA G a1), (2, .int x2), (3, .int x3)] dX8_handReady_6 rfl (by decide) rfl ?_
  refine rf_iconst C (n := 9) (v := 0) dX8_handReady_8 rfl (by decide) ?_
  refine rf_istore C (n := 11) [(5, .int 0), (4, .int y1), (0, hA G 32), (1, hA G a1), (2, .int x2), (3, .int x3)] dX8_handReady_9 rfl (by decide) rfl ?_
  exact rf_lv _ [2, 3, 4, 5, 1, 0] rfl (r_X8_handReady_11 C K fu fu _ ha1 _ _ _ _ _)
noncomputable def s_J7_fill_53178_5 (fu : Nat) (ih : Nat → Nat → Int32 → Int32 → Int32 → hM → Option (Unit × hM)) (n0 : Nat) (a0 : Nat) (x1 : Int32) (x2 : Int32) (x3 : Int32) (m : hM) : Option (Unit × hM) :=
  if x3 ≤ x2 then (
some ((), m)) else (
if hIn x2 n0 then (
hLet (sI m a0 (Int32.toNatClampNeg x2) x1) fun m4 =>
hLet (x2 + 1) fun y5 =>
ih n0 a0 x1 y5 x3 m4) else none)
noncomputable def f_J7_fill_53178_5 (fu : Nat) (n : Nat) : Nat → Nat → Int32 → Int32 → Int32 → hM → Option (Unit × hM) :=
  Nat.rec (motive := fun _ => Nat → Nat → Int32 → Int32 → Int32 → hM → Option (Unit × hM)) (fun _ _ _ _ _ _ => none) (fun _ ih => s_J7_fill_53178_5 fu ih) n
theorem f_J7_fill_53178_5_s (fu : Nat) (n : Nat) (n0 : Nat) (a0 : Nat) (x1 : Int32) (x2 : Int32) (x3 : Int32) (m : hM) : f_J7_fill_53178_5 fu (n + 1) n0 a0 x1 x2 x3 m = s_J7_fill_53178_5 fu (f_J7_fill_53178_5 fu n) n0 a0 x1 x2 x3 m := rfl
set_option maxRecDepth 100000 in
set_option maxHeartbeats 4000000 in
theorem r_J7_fill_53178_5 {G : hG} {X : hX} (C : Cx G X 1 cJ7_fill_53178 4 RJ7 none) (K : Cr G X) (fu : Nat) (n : Nat) : ∀ (n0 : Nat) (a0 : Nat) (ha0 : LY[a0]? = some (.inr (.inl (0, n0)))) (x1 : Int32) (x2 : Int32) (x3 : Int32) (m : hM), Rf vU G X 5 [(0, hA G a0), (1, .int x1), (2, .int x2), (3, .int x3)] [] m (f_J7_fill_53178_5 fu n n0 a0 x1 x2 x3 m) := by
  induction n with
  | zero => intros; exact rf_none
  | succ n ih =>
    intro n0 a0 ha0 x1 x2 x3 m
    show Rf vU G X 5 [(0, hA G a0), (1, .int x1), (2, .int x2), (3, .int x3)] [] m (s_J7_fill_53178_5 fu (f_J7_fill_53178_5 fu n) n0 a0 x1 x2 x3 m)
    unfold s_J7_fill_53178_5
    refine rf_iload_n C (n := 6) (q := 2) dJ7_fill_53178_5 rfl rfl rfl ?_
    refine rf_iload_n C (n := 7) (q := 3) dJ7_fill_53178_6 rfl rfl rfl ?_
    refine rf_icmp_ge C (tgt := 20) (n := 10) dJ7_fill_53178_7 (by decide) rfl (fun h2 => ?_) (fun h2 => ?_)
    · exact rf_vret C K dJ7_fill_53178_20
    · refine rf_aload_n C (n := 11) (q := 0) dJ7_fill_53178_10 rfl rfl rfl ?_
      refine rf_iload_n C (n := 12) (q := 2) dJ7_fill_53178_11 rfl rfl rfl ?_
      refine rf_iload_n C (n := 13) (q := 1) dJ7_fill_53178_12 rfl rfl rfl ?_
      refine rf_guard (fun h3 => ?_)
      refine rf_iast C (n := 14) ha0 h3 rfl dJ7_fill_53178_13 rfl ?_
      refine rf_letM (fun m4 => ?_)
      refine rf_iinc2 C (n := 17) (q := 2) (fun y5 => [(2, .int y5), (0, hA G a0), (1, .int x1), (3, .int x3)]) dJ7_fill_53178_14 rfl rfl (by decide) (by decide) (fun _ => rfl) (fun y5 => ?_)
      refine rf_goto C (n := 5) dJ7_fill_53178_17 (by decide) ?_
      exact rf_lv _ [1, 2, 0, 3] rfl (ih _ _ ha0 _ _ _ _)
noncomputable def f_J7_fill_53178 (fu : Nat) (a0 : Nat) (n0 : Nat) (x1 : Int32) (m : hM) : Option (Unit × hM) :=
  if hAr LY[a0]? 0 n0 = true then (hLet (Int32.ofNat n0) fun y1 =>
f_J7_fill_53178_5 fu fu n0 a0 x1 0 y1 m) else none
set_option maxRecDepth 100000 in
set_option maxHeartbeats 4000000 in
theorem c_J7_fill_53178 (G : hG) (fu : Nat) (a0 : Nat) (n0 : Nat) (x1 : Int32) (m : hM) : Mt vU G 1 yJ7_fill_53178 cJ7_fill_53178 4 none [hA G a0, .int x1] m (f_J7_fill_53178 fu a0 n0 x1 m) := by
  refine mt_of (by decide +kernel) (Nat.le_of_ble_eq_true rfl) (fun X C K => ?_)
  have C : Cx G X 1 cJ7_fill_53178 4 RJ7 none := C
  show Rf vU G X 0 [(0, hA G a0), (1, .int x1)] [] m _
  unfold f_J7_fill_53178
  refine rf_guard (fun ha0 => ?_)
  replace ha0 := hAr_l ha0
  refine rf_iconst C (n := 1) (v := 0) dJ7_fill_53178_0 rfl (by decide) ?_
  refine rf_istore_n C (n := 2) [(2, .int 0), (0, hA G a0), (1, .int x1)] dJ7_fill_53178_1 rfl rfl (by decide) rfl ?_
  refine rf_aload_n C (n := 3) (q := 1) dJ7_fill_53178_2 rfl rfl rfl ?_
  refine rf_alen C (n := 4) ha0 (by decide) rfl dJ7_fill_53178_3 rfl ?_
  refine rf_letI (fun y1 => ?_)
  refine rf_istore_n C (n := 5) [(3, .int y1), (2, .int 0), (0, hA G a0), (1, .int x1)] dJ7_fill_53178_4 rfl rfl (by decide) rfl ?_
  exact rf_lv _ [2, 3, 1, 0] rfl (r_J7_fill_53178_5 C K fu fu _ _ ha0 _ _ _ _)
noncomputable def f_X8_workOn (fu : Nat) (a1 : Nat) (x2 : Int32) (m : hM) : Option (Unit × hM) :=
  if a1 ∈ stL then (if hIn x2 8 then (
hLet (gI m (a1 + 1) (Int32.toNatClampNeg x2)) fun y2 =>
if hIn y2 6 then (
if hIn y2 6 then (
hLet (sI m 33 (Int32.toNatClampNeg y2) ((gI m 33 (Int32.toNatClampNeg y2)) + 1)) fun m5 =>
hLet (sI m5 32 5 ((gI m5 32 5) ||| (1 <<< (x2 &&& 31)))) fun m6 =>
if hIn x2 8 then (
if hIn x2 8 then (
hLet (sI m6 (a1 + 5) (Int32.toNatClampNeg x2) ((gI m6 (a1 + 5) (Int32.toNatClampNeg x2)) + 1)) fun m9 =>
if hIn y2 6 then (
hLet (sI m9 a1 10 ((gI m9 a1 10) + (gI m9 (6 + 2 * (Int32.toNatClampNeg y2)) 3))) fun m11 =>
if hIn x2 8 then (
if hIn x2 8 then (
hLet (sI m11 (a1 + 2) (Int32.toNatClampNeg x2) ((gI m11 (a1 + 2) (Int32.toNatClampNeg x2)) - 1)) fun m14 =>
if hIn x2 8 then (
if hIn x2 8 then (
hLet (sI m14 (a1 + 3) (Int32.toNatClampNeg x2) ((gI m14 (a1 + 3) (Int32.toNatClampNeg x2)) + 1)) fun m17 =>
if hIn x2 8 then (
if ¬ (gI m17 (a1 + 2) (Int32.toNatClampNeg x2)) = 0 then (
if (gI m17 32 4) = 0 then (
some ((), m17)) else (
if hIn x2 8 then (
if (gI m17 24 (Int32.toNatClampNeg x2)) = (-1) then (
some ((), m17)) else (
if hIn x2 8 then (
if hIn x2 8 then (
if ¬ (gI m17 (a1 + 3) (Int32.toNatClampNeg x2)) = (gI m17 20 (Int32.toNatClampNeg x2)) then (
some ((), m17)) else (
hLet (sI m17 a1 2 ((gI m17 a1 2) ||| (1 <<< (x2 &&& 31)))) fun m26 =>
if hIn x2 8 then (
hLet (sI m26 (a1 + 3) (Int32.toNatClampNeg x2) 0) fun m28 =>
some ((), m28)) else none)) else none) else none)) else none)) else (
hLet (sI m17 a1 1 ((gI m17 a1 1) ||| (1 <<< (x2 &&& 31)))) fun m29 =>
if hIn x2 8 then (
hLet (sI m29 (a1 + 4) (Int32.toNatClampNeg x2) ((gI m29 a1 0) + 1)) fun m31 =>
some ((), m31)) else none)) else none) else none) else none) else none) else none) else none) else none) else none) else none) else none) else none) else none
set_option maxRecDepth 100000 in
set_option maxHeartbeats 4000000 in
theorem c_X8_workOn (G : hG) (fu : Nat) (a1 : Nat) (x2 : Int32) (m : hM) : Mt vU G 1 yX8_workOn cX8_workOn 4 none [hA G 32, hA G a1, .int x2] m (f_X8_workOn fu a1 x2 m) := by
  refine mt_of (by decide +kernel) (Nat.le_of_ble_eq_true rfl) (fun X C K => ?_)
  have C : Cx G X 1 cX8_workOn 4 RX8 none := C
  show Rf vU G X 0 [(0, hA G 32), (1, hA G a1), (2, .int x2)] [] m _
  unfold f_X8_workOn
  refine rf_guard (fun ha1 => ?_)
  refine rf_aload_n C (n := 1) (q := 1) dX8_workOn_0 rfl rfl rfl ?_
  refine rf_getS C (n := 4) fl_RX8_84 (pS_l ha1) rfl dX8_workOn_1 rfl ?_
  refine rf_iload_n C (n := 5) (q := 2) dX8_workOn_4 rfl rfl rfl ?_
  refine rf_guard (fun h1 => ?_)
  refine rf_iald C (n := 6) (st_a1 ha1) h1 rfl dX8_workOn_5 rfl ?_
  refine rf_letI (fun y2 => ?_)
  refine rf_istore_n C (n := 7) [(3, .int y2), (0, hA G 32), (1, hA G a1), (2, .int x2)] dX8_workOn_6 rfl rfl (by decide) rfl ?_
  refine rf_aload_n C (n := 8) (q := 1) dX8_workOn_7 rfl rfl rfl ?_
  refine rf_getS C (n := 11) fl_RX8_22 ly_32 rfl dX8_workOn_8 rfl ?_
  refine rf_iload_n C (n := 12) (q := 0) dX8_workOn_11 rfl rfl rfl ?_
  refine rf_dup2 C (n := 13) dX8_workOn_12 rfl rfl rfl ?_
  refine rf_guard (fun h3 => ?_)
  refine rf_iald C (n := 14) ly_33 h3 rfl dX8_workOn_13 rfl ?_
  refine rf_iconst C (n := 15) (v := 1) dX8_workOn_14 rfl (by decide) ?_
  refine rf_iadd C (n := 16) dX8_workOn_15 rfl ?_
  refine rf_guard (fun h4 => ?_)
  refine rf_iast C (n := 17) ly_33 h4 rfl dX8_workOn_16 rfl ?_
  refine rf_letM (fun m5 => ?_)
  refine rf_aload_n C (n := 18) (q := 1) dX8_workOn_17 rfl rfl rfl ?_
  refine rf_dup C (n := 19) dX8_workOn_18 rfl rfl ?_
  refine rf_getI C (n := 22) fl_RX8_18 ly_32 rfl dX8_workOn_19 rfl ?_
  refine rf_iconst C (n := 23) (v := 1) dX8_workOn_22 rfl (by decide) ?_
  refine rf_iload_n C (n := 24) (q := 3) dX8_workOn_23 rfl rfl rfl ?_
  refine rf_ishl C (n := 25) dX8_workOn_24 rfl ?_
  refine rf_ior C (n := 26) dX8_workOn_25 rfl ?_
  refine rf_putI C (n := 29) pl_RX8_18 ly_32 rfl ⟨rfl, rfl⟩ dX8_workOn_26 rfl ?_
  refine rf_letM (fun m6 => ?_)
  refine rf_aload_n C (n := 30) (q := 2) dX8_workOn_29 rfl rfl rfl ?_
  refine rf_getS C (n := 33) fl_RX8_116 (pS_l ha1) rfl dX8_workOn_30 rfl ?_
  refine rf_iload_n C (n := 34) (q := 3) dX8_workOn_33 rfl rfl rfl ?_
  refine rf_dup2 C (n := 35) dX8_workOn_34 rfl rfl rfl ?_
  refine rf_guard (fun h7 => ?_)
  refine rf_iald C (n := 36) (st_a5 ha1) h7 rfl dX8_workOn_35 rfl ?_
  refine rf_iconst C (n := 37) (v := 1) dX8_workOn_36 rfl (by decide) ?_
  refine rf_iadd C (n := 38) dX8_workOn_37 rfl ?_
  refine rf_guard (fun h8 => ?_)
  refine rf_iast C (n := 39) (st_a5 ha1) h8 rfl dX8_workOn_38 rfl ?_
  refine rf_letM (fun m9 => ?_)
  refine rf_aload_n C (n := 40) (q := 2) dX8_workOn_39 rfl rfl rfl ?_
  refine rf_dup C (n := 41) dX8_workOn_40 rfl rfl ?_
  refine rf_getI C (n := 44) fl_RX8_119 (pS_l ha1) rfl dX8_workOn_41 rfl ?_
  refine rf_aload_n C (n := 45) (q := 1) dX8_workOn_44 rfl rfl rfl ?_
  refine rf_getS C (n := 48) fl_RX8_29 ly_32 rfl dX8_workOn_45 rfl ?_
  refine rf_getS C (n := 51) fl_RX8_97 ly_1 rfl dX8_workOn_48 rfl ?_
  refine rf_iload_n C (n := 52) (q := 0) dX8_workOn_51 rfl rfl rfl ?_
  refine rf_guard (fun h10 => ?_)
  refine rf_aaldO C (n := 53) ly_2 h10 (of_r h10) dX8_workOn_52 rfl ?_
  refine rf_getI C (n := 56) fl_RX8_122 (pO_l (of_o h10)) rfl dX8_workOn_53 rfl ?_
  refine rf_iadd C (n := 57) dX8_workOn_56 rfl ?_
  refine rf_putI C (n := 60) pl_RX8_119 (pS_l ha1) rfl ⟨rfl, rfl⟩ dX8_workOn_57 rfl ?_
  refine rf_letM (fun m11 => ?_)
  refine rf_aload_n C (n := 61) (q := 2) dX8_workOn_60 rfl rfl rfl ?_
  refine rf_getS C (n := 64) fl_RX8_123 (pS_l ha1) rfl dX8_workOn_61 rfl ?_
  refine rf_iload_n C (n := 65) (q := 3) dX8_workOn_64 rfl rfl rfl ?_
  refine rf_dup2 C (n := 66) dX8_workOn_65 rfl rfl rfl ?_
  refine rf_guard (fun h12 => ?_)
  refine rf_iald C (n := 67) (st_a2 ha1) h12 rfl dX8_workOn_66 rfl ?_
  refine rf_iconst C (n := 68) (v := 1) dX8_workOn_67 rfl (by decide) ?_
  refine rf_isub C (n := 69) dX8_workOn_68 rfl ?_
  refine rf_guard (fun h13 => ?_)
  refine rf_iast C (n := 70) (st_a2 ha1) h13 rfl dX8_workOn_69 rfl ?_
  refine rf_letM (fun m14 => ?_)
  refine rf_aload_n C (n := 71) (q := 2) dX8_workOn_70 rfl rfl rfl ?_
  refine rf_getS C (n := 74) fl_RX8_126 (pS_l ha1) rfl dX8_workOn_71 rfl ?_
  refine rf_iload_n C (n := 75) (q := 3) dX8_workOn_74 rfl rfl rfl ?_
  refine rf_dup2 C (n := 76) dX8_workOn_75 rfl rfl rfl ?_
  refine rf_guard (fun h15 => ?_)
  refine rf_iald C (n := 77) (st_a3 ha1) h15 rfl dX8_workOn_76 rfl ?_
  refine rf_iconst C (n := 78) (v := 1) dX8_workOn_77 rfl (by decide) ?_
  refine rf_iadd C (n := 79) dX8_workOn_78 rfl ?_
  refine rf_guard (fun h16 => ?_)
  refine rf_iast C (n := 80) (st_a3 ha1) h16 rfl dX8_workOn_79 rfl ?_
  refine rf_letM (fun m17 => ?_)
  refine rf_aload_n C (n := 81) (q := 2) dX8_workOn_80 rfl rfl rfl ?_
  refine rf_getS C (n := 84) fl_RX8_123 (pS_l ha1) rfl dX8_workOn_81 rfl ?_
  refine rf_iload_n C (n := 85) (q := 3) dX8_workOn_84 rfl rfl rfl ?_
  refine rf_guard (fun h18 => ?_)
  refine rf_iald C (n := 86) (st_a2 ha1) h18 rfl dX8_workOn_85 rfl ?_
  refine rf_if_ne C (tgt := 116) (n := 89) dX8_workOn_86 (by decide) rfl (fun h19 => ?_) (fun h19 => ?_)
  · refine rf_aload_n C (n := 117) (q := 1) dX8_workOn_116 rfl rfl rfl ?_
    refine rf_getI C (n := 120) fl_RX8_15 ly_32 rfl dX8_workOn_117 rfl ?_
    refine rf_if_eq C (tgt := 173) (n := 123) dX8_workOn_120 (by decide) rfl (fun h20 => ?_) (fun h20 => ?_)
    · exact rf_vret C K dX8_workOn_173
    · refine rf_aload_n C (n := 124) (q := 1) dX8_workOn_123 rfl rfl rfl ?_
      refine rf_getS C (n := 127) fl_RX8_33 ly_32 rfl dX8_workOn_124 rfl ?_
      refine rf_getS C (n := 130) fl_RX8_90 ly_18 rfl dX8_workOn_127 rfl ?_
      refine rf_iload_n C (n := 131) (q := 3) dX8_workOn_130 rfl rfl rfl ?_
      refine rf_guard (fun h21 => ?_)
      refine rf_iald C (n := 132) ly_24 h21 rfl dX8_workOn_131 rfl ?_
      refine rf_iconst C (n := 133) (v := (-1)) dX8_workOn_132 rfl (by decide) ?_
      refine rf_icmp_eq C (tgt := 173) (n := 136) dX8_workOn_133 (by decide) rfl (fun h22 => ?_) (fun h22 => ?_)
      · exact rf_vret C K dX8_workOn_173
      · refine rf_aload_n C (n := 137) (q := 2) dX8_workOn_136 rfl rfl rfl ?_
        refine rf_getS C (n := 140) fl_RX8_126 (pS_l ha1) rfl dX8_workOn_137 rfl ?_
        refine rf_iload_n C (n := 141) (q := 3) dX8_workOn_140 rfl rfl rfl ?_
        refine rf_guard (fun h23 => ?_)
        refine rf_iald C (n := 142) (st_a3 ha1) h23 rfl dX8_workOn_141 rfl ?_
        refine rf_aload_n C (n := 143) (q := 1) dX8_workOn_142 rfl rfl rfl ?_
        refine rf_getS C (n := 146) fl_RX8_33 ly_32 rfl dX8_workOn_143 rfl ?_
        refine rf_getS C (n := 149) fl_RX8_132 ly_18 rfl dX8_workOn_146 rfl ?_
        refine rf_iload_n C (n := 150) (q := 3) dX8_workOn_149 rfl rfl rfl ?_
        refine rf_guard (fun h24 => ?_)
        refine rf_iald C (n := 151) ly_20 h24 rfl dX8_workOn_150 rfl ?_
        refine rf_icmp_ne C (tgt := 173) (n := 154) dX8_workOn_151 (by decide) rfl (fun h25 => ?_) (fun h25 => ?_)
        · exact rf_vret C K dX8_workOn_173
        · refine rf_aload_n C (n := 155) (q := 2) dX8_workOn_154 rfl rfl rfl ?_
          refine rf_dup C (n := 156) dX8_workOn_155 rfl rfl ?_
          refine rf_getI C (n := 159) fl_RX8_87 (pS_l ha1) rfl dX8_workOn_156 rfl ?_
          refine rf_iconst C (n := 160) (v := 1) dX8_workOn_159 rfl (by decide) ?_
          refine rf_iload_n C (n := 161) (q := 3) dX8_workOn_160 rfl rfl rfl ?_
          refine rf_ishl C (n := 162) dX8_workOn_161 rfl ?_
          refine rf_ior C (n := 163) dX8_workOn_162 rfl ?_
          refine rf_putI C (n := 166) pl_RX8_87 (pS_l ha1) rfl ⟨rfl, rfl⟩ dX8_workOn_163 rfl ?_
          refine rf_letM (fun m26 => ?_)
          refine rf_aload_n C (n := 167) (q := 2) dX8_workOn_166 rfl rfl rfl ?_
          refine rf_getS C (n := 170) fl_RX8_126 (pS_l ha1) rfl dX8_workOn_167 rfl ?_
          refine rf_iload_n C (n := 171) (q := 3) dX8_workOn_170 rfl rfl rfl ?_
          refine rf_iconst C (n := 172) (v := 0) dX8_workOn_171 rfl (by decide) ?_
          refine rf_guard (fun h27 => ?_)
          refine rf_iast C (n := 173) (st_a3 ha1) h27 rfl dX8_workOn_172 rfl ?_
          refine rf_letM (fun m28 => ?_)
          exact rf_vret C K dX8_workOn_173
  · refine rf_aload_n C (n := 90) (q := 2) dX8_workOn_89 rfl rfl rfl ?_
    refine rf_dup C (n := 91) dX8_workOn_90 rfl rfl ?_
    refine rf_getI C (n := 94) fl_RX8_46 (pS_l ha1) rfl dX8_workOn_91 rfl ?_
    refine rf_iconst C (n := 95) (v := 1) dX8_workOn_94 rfl (by decide) ?_
    refine rf_iload_n C (n := 96) (q := 3) dX8_workOn_95 rfl rfl rfl ?_
    refine rf_ishl C (n := 97) dX8_workOn_96 rfl ?_
    refine rf_ior C (n := 98) dX8_workOn_97 rfl ?_
    refine rf_putI C (n := 101) pl_RX8_46 (pS_l ha1) rfl ⟨rfl, rfl⟩ dX8_workOn_98 rfl ?_
    refine rf_letM (fun m29 => ?_)
    refine rf_aload_n C (n := 102) (q := 2) dX8_workOn_101 rfl rfl rfl ?_
    refine rf_getS C (n := 105) fl_RX8_129 (pS_l ha1) rfl dX8_workOn_102 rfl ?_
    refine rf_iload_n C (n := 106) (q := 3) dX8_workOn_105 rfl rfl rfl ?_
    refine rf_aload_n C (n := 107) (q := 2) dX8_workOn_106 rfl rfl rfl ?_
    refine rf_getI C (n := 110) fl_RX8_54 (pS_l ha1) rfl dX8_workOn_107 rfl ?_
    refine rf_iconst C (n := 111) (v := 1) dX8_workOn_110 rfl (by decide) ?_
    refine rf_iadd C (n := 112) dX8_workOn_111 rfl ?_
    refine rf_guard (fun h30 => ?_)
    refine rf_iast C (n := 113) (st_a4 ha1) h30 rfl dX8_workOn_112 rfl ?_
    refine rf_letM (fun m31 => ?_)
    refine rf_goto C (n := 173) dX8_workOn_113 (by decide) ?_
    exact rf_vret C K dX8_workOn_173
noncomputable def f_X8_workReady_158 (fu : Nat) (k16 : Nat → Int32 → Int32 → Int32 → hM → Option (Unit × hM)) (a1 : Nat) (x2 : Int32) (x3 : Int32) (x4 : Int32) (m : hM) : Option (Unit × hM) :=
  hLet (x4 + 1) fun y7 =>
k16 a1 x2 x3 y7 m
set_option maxRecDepth 100000 in
set_option maxHeartbeats 4000000 in
theorem r_X8_workReady_158 {G : hG} {X : hX} (C : Cx G X 2 cX8_workReady 7 RX8 none) (K : Cr G X) (fu : Nat) (k16 : Nat → Int32 → Int32 → Int32 → hM → Option (Unit × hM)) (hk16 : ∀ (a1 : Nat) (ha1 : a1 ∈ stL) (x2 : Int32) (x3 : Int32) (x4 : Int32) (m : hM), Rf vU G X 16 [(0, hA G 32), (1, hA G a1), (2, .int x2), (3, .int x3), (4, .int x4)] [] m (k16 a1 x2 x3 x4 m)) (a1 : Nat) (ha1 : a1 ∈ stL) (x2 : Int32) (x3 : Int32) (x4 : Int32) (m : hM) : Rf vU G X 158 [(0, hA G 32), (1, hA G a1), (2, .int x2), (3, .int x3), (4, .int x4)] [] m (f_X8_workReady_158 fu k16 a1 x2 x3 x4 m) := by
  unfold f_X8_workReady_158
  refine rf_iinc2 C (n := 161) (q := 4) (fun y7 => [(4, .int y7), (0, hA G 32), (1, hA G a1), (2, .int x2), (3, .int x3)]) dX8_workReady_158 rfl rfl (by decide) (by decide) (fun _ => rfl) (fun y7 => ?_)
  refine rf_goto C (n := 16) dX8_workReady_161 (by decide) ?_
  exact rf_lv _ [1, 2, 3, 4, 0] rfl (hk16 _ ha1 _ _ _ _)
noncomputable def f_X8_workReady_114 (fu : Nat) (k16 : Nat → Int32 → Int32 → Int32 → hM → Option (Unit × hM)) (a1 : Nat) (x2 : Int32) (x3 : Int32) (x4 : Int32) (m : hM) : Option (Unit × hM) :=
  f_X8_workReady_158 fu k16 a1 x2 x3 x4 m
set_option maxRecDepth 100000 in
set_option maxHeartbeats 4000000 in
theorem r_X8_workReady_114 {G : hG} {X : hX} (C : Cx G X 2 cX8_workReady 7 RX8 none) (K : Cr G X) (fu : Nat) (k16 : Nat → Int32 → Int32 → Int32 → hM → Option (Unit × hM)) (hk16 : ∀ (a1 : Nat) (ha1 : a1 ∈ stL) (x2 : Int32) (x3 : Int32) (x4 : Int32) (m : hM), Rf vU G X 16 [(0, hA G 32), (1, hA G a1), (2, .int x2), (3, .int x3), (4, .int x4)] [] m (k16 a1 x2 x3 x4 m)) (a1 : Nat) (ha1 : a1 ∈ stL) (x2 : Int32) (x3 : Int32) (x4 : Int32) (m : hM) : Rf vU G X 114 [(0, hA G 32), (1, hA G a1), (2, .int x2), (3, .int x3), (4, .int x4)] [] m (f_X8_workReady_114 fu k16 a1 x2 x3 x4 m) := by
  unfold f_X8_workReady_114
  refine rf_goto C (n := 158) dX8_workReady_114 (by decide) ?_
  exact rf_lv _ [0, 1, 2, 3, 4] rfl (r_X8_workReady_158 C K fu _ hk16 _ ha1 _ _ _ _)
noncomputable def s_X8_workReady_16 (fu : Nat) (ih : Nat → Int32 → Int32 → Int32 → hM → Option (Unit × hM)) (a1 : Nat) (x2 : Int32) (x3 : Int32) (x4 : Int32) (m : hM) : Option (Unit × hM) :=
  if (gI m 18 6) ≤ x4 then (
some ((), m)) else (
if hIn x4 8 then (
hLet (gI m (a1 + 1) (Int32.toNatClampNeg x4)) fun y5 =>
if ((x2 >>> (x4 &&& 31)) &&& 1) = 0 then (
f_X8_workReady_158 fu ih a1 x2 x3 x4 m) else (
if ¬ ((x3 >>> (y5 &&& 31)) &&& 1) = 0 then (
if ¬ (((gI m a1 2) >>> (x4 &&& 31)) &&& 1) = 1 then (
hBd (f_X8_canWork fu x4 y5 m) fun y10 m11 =>
if y10 = 0 then (
f_X8_workReady_158 fu ih a1 x2 x3 x4 m11) else (
if hIn y5 6 then (
if hIn y5 6 then (
if (gI m11 (6 + 2 * (Int32.toNatClampNeg y5)) 4) ≤ (gI m11 33 (Int32.toNatClampNeg y5)) then (
f_X8_workReady_158 fu ih a1 x2 x3 x4 m11) else (
hBd (f_X8_workOn fu a1 x4 m11) fun _ m16 =>
f_X8_workReady_158 fu ih a1 x2 x3 x4 m16)) else none) else none)) else (
if hIn x4 8 then (
hLet (gI m 24 (Int32.toNatClampNeg x4)) fun y18 =>
if y18 = (-1) then (
f_X8_workReady_114 fu ih a1 x2 x3 x4 m) else (
if ¬ ((x3 >>> (y18 &&& 31)) &&& 1) = 1 then (
f_X8_workReady_114 fu ih a1 x2 x3 x4 m) else (
hLet (sI m a1 2 ((gI m a1 2) &&& ((1 <<< (x4 &&& 31)) ^^^ (-1)))) fun m21 =>
f_X8_workReady_114 fu ih a1 x2 x3 x4 m21))) else none)) else (
f_X8_workReady_158 fu ih a1 x2 x3 x4 m))) else none)
noncomputable def f_X8_workReady_16 (fu : Nat) (n : Nat) : Nat → Int32 → Int32 → Int32 → hM → Option (Unit × hM) :=
  Nat.rec (motive := fun _ => Nat → Int32 → Int32 → Int32 → hM → Option (Unit × hM)) (fun _ _ _ _ _ => none) (fun _ ih => s_X8_workReady_16 fu ih) n
theorem f_X8_workReady_16_s (fu : Nat) (n : Nat) (a1 : Nat) (x2 : Int32) (x3 : Int32) (x4 : Int32) (m : hM) : f_X8_workReady_16 fu (n + 1) a1 x2 x3 x4 m = s_X8_workReady_16 fu (f_X8_workReady_16 fu n) a1 x2 x3 x4 m := rfl
set_option maxRecDepth 100000 in
set_option maxHeartbeats 4000000 in
theorem r_X8_workReady_16 {G : hG} {X : hX} (C : Cx G X 2 cX8_workReady 7 RX8 none) (K : Cr G X) (fu : Nat) (n : Nat) : ∀ (a1 : Nat) (ha1 : a1 ∈ stL) (x2 : Int32) (x3 : Int32) (x4 : Int32) (m : hM), Rf vU G X 16 [(0, hA G 32), (1, hA G a1), (2, .int x2), (3, .int x3), (4, .int x4)] [] m (f_X8_workReady_16 fu n a1 x2 x3 x4 m) := by
  induction n with
  | zero => intros; exact rf_none
  | succ n ih =>
    intro a1 ha1 x2 x3 x4 m
    show Rf vU G X 16 [(0, hA G 32), (1, hA G a1), (2, .int x2), (3, .int x3), (4, .int x4)] [] m (s_X8_workReady_16 fu (f_X8_workReady_16 fu n) a1 x2 x3 x4 m)
    unfold s_X8_workReady_16
    refine rf_iload C (n := 18) (q := 4) dX8_workReady_16 rfl rfl ?_
    refine rf_aload_n C (n := 19) (q := 0) dX8_workReady_18 rfl rfl rfl ?_
    refine rf_getS C (n := 22) fl_RX8_33 ly_32 rfl dX8_workReady_19 rfl ?_
    refine rf_getI C (n := 25) fl_RX8_41 ly_18 rfl dX8_workReady_22 rfl ?_
    refine rf_icmp_ge C (tgt := 164) (n := 28) dX8_workReady_25 (by decide) rfl (fun h3 => ?_) (fun h3 => ?_)
    · exact rf_vret C K dX8_workReady_164
    · refine rf_aload_n C (n := 29) (q := 1) dX8_workReady_28 rfl rfl rfl ?_
      refine rf_getS C (n := 32) fl_RX8_84 (pS_l ha1) rfl dX8_workReady_29 rfl ?_
      refine rf_iload C (n := 34) (q := 4) dX8_workReady_32 rfl rfl ?_
      refine rf_guard (fun h4 => ?_)
      refine rf_iald C (n := 35) (st_a1 ha1) h4 rfl dX8_workReady_34 rfl ?_
      refine rf_letI (fun y5 => ?_)
      refine rf_istore C (n := 37) [(5, .int y5), (0, hA G 32), (1, hA G a1), (2, .int x2), (3, .int x3), (4, .int x4)] dX8_workReady_35 rfl (by decide) rfl ?_
      refine rf_iload_n C (n := 38) (q := 3) dX8_workReady_37 rfl rfl rfl ?_
      refine rf_iload C (n := 40) (q := 5) dX8_workReady_38 rfl rfl ?_
      refine rf_ishr C (n := 41) dX8_workReady_40 rfl ?_
      refine rf_iconst C (n := 42) (v := 1) dX8_workReady_41 rfl (by decide) ?_
      refine rf_iand C (n := 43) dX8_workReady_42 rfl ?_
      refine rf_if_eq C (tgt := 158) (n := 46) dX8_workReady_43 (by decide) rfl (fun h6 => ?_) (fun h6 => ?_)
      · exact rf_lv _ [1, 2, 3, 4, 5] rfl (r_X8_workReady_158 C K fu _ ih _ ha1 _ _ _ _)
      · refine rf_iload_n C (n := 47) (q := 4) dX8_workReady_46 rfl rfl rfl ?_
        refine rf_iload C (n := 49) (q := 0) dX8_workReady_47 rfl rfl ?_
        refine rf_ishr C (n := 50) dX8_workReady_49 rfl ?_
        refine rf_iconst C (n := 51) (v := 1) dX8_workReady_50 rfl (by decide) ?_
        refine rf_iand C (n := 52) dX8_workReady_51 rfl ?_
        refine rf_if_ne C (tgt := 58) (n := 55) dX8_workReady_52 (by decide) rfl (fun h8 => ?_) (fun h8 => ?_)
        · refine rf_aload_n C (n := 59) (q := 2) dX8_workReady_58 rfl rfl rfl ?_
          refine rf_getI C (n := 62) fl_RX8_87 (pS_l ha1) rfl dX8_workReady_59 rfl ?_
          refine rf_iload C (n := 64) (q := 5) dX8_workReady_62 rfl rfl ?_
          refine rf_ishr C (n := 65) dX8_workReady_64 rfl ?_
          refine rf_iconst C (n := 66) (v := 1) dX8_workReady_65 rfl (by decide) ?_
          refine rf_iand C (n := 67) dX8_workReady_66 rfl ?_
          refine rf_iconst C (n := 68) (v := 1) dX8_workReady_67 rfl (by decide) ?_
          refine rf_icmp_ne C (tgt := 117) (n := 71) dX8_workReady_68 (by decide) rfl (fun h9 => ?_) (fun h9 => ?_)
          · refine rf_aload_n C (n := 118) (q := 1) dX8_workReady_117 rfl rfl rfl ?_
            refine rf_iload C (n := 120) (q := 5) dX8_workReady_118 rfl rfl ?_
            refine rf_iload C (n := 122) (q := 0) dX8_workReady_120 rfl rfl ?_
            refine rf_callVi C (n := 125) (c_X8_canWork G fu _ _ _) mw_RX8_93 ly_32 rfl ⟨by decide, by decide⟩ rfl (Nat.le_of_ble_eq_true rfl) rfl dX8_workReady_122 rfl (fun y10 m11 => ?_)
            refine rf_if_eq C (tgt := 158) (n := 128) dX8_workReady_125 (by decide) rfl (fun h12 => ?_) (fun h12 => ?_)
            · exact rf_lv _ [1, 2, 3, 4, 5] rfl (r_X8_workReady_158 C K fu _ ih _ ha1 _ _ _ _)
            · refine rf_aload_n C (n := 129) (q := 1) dX8_workReady_128 rfl rfl rfl ?_
              refine rf_getS C (n := 132) fl_RX8_22 ly_32 rfl dX8_workReady_129 rfl ?_
              refine rf_iload C (n := 134) (q := 0) dX8_workReady_132 rfl rfl ?_
              refine rf_guard (fun h13 => ?_)
              refine rf_iald C (n := 135) ly_33 h13 rfl dX8_workReady_134 rfl ?_
              refine rf_aload_n C (n := 136) (q := 1) dX8_workReady_135 rfl rfl rfl ?_
              refine rf_getS C (n := 139) fl_RX8_29 ly_32 rfl dX8_workReady_136 rfl ?_
              refine rf_getS C (n := 142) fl_RX8_97 ly_1 rfl dX8_workReady_139 rfl ?_
              refine rf_iload C (n := 144) (q := 0) dX8_workReady_142 rfl rfl ?_
              refine rf_guard (fun h14 => ?_)
              refine rf_aaldO C (n := 145) ly_2 h14 (of_r h14) dX8_workReady_144 rfl ?_
              refine rf_getI C (n := 148) fl_RX8_101 (pO_l (of_o h14)) rfl dX8_workReady_145 rfl ?_
              refine rf_icmp_ge C (tgt := 158) (n := 151) dX8_workReady_148 (by decide) rfl (fun h15 => ?_) (fun h15 => ?_)
              · exact rf_lv _ [1, 2, 3, 4, 5] rfl (r_X8_workReady_158 C K fu _ ih _ ha1 _ _ _ _)
              · refine rf_aload_n C (n := 152) (q := 1) dX8_workReady_151 rfl rfl rfl ?_
                refine rf_aload_n C (n := 153) (q := 2) dX8_workReady_152 rfl rfl rfl ?_
                refine rf_iload C (n := 155) (q := 5) dX8_workReady_153 rfl rfl ?_
                refine rf_callVv C (n := 158) (c_X8_workOn G fu _ _ _) mw_RX8_106 ly_32 rfl ⟨by decide, by decide⟩ rfl (Nat.le_of_ble_eq_true rfl) rfl dX8_workReady_155 rfl (fun _ m16 => ?_)
                exact rf_lv _ [1, 2, 3, 4, 5] rfl (r_X8_workReady_158 C K fu _ ih _ ha1 _ _ _ _)
          · refine rf_aload_n C (n := 72) (q := 1) dX8_workReady_71 rfl rfl rfl ?_
            refine rf_getS C (n := 75) fl_RX8_33 ly_32 rfl dX8_workReady_72 rfl ?_
            refine rf_getS C (n := 78) fl_RX8_90 ly_18 rfl dX8_workReady_75 rfl ?_
            refine rf_iload C (n := 80) (q := 5) dX8_workReady_78 rfl rfl ?_
            refine rf_guard (fun h17 => ?_)
            refine rf_iald C (n := 81) ly_24 h17 rfl dX8_workReady_80 rfl ?_
            refine rf_letI (fun y18 => ?_)
            refine rf_istore C (n := 83) [(6, .int y18), (5, .int y5), (0, hA G 32), (1, hA G a1), (2, .int x2), (3, .int x3), (4, .int x4)] dX8_workReady_81 rfl (by decide) rfl ?_
            refine rf_iload C (n := 85) (q := 0) dX8_workReady_83 rfl rfl ?_
            refine rf_iconst C (n := 86) (v := (-1)) dX8_workReady_85 rfl (by decide) ?_
            refine rf_icmp_eq C (tgt := 114) (n := 89) dX8_workReady_86 (by decide) rfl (fun h19 => ?_) (fun h19 => ?_)
            · exact rf_lv _ [2, 3, 4, 5, 6] rfl (r_X8_workReady_114 C K fu _ ih _ ha1 _ _ _ _)
            · refine rf_iload_n C (n := 90) (q := 5) dX8_workReady_89 rfl rfl rfl ?_
              refine rf_iload C (n := 92) (q := 0) dX8_workReady_90 rfl rfl ?_
              refine rf_ishr C (n := 93) dX8_workReady_92 rfl ?_
              refine rf_iconst C (n := 94) (v := 1) dX8_workReady_93 rfl (by decide) ?_
              refine rf_iand C (n := 95) dX8_workReady_94 rfl ?_
              refine rf_iconst C (n := 96) (v := 1) dX8_workReady_95 rfl (by decide) ?_
              refine rf_icmp_ne C (tgt := 114) (n := 99) dX8_workReady_96 (by decide) rfl (fun h20 => ?_) (fun h20 => ?_)
              · exact rf_lv _ [2, 3, 4, 5, 6] rfl (r_X8_workReady_114 C K fu _ ih _ ha1 _ _ _ _)
              · refine rf_aload_n C (n := 100) (q := 3) dX8_workReady_99 rfl rfl rfl ?_
                refine rf_dup C (n := 101) dX8_workReady_100 rfl rfl ?_
                refine rf_getI C (n := 104) fl_RX8_87 (pS_l ha1) rfl dX8_workReady_101 rfl ?_
                refine rf_iconst C (n := 105) (v := 1) dX8_workReady_104 rfl (by decide) ?_
                refine rf_iload C (n := 107) (q := 6) dX8_workReady_105 rfl rfl ?_
                refine rf_ishl C (n := 108) dX8_workReady_107 rfl ?_
                refine rf_iconst C (n := 109) (v := (-1)) dX8_workReady_108 rfl (by decide) ?_
                refine rf_ixor C (n := 110) dX8_workReady_109 rfl ?_
                refine rf_iand C (n := 111) dX8_workReady_110 rfl ?_
                refine rf_putI C (n := 114) pl_RX8_87 (pS_l ha1) rfl ⟨rfl, rfl⟩ dX8_workReady_111 rfl ?_
                refine rf_letM (fun m21 => ?_)
                exact rf_lv _ [2, 3, 4, 5, 6] rfl (r_X8_workReady_114 C K fu _ ih _ ha1 _ _ _ _)
        · refine rf_goto C (n := 158) dX8_workReady_55 (by decide) ?_
          exact rf_lv _ [1, 2, 3, 4, 5] rfl (r_X8_workReady_158 C K fu _ ih _ ha1 _ _ _ _)
noncomputable def f_X8_workReady (fu : Nat) (a1 : Nat) (x2 : Int32) (x3 : Int32) (m : hM) : Option (Unit × hM) :=
  if a1 ∈ stL then (hBd (f_J7_fill_53178 fu 33 6 0 m) fun _ m1 =>
hLet (sI m1 32 5 0) fun m2 =>
f_X8_workReady_16 fu fu a1 x2 x3 0 m2) else none
set_option maxRecDepth 100000 in
set_option maxHeartbeats 4000000 in
theorem c_X8_workReady (G : hG) (fu : Nat) (a1 : Nat) (x2 : Int32) (x3 : Int32) (m : hM) : Mt vU G 2 yX8_workReady cX8_workReady 7 none [hA G 32, hA G a1, .int x2, .int x3] m (f_X8_workReady fu a1 x2 x3 m) := by
  refine mt_of (by decide +kernel) (Nat.le_of_ble_eq_true rfl) (fun X C K => ?_)
  have C : Cx G X 2 cX8_workReady 7 RX8 none := C
  show Rf vU G X 0 [(0, hA G 32), (1, hA G a1), (2, .int x2), (3, .int x3)] [] m _
  unfold f_X8_workReady
  refine rf_guard (fun ha1 => ?_)
  refine rf_aload_n C (n := 1) (q := 0) dX8_workReady_0 rfl rfl rfl ?_
  refine rf_getS C (n := 4) fl_RX8_22 ly_32 rfl dX8_workReady_1 rfl ?_
  refine rf_iconst C (n := 5) (v := 0) dX8_workReady_4 rfl (by decide) ?_
  refine rf_callSv C (n := 8) (c_J7_fill_53178 G fu _ _ _ _) sw_RX8_78 ⟨by decide, by decide⟩ rfl (Nat.le_of_ble_eq_true rfl) rfl dX8_workReady_5 rfl (fun _ m1 => ?_)
  refine rf_aload_n C (n := 9) (q := 0) dX8_workReady_8 rfl rfl rfl ?_
  refine rf_iconst C (n := 10) (v := 0) dX8_workReady_9 rfl (by decide) ?_
  refine rf_putI C (n := 13) pl_RX8_18 ly_32 rfl ⟨rfl, rfl⟩ dX8_workReady_10 rfl ?_
  refine rf_letM (fun m2 => ?_)
  refine rf_iconst C (n := 14) (v := 0) dX8_workReady_13 rfl (by decide) ?_
  refine rf_istore C (n := 16) [(4, .int 0), (0, hA G 32), (1, hA G a1), (2, .int x2), (3, .int x3)] dX8_workReady_14 rfl (by decide) rfl ?_
  exact rf_lv _ [1, 2, 3, 4, 0] rfl (r_X8_workReady_16 C K fu fu _ ha1 _ _ _ _)
