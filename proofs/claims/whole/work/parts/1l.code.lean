theorem dX11_endsFrom_0 : decode cX11_endsFrom 0 = .ok (.aload_n 0, 1) := by decide +kernel
theorem dX11_endsFrom_1 : decode cX11_endsFrom 1 = .ok (.aload_n 0, 1) := by decide +kernel
theorem dX11_endsFrom_2 : decode cX11_endsFrom 2 = .ok (.getfield 322, 3) := by decide +kernel
theorem dX11_endsFrom_5 : decode cX11_endsFrom 5 = .ok (.invokevirtual 325, 3) := by decide +kernel
theorem dX11_endsFrom_8 : decode cX11_endsFrom 8 = .ok (.aload_n 0, 1) := by decide +kernel
theorem dX11_endsFrom_9 : decode cX11_endsFrom 9 = .ok (.iload_n 1, 1) := by decide +kernel
theorem dX11_endsFrom_10 : decode cX11_endsFrom 10 = .ok (.invokevirtual 303, 3) := by decide +kernel
theorem dX11_endsFrom_13 : decode cX11_endsFrom 13 = .ok (.aload_n 0, 1) := by decide +kernel
theorem dX11_endsFrom_14 : decode cX11_endsFrom 14 = .ok (.invokevirtual 319, 3) := by decide +kernel
theorem dX11_endsFrom_17 : decode cX11_endsFrom 17 = .ok (.istore_n 2, 1) := by decide +kernel
theorem dX11_endsFrom_18 : decode cX11_endsFrom 18 = .ok (.aload_n 0, 1) := by decide +kernel
theorem dX11_endsFrom_19 : decode cX11_endsFrom 19 = .ok (.aload_n 0, 1) := by decide +kernel
theorem dX11_endsFrom_20 : decode cX11_endsFrom 20 = .ok (.getfield 322, 3) := by decide +kernel
theorem dX11_endsFrom_23 : decode cX11_endsFrom 23 = .ok (.invokevirtual 332, 3) := by decide +kernel
theorem dX11_endsFrom_26 : decode cX11_endsFrom 26 = .ok (.iload_n 2, 1) := by decide +kernel
theorem dX11_endsFrom_27 : decode cX11_endsFrom 27 = .ok (.ireturn, 1) := by decide +kernel
theorem dX11_endsNow_0 : decode cX11_endsNow 0 = .ok (.aload_n 0, 1) := by decide +kernel
theorem dX11_endsNow_1 : decode cX11_endsNow 1 = .ok (.aload_n 0, 1) := by decide +kernel
theorem dX11_endsNow_2 : decode cX11_endsNow 2 = .ok (.getfield 322, 3) := by decide +kernel
theorem dX11_endsNow_5 : decode cX11_endsNow 5 = .ok (.invokevirtual 325, 3) := by decide +kernel
theorem dX11_endsNow_8 : decode cX11_endsNow 8 = .ok (.aload_n 0, 1) := by decide +kernel
theorem dX11_endsNow_9 : decode cX11_endsNow 9 = .ok (.invokevirtual 319, 3) := by decide +kernel
theorem dX11_endsNow_12 : decode cX11_endsNow 12 = .ok (.istore_n 1, 1) := by decide +kernel
theorem dX11_endsNow_13 : decode cX11_endsNow 13 = .ok (.aload_n 0, 1) := by decide +kernel
theorem dX11_endsNow_14 : decode cX11_endsNow 14 = .ok (.aload_n 0, 1) := by decide +kernel
theorem dX11_endsNow_15 : decode cX11_endsNow 15 = .ok (.getfield 322, 3) := by decide +kernel
theorem dX11_endsNow_18 : decode cX11_endsNow 18 = .ok (.invokevirtual 332, 3) := by decide +kernel
theorem dX11_endsNow_21 : decode cX11_endsNow 21 = .ok (.iload_n 1, 1) := by decide +kernel
theorem dX11_endsNow_22 : decode cX11_endsNow 22 = .ok (.ireturn, 1) := by decide +kernel
theorem dX11_placeAt_0 : decode cX11_placeAt 0 = .ok (.iload_n 0, 1) := by decide +kernel
theorem dX11_placeAt_1 : decode cX11_placeAt 1 = .ok (.bipush 6, 2) := by decide +kernel
theorem dX11_placeAt_3 : decode cX11_placeAt 3 = .ok (.imul, 1) := by decide +kernel
theorem dX11_placeAt_4 : decode cX11_placeAt 4 = .ok (.iload_n 1, 1) := by decide +kernel
theorem dX11_placeAt_5 : decode cX11_placeAt 5 = .ok (.iadd, 1) := by decide +kernel
theorem dX11_placeAt_6 : decode cX11_placeAt 6 = .ok (.sipush 128, 3) := by decide +kernel
theorem dX11_placeAt_9 : decode cX11_placeAt 9 = .ok (.imul, 1) := by decide +kernel
theorem dX11_placeAt_10 : decode cX11_placeAt 10 = .ok (.iload_n 2, 1) := by decide +kernel
theorem dX11_placeAt_11 : decode cX11_placeAt 11 = .ok (.iadd, 1) := by decide +kernel
theorem dX11_placeAt_12 : decode cX11_placeAt 12 = .ok (.ireturn, 1) := by decide +kernel
theorem dX11_empties_0 : decode cX11_empties 0 = .ok (.iconst 0, 1) := by decide +kernel
theorem dX11_empties_1 : decode cX11_empties 1 = .ok (.istore_n 2, 1) := by decide +kernel
theorem dX11_empties_2 : decode cX11_empties 2 = .ok (.iload_n 2, 1) := by decide +kernel
theorem dX11_empties_3 : decode cX11_empties 3 = .ok (.aload_n 1, 1) := by decide +kernel
theorem dX11_empties_4 : decode cX11_empties 4 = .ok (.arraylength, 1) := by decide +kernel
theorem dX11_empties_5 : decode cX11_empties 5 = .ok (.if_icmp .ge 13, 3) := by decide +kernel
theorem dX11_empties_8 : decode cX11_empties 8 = .ok (.aload_n 1, 1) := by decide +kernel
theorem dX11_empties_9 : decode cX11_empties 9 = .ok (.iload_n 2, 1) := by decide +kernel
theorem dX11_empties_10 : decode cX11_empties 10 = .ok (.iconst (-1), 1) := by decide +kernel
theorem dX11_empties_11 : decode cX11_empties 11 = .ok (.iastore, 1) := by decide +kernel
theorem dX11_empties_12 : decode cX11_empties 12 = .ok (.iinc 2 1, 3) := by decide +kernel
theorem dX11_empties_15 : decode cX11_empties 15 = .ok (.goto (-13), 3) := by decide +kernel
theorem dX11_empties_18 : decode cX11_empties 18 = .ok (.return_, 1) := by decide +kernel
theorem dX11_losesAll_0 : decode cX11_losesAll 0 = .ok (.iconst 0, 1) := by decide +kernel
theorem dX11_losesAll_1 : decode cX11_losesAll 1 = .ok (.istore_n 2, 1) := by decide +kernel
theorem dX11_losesAll_2 : decode cX11_losesAll 2 = .ok (.iload_n 2, 1) := by decide +kernel
theorem dX11_losesAll_3 : decode cX11_losesAll 3 = .ok (.aload_n 0, 1) := by decide +kernel
theorem dX11_losesAll_4 : decode cX11_losesAll 4 = .ok (.getfield 22, 3) := by decide +kernel
theorem dX11_losesAll_7 : decode cX11_losesAll 7 = .ok (.if_icmp .ge 43, 3) := by decide +kernel
theorem dX11_losesAll_10 : decode cX11_losesAll 10 = .ok (.iconst 0, 1) := by decide +kernel
theorem dX11_losesAll_11 : decode cX11_losesAll 11 = .ok (.istore_n 3, 1) := by decide +kernel
theorem dX11_losesAll_12 : decode cX11_losesAll 12 = .ok (.iload_n 3, 1) := by decide +kernel
theorem dX11_losesAll_13 : decode cX11_losesAll 13 = .ok (.aload_n 0, 1) := by decide +kernel
theorem dX11_losesAll_14 : decode cX11_losesAll 14 = .ok (.getfield 22, 3) := by decide +kernel
theorem dX11_losesAll_17 : decode cX11_losesAll 17 = .ok (.if_icmp .ge 27, 3) := by decide +kernel
theorem dX11_losesAll_20 : decode cX11_losesAll 20 = .ok (.aload_n 0, 1) := by decide +kernel
theorem dX11_losesAll_21 : decode cX11_losesAll 21 = .ok (.getfield 335, 3) := by decide +kernel
theorem dX11_losesAll_24 : decode cX11_losesAll 24 = .ok (.bipush 6, 2) := by decide +kernel
theorem dX11_losesAll_26 : decode cX11_losesAll 26 = .ok (.iload_n 2, 1) := by decide +kernel
theorem dX11_losesAll_27 : decode cX11_losesAll 27 = .ok (.imul, 1) := by decide +kernel
theorem dX11_losesAll_28 : decode cX11_losesAll 28 = .ok (.iload_n 3, 1) := by decide +kernel
theorem dX11_losesAll_29 : decode cX11_losesAll 29 = .ok (.iadd, 1) := by decide +kernel
theorem dX11_losesAll_30 : decode cX11_losesAll 30 = .ok (.aload_n 0, 1) := by decide +kernel
theorem dX11_losesAll_31 : decode cX11_losesAll 31 = .ok (.iload_n 2, 1) := by decide +kernel
theorem dX11_losesAll_32 : decode cX11_losesAll 32 = .ok (.iload_n 3, 1) := by decide +kernel
theorem dX11_losesAll_33 : decode cX11_losesAll 33 = .ok (.iload_n 1, 1) := by decide +kernel
theorem dX11_losesAll_34 : decode cX11_losesAll 34 = .ok (.invokevirtual 132, 3) := by decide +kernel
theorem dX11_losesAll_37 : decode cX11_losesAll 37 = .ok (.iastore, 1) := by decide +kernel
theorem dX11_losesAll_38 : decode cX11_losesAll 38 = .ok (.iinc 3 1, 3) := by decide +kernel
theorem dX11_losesAll_41 : decode cX11_losesAll 41 = .ok (.goto (-29), 3) := by decide +kernel
theorem dX11_losesAll_44 : decode cX11_losesAll 44 = .ok (.iinc 2 1, 3) := by decide +kernel
theorem dX11_losesAll_47 : decode cX11_losesAll 47 = .ok (.goto (-45), 3) := by decide +kernel
theorem dX11_losesAll_50 : decode cX11_losesAll 50 = .ok (.return_, 1) := by decide +kernel
theorem dX11_least_0 : decode cX11_least 0 = .ok (.aload_n 0, 1) := by decide +kernel
theorem dX11_least_1 : decode cX11_least 1 = .ok (.iload_n 1, 1) := by decide +kernel
theorem dX11_least_2 : decode cX11_least 2 = .ok (.aload_n 0, 1) := by decide +kernel
theorem dX11_least_3 : decode cX11_least 3 = .ok (.iload_n 1, 1) := by decide +kernel
theorem dX11_least_4 : decode cX11_least 4 = .ok (.iaload, 1) := by decide +kernel
theorem dX11_least_5 : decode cX11_least 5 = .ok (.ifCond .ge 7, 3) := by decide +kernel
theorem dX11_least_8 : decode cX11_least 8 = .ok (.iload_n 2, 1) := by decide +kernel
theorem dX11_least_9 : decode cX11_least 9 = .ok (.goto 10, 3) := by decide +kernel
theorem dX11_least_12 : decode cX11_least 12 = .ok (.aload_n 0, 1) := by decide +kernel
theorem dX11_least_13 : decode cX11_least 13 = .ok (.iload_n 1, 1) := by decide +kernel
theorem dX11_least_14 : decode cX11_least 14 = .ok (.iaload, 1) := by decide +kernel
theorem dX11_least_15 : decode cX11_least 15 = .ok (.iload_n 2, 1) := by decide +kernel
theorem dX11_least_16 : decode cX11_least 16 = .ok (.invokestatic 95, 3) := by decide +kernel
theorem dX11_least_19 : decode cX11_least 19 = .ok (.iastore, 1) := by decide +kernel
theorem dX11_least_20 : decode cX11_least 20 = .ok (.return_, 1) := by decide +kernel
theorem dX11_goesFrom_0 : decode cX11_goesFrom 0 = .ok (.iload_n 3, 1) := by decide +kernel
theorem dX11_goesFrom_1 : decode cX11_goesFrom 1 = .ok (.ifCond .ne 39, 3) := by decide +kernel
theorem dX11_goesFrom_4 : decode cX11_goesFrom 4 = .ok (.aload_n 0, 1) := by decide +kernel
theorem dX11_goesFrom_5 : decode cX11_goesFrom 5 = .ok (.getfield 350, 3) := by decide +kernel
theorem dX11_goesFrom_8 : decode cX11_goesFrom 8 = .ok (.ifCond .lt 20, 3) := by decide +kernel
theorem dX11_goesFrom_11 : decode cX11_goesFrom 11 = .ok (.iload_n 1, 1) := by decide +kernel
theorem dX11_goesFrom_12 : decode cX11_goesFrom 12 = .ok (.aload_n 0, 1) := by decide +kernel
theorem dX11_goesFrom_13 : decode cX11_goesFrom 13 = .ok (.getfield 350, 3) := by decide +kernel
theorem dX11_goesFrom_16 : decode cX11_goesFrom 16 = .ok (.if_icmp .ne 23, 3) := by decide +kernel
theorem dX11_goesFrom_19 : decode cX11_goesFrom 19 = .ok (.iload 4, 2) := by decide +kernel
theorem dX11_goesFrom_21 : decode cX11_goesFrom 21 = .ok (.aload_n 0, 1) := by decide +kernel
theorem dX11_goesFrom_22 : decode cX11_goesFrom 22 = .ok (.getfield 360, 3) := by decide +kernel
theorem dX11_goesFrom_25 : decode cX11_goesFrom 25 = .ok (.if_icmp .ge 14, 3) := by decide +kernel
theorem dX11_goesFrom_28 : decode cX11_goesFrom 28 = .ok (.aload_n 0, 1) := by decide +kernel
theorem dX11_goesFrom_29 : decode cX11_goesFrom 29 = .ok (.iload_n 1, 1) := by decide +kernel
theorem dX11_goesFrom_30 : decode cX11_goesFrom 30 = .ok (.putfield 350, 3) := by decide +kernel
theorem dX11_goesFrom_33 : decode cX11_goesFrom 33 = .ok (.aload_n 0, 1) := by decide +kernel
theorem dX11_goesFrom_34 : decode cX11_goesFrom 34 = .ok (.iload 4, 2) := by decide +kernel
theorem dX11_goesFrom_36 : decode cX11_goesFrom 36 = .ok (.putfield 360, 3) := by decide +kernel
theorem dX11_goesFrom_39 : decode cX11_goesFrom 39 = .ok (.return_, 1) := by decide +kernel
theorem dX11_goesFrom_40 : decode cX11_goesFrom 40 = .ok (.aload_n 0, 1) := by decide +kernel
theorem dX11_goesFrom_41 : decode cX11_goesFrom 41 = .ok (.getfield 347, 3) := by decide +kernel
theorem dX11_goesFrom_44 : decode cX11_goesFrom 44 = .ok (.iload_n 1, 1) := by decide +kernel
theorem dX11_goesFrom_45 : decode cX11_goesFrom 45 = .ok (.iload_n 2, 1) := by decide +kernel
theorem dX11_goesFrom_46 : decode cX11_goesFrom 46 = .ok (.iload_n 3, 1) := by decide +kernel
theorem dX11_goesFrom_47 : decode cX11_goesFrom 47 = .ok (.invokestatic 344, 3) := by decide +kernel
theorem dX11_goesFrom_50 : decode cX11_goesFrom 50 = .ok (.iload 4, 2) := by decide +kernel
theorem dX11_goesFrom_52 : decode cX11_goesFrom 52 = .ok (.invokestatic 363, 3) := by decide +kernel
theorem dX11_goesFrom_55 : decode cX11_goesFrom 55 = .ok (.iconst 0, 1) := by decide +kernel
theorem dX11_goesFrom_56 : decode cX11_goesFrom 56 = .ok (.istore 6, 2) := by decide +kernel
theorem dX11_goesFrom_58 : decode cX11_goesFrom 58 = .ok (.iload 6, 2) := by decide +kernel
theorem dX11_goesFrom_60 : decode cX11_goesFrom 60 = .ok (.aload_n 0, 1) := by decide +kernel
theorem dX11_goesFrom_61 : decode cX11_goesFrom 61 = .ok (.getfield 22, 3) := by decide +kernel
theorem dX11_goesFrom_64 : decode cX11_goesFrom 64 = .ok (.if_icmp .ge 58, 3) := by decide +kernel
theorem dX11_goesFrom_67 : decode cX11_goesFrom 67 = .ok (.iload_n 1, 1) := by decide +kernel
theorem dX11_goesFrom_68 : decode cX11_goesFrom 68 = .ok (.iload 5, 2) := by decide +kernel
theorem dX11_goesFrom_70 : decode cX11_goesFrom 70 = .ok (.if_icmp .ge 52, 3) := by decide +kernel
theorem dX11_goesFrom_73 : decode cX11_goesFrom 73 = .ok (.iload 6, 2) := by decide +kernel
theorem dX11_goesFrom_75 : decode cX11_goesFrom 75 = .ok (.iload_n 2, 1) := by decide +kernel
theorem dX11_goesFrom_76 : decode cX11_goesFrom 76 = .ok (.if_icmp .eq 40, 3) := by decide +kernel
theorem dX11_goesFrom_79 : decode cX11_goesFrom 79 = .ok (.aload_n 0, 1) := by decide +kernel
theorem dX11_goesFrom_80 : decode cX11_goesFrom 80 = .ok (.getfield 347, 3) := by decide +kernel
theorem dX11_goesFrom_83 : decode cX11_goesFrom 83 = .ok (.iload_n 1, 1) := by decide +kernel
theorem dX11_goesFrom_84 : decode cX11_goesFrom 84 = .ok (.iconst 1, 1) := by decide +kernel
theorem dX11_goesFrom_85 : decode cX11_goesFrom 85 = .ok (.iadd, 1) := by decide +kernel
theorem dX11_goesFrom_86 : decode cX11_goesFrom 86 = .ok (.iload 6, 2) := by decide +kernel
theorem dX11_goesFrom_88 : decode cX11_goesFrom 88 = .ok (.iload_n 3, 1) := by decide +kernel
theorem dX11_goesFrom_89 : decode cX11_goesFrom 89 = .ok (.aload_n 0, 1) := by decide +kernel
theorem dX11_goesFrom_90 : decode cX11_goesFrom 90 = .ok (.getfield 335, 3) := by decide +kernel
theorem dX11_goesFrom_93 : decode cX11_goesFrom 93 = .ok (.bipush 6, 2) := by decide +kernel
theorem dX11_goesFrom_95 : decode cX11_goesFrom 95 = .ok (.iload_n 2, 1) := by decide +kernel
theorem dX11_goesFrom_96 : decode cX11_goesFrom 96 = .ok (.imul, 1) := by decide +kernel
theorem dX11_goesFrom_97 : decode cX11_goesFrom 97 = .ok (.iload 6, 2) := by decide +kernel
theorem dX11_goesFrom_99 : decode cX11_goesFrom 99 = .ok (.iadd, 1) := by decide +kernel
theorem dX11_goesFrom_100 : decode cX11_goesFrom 100 = .ok (.iaload, 1) := by decide +kernel
theorem dX11_goesFrom_101 : decode cX11_goesFrom 101 = .ok (.iadd, 1) := by decide +kernel
theorem dX11_goesFrom_102 : decode cX11_goesFrom 102 = .ok (.invokestatic 344, 3) := by decide +kernel
theorem dX11_goesFrom_105 : decode cX11_goesFrom 105 = .ok (.bipush 8, 2) := by decide +kernel
theorem dX11_goesFrom_107 : decode cX11_goesFrom 107 = .ok (.iload 4, 2) := by decide +kernel
theorem dX11_goesFrom_109 : decode cX11_goesFrom 109 = .ok (.imul, 1) := by decide +kernel
theorem dX11_goesFrom_110 : decode cX11_goesFrom 110 = .ok (.iload 6, 2) := by decide +kernel
theorem dX11_goesFrom_112 : decode cX11_goesFrom 112 = .ok (.iadd, 1) := by decide +kernel
theorem dX11_goesFrom_113 : decode cX11_goesFrom 113 = .ok (.invokestatic 363, 3) := by decide +kernel
theorem dX11_goesFrom_116 : decode cX11_goesFrom 116 = .ok (.iinc 6 1, 3) := by decide +kernel
theorem dX11_goesFrom_119 : decode cX11_goesFrom 119 = .ok (.goto (-61), 3) := by decide +kernel
theorem dX11_goesFrom_122 : decode cX11_goesFrom 122 = .ok (.return_, 1) := by decide +kernel
theorem dX11_soonest_0 : decode cX11_soonest 0 = .ok (.aload_n 0, 1) := by decide +kernel
theorem dX11_soonest_1 : decode cX11_soonest 1 = .ok (.aload_n 0, 1) := by decide +kernel
theorem dX11_soonest_2 : decode cX11_soonest 2 = .ok (.getfield 338, 3) := by decide +kernel
theorem dX11_soonest_5 : decode cX11_soonest 5 = .ok (.invokevirtual 341, 3) := by decide +kernel
theorem dX11_soonest_8 : decode cX11_soonest 8 = .ok (.aload_n 0, 1) := by decide +kernel
theorem dX11_soonest_9 : decode cX11_soonest 9 = .ok (.getfield 338, 3) := by decide +kernel
theorem dX11_soonest_12 : decode cX11_soonest 12 = .ok (.iconst 0, 1) := by decide +kernel
theorem dX11_soonest_13 : decode cX11_soonest 13 = .ok (.aload_n 0, 1) := by decide +kernel
theorem dX11_soonest_14 : decode cX11_soonest 14 = .ok (.getfield 143, 3) := by decide +kernel
theorem dX11_soonest_17 : decode cX11_soonest 17 = .ok (.iload_n 1, 1) := by decide +kernel
theorem dX11_soonest_18 : decode cX11_soonest 18 = .ok (.iaload, 1) := by decide +kernel
theorem dX11_soonest_19 : decode cX11_soonest 19 = .ok (.aload_n 0, 1) := by decide +kernel
theorem dX11_soonest_20 : decode cX11_soonest 20 = .ok (.getfield 146, 3) := by decide +kernel
theorem dX11_soonest_23 : decode cX11_soonest 23 = .ok (.iload_n 1, 1) := by decide +kernel
theorem dX11_soonest_24 : decode cX11_soonest 24 = .ok (.iaload, 1) := by decide +kernel
theorem dX11_soonest_25 : decode cX11_soonest 25 = .ok (.invokestatic 344, 3) := by decide +kernel
theorem dX11_soonest_28 : decode cX11_soonest 28 = .ok (.iconst 0, 1) := by decide +kernel
theorem dX11_soonest_29 : decode cX11_soonest 29 = .ok (.iastore, 1) := by decide +kernel
theorem dX11_soonest_30 : decode cX11_soonest 30 = .ok (.iload_n 2, 1) := by decide +kernel
theorem dX11_soonest_31 : decode cX11_soonest 31 = .ok (.istore 4, 2) := by decide +kernel
theorem dX11_soonest_33 : decode cX11_soonest 33 = .ok (.iload 4, 2) := by decide +kernel
theorem dX11_soonest_35 : decode cX11_soonest 35 = .ok (.sipush 2399, 3) := by decide +kernel
theorem dX11_soonest_38 : decode cX11_soonest 38 = .ok (.if_icmp .ge 193, 3) := by decide +kernel
theorem dX11_soonest_41 : decode cX11_soonest 41 = .ok (.aload_n 0, 1) := by decide +kernel
theorem dX11_soonest_42 : decode cX11_soonest 42 = .ok (.aload_n 0, 1) := by decide +kernel
theorem dX11_soonest_43 : decode cX11_soonest 43 = .ok (.getfield 347, 3) := by decide +kernel
theorem dX11_soonest_46 : decode cX11_soonest 46 = .ok (.invokevirtual 341, 3) := by decide +kernel
theorem dX11_soonest_49 : decode cX11_soonest 49 = .ok (.aload_n 0, 1) := by decide +kernel
theorem dX11_soonest_50 : decode cX11_soonest 50 = .ok (.iconst (-1), 1) := by decide +kernel
theorem dX11_soonest_51 : decode cX11_soonest 51 = .ok (.putfield 350, 3) := by decide +kernel
theorem dX11_soonest_54 : decode cX11_soonest 54 = .ok (.iload_n 3, 1) := by decide +kernel
theorem dX11_soonest_55 : decode cX11_soonest 55 = .ok (.ifCond .le 11, 3) := by decide +kernel
theorem dX11_soonest_58 : decode cX11_soonest 58 = .ok (.aload_n 0, 1) := by decide +kernel
theorem dX11_soonest_59 : decode cX11_soonest 59 = .ok (.iload 4, 2) := by decide +kernel
theorem dX11_soonest_61 : decode cX11_soonest 61 = .ok (.iconst 1, 1) := by decide +kernel
theorem dX11_soonest_62 : decode cX11_soonest 62 = .ok (.iadd, 1) := by decide +kernel
theorem dX11_soonest_63 : decode cX11_soonest 63 = .ok (.invokevirtual 353, 3) := by decide +kernel
theorem dX11_soonest_66 : decode cX11_soonest 66 = .ok (.iconst 0, 1) := by decide +kernel
theorem dX11_soonest_67 : decode cX11_soonest 67 = .ok (.istore 5, 2) := by decide +kernel
theorem dX11_soonest_69 : decode cX11_soonest 69 = .ok (.iload 5, 2) := by decide +kernel
theorem dX11_soonest_71 : decode cX11_soonest 71 = .ok (.iload_n 3, 1) := by decide +kernel
theorem dX11_soonest_72 : decode cX11_soonest 72 = .ok (.if_icmp .gt 121, 3) := by decide +kernel
theorem dX11_soonest_75 : decode cX11_soonest 75 = .ok (.iconst 0, 1) := by decide +kernel
theorem dX11_soonest_76 : decode cX11_soonest 76 = .ok (.istore 6, 2) := by decide +kernel
theorem dX11_soonest_78 : decode cX11_soonest 78 = .ok (.iload 6, 2) := by decide +kernel
theorem dX11_soonest_80 : decode cX11_soonest 80 = .ok (.aload_n 0, 1) := by decide +kernel
theorem dX11_soonest_81 : decode cX11_soonest 81 = .ok (.getfield 22, 3) := by decide +kernel
theorem dX11_soonest_84 : decode cX11_soonest 84 = .ok (.if_icmp .ge 103, 3) := by decide +kernel
theorem dX11_soonest_87 : decode cX11_soonest 87 = .ok (.aload_n 0, 1) := by decide +kernel
theorem dX11_soonest_88 : decode cX11_soonest 88 = .ok (.iload 6, 2) := by decide +kernel
theorem dX11_soonest_90 : decode cX11_soonest 90 = .ok (.iload 4, 2) := by decide +kernel
theorem dX11_soonest_92 : decode cX11_soonest 92 = .ok (.invokevirtual 120, 3) := by decide +kernel
theorem dX11_soonest_95 : decode cX11_soonest 95 = .ok (.ifCond .eq 26, 3) := by decide +kernel
theorem dX11_soonest_98 : decode cX11_soonest 98 = .ok (.aload_n 0, 1) := by decide +kernel
theorem dX11_soonest_99 : decode cX11_soonest 99 = .ok (.getfield 47, 3) := by decide +kernel
theorem dX11_soonest_102 : decode cX11_soonest 102 = .ok (.iload 6, 2) := by decide +kernel
theorem dX11_soonest_104 : decode cX11_soonest 104 = .ok (.iaload, 1) := by decide +kernel
theorem dX11_soonest_105 : decode cX11_soonest 105 = .ok (.aload_n 0, 1) := by decide +kernel
theorem dX11_soonest_106 : decode cX11_soonest 106 = .ok (.getfield 154, 3) := by decide +kernel
theorem dX11_soonest_109 : decode cX11_soonest 109 = .ok (.iload_n 1, 1) := by decide +kernel
theorem dX11_soonest_110 : decode cX11_soonest 110 = .ok (.iaload, 1) := by decide +kernel
theorem dX11_soonest_111 : decode cX11_soonest 111 = .ok (.invokestatic 137, 3) := by decide +kernel
theorem dX11_soonest_114 : decode cX11_soonest 114 = .ok (.ifCond .eq 7, 3) := by decide +kernel
theorem dX11_soonest_117 : decode cX11_soonest 117 = .ok (.iconst 1, 1) := by decide +kernel
theorem dX11_soonest_118 : decode cX11_soonest 118 = .ok (.goto 4, 3) := by decide +kernel
theorem dX11_soonest_121 : decode cX11_soonest 121 = .ok (.iconst 0, 1) := by decide +kernel
theorem dX11_soonest_122 : decode cX11_soonest 122 = .ok (.invokestatic 124, 3) := by decide +kernel
theorem dX11_soonest_125 : decode cX11_soonest 125 = .ok (.istore 7, 2) := by decide +kernel
theorem dX11_soonest_127 : decode cX11_soonest 127 = .ok (.iconst 1, 1) := by decide +kernel
theorem dX11_soonest_128 : decode cX11_soonest 128 = .ok (.istore 8, 2) := by decide +kernel
theorem dX11_soonest_130 : decode cX11_soonest 130 = .ok (.iload 8, 2) := by decide +kernel
theorem dX11_soonest_132 : decode cX11_soonest 132 = .ok (.sipush 128, 3) := by decide +kernel
theorem dX11_soonest_135 : decode cX11_soonest 135 = .ok (.if_icmp .ge 46, 3) := by decide +kernel
theorem dX11_soonest_138 : decode cX11_soonest 138 = .ok (.aload_n 0, 1) := by decide +kernel
theorem dX11_soonest_139 : decode cX11_soonest 139 = .ok (.getfield 338, 3) := by decide +kernel
theorem dX11_soonest_142 : decode cX11_soonest 142 = .ok (.iload 5, 2) := by decide +kernel
theorem dX11_soonest_144 : decode cX11_soonest 144 = .ok (.iload 6, 2) := by decide +kernel
theorem dX11_soonest_146 : decode cX11_soonest 146 = .ok (.iload 8, 2) := by decide +kernel
theorem dX11_soonest_148 : decode cX11_soonest 148 = .ok (.invokestatic 344, 3) := by decide +kernel
theorem dX11_soonest_151 : decode cX11_soonest 151 = .ok (.iaload, 1) := by decide +kernel
theorem dX11_soonest_152 : decode cX11_soonest 152 = .ok (.istore 9, 2) := by decide +kernel
theorem dX11_soonest_154 : decode cX11_soonest 154 = .ok (.iload 9, 2) := by decide +kernel
theorem dX11_soonest_156 : decode cX11_soonest 156 = .ok (.ifCond .lt 19, 3) := by decide +kernel
theorem dX11_soonest_159 : decode cX11_soonest 159 = .ok (.aload_n 0, 1) := by decide +kernel
theorem dX11_soonest_160 : decode cX11_soonest 160 = .ok (.iload 5, 2) := by decide +kernel
theorem dX11_soonest_162 : decode cX11_soonest 162 = .ok (.iload 6, 2) := by decide +kernel
theorem dX11_soonest_164 : decode cX11_soonest 164 = .ok (.iload 8, 2) := by decide +kernel
theorem dX11_soonest_166 : decode cX11_soonest 166 = .ok (.iload 7, 2) := by decide +kernel
theorem dX11_soonest_168 : decode cX11_soonest 168 = .ok (.isub, 1) := by decide +kernel
theorem dX11_soonest_169 : decode cX11_soonest 169 = .ok (.iload 9, 2) := by decide +kernel
theorem dX11_soonest_171 : decode cX11_soonest 171 = .ok (.iload_n 3, 1) := by decide +kernel
theorem dX11_soonest_172 : decode cX11_soonest 172 = .ok (.invokevirtual 356, 3) := by decide +kernel
theorem dX11_soonest_175 : decode cX11_soonest 175 = .ok (.iinc 8 1, 3) := by decide +kernel
theorem dX11_soonest_178 : decode cX11_soonest 178 = .ok (.goto (-48), 3) := by decide +kernel
theorem dX11_soonest_181 : decode cX11_soonest 181 = .ok (.iinc 6 1, 3) := by decide +kernel
theorem dX11_soonest_184 : decode cX11_soonest 184 = .ok (.goto (-106), 3) := by decide +kernel
theorem dX11_soonest_187 : decode cX11_soonest 187 = .ok (.iinc 5 1, 3) := by decide +kernel
theorem dX11_soonest_190 : decode cX11_soonest 190 = .ok (.goto (-121), 3) := by decide +kernel
theorem dX11_soonest_193 : decode cX11_soonest 193 = .ok (.aload_n 0, 1) := by decide +kernel
theorem dX11_soonest_194 : decode cX11_soonest 194 = .ok (.getfield 350, 3) := by decide +kernel
theorem dX11_soonest_197 : decode cX11_soonest 197 = .ok (.ifCond .lt 8, 3) := by decide +kernel
theorem dX11_soonest_200 : decode cX11_soonest 200 = .ok (.iload 4, 2) := by decide +kernel
theorem dX11_soonest_202 : decode cX11_soonest 202 = .ok (.iconst 1, 1) := by decide +kernel
theorem dX11_soonest_203 : decode cX11_soonest 203 = .ok (.iadd, 1) := by decide +kernel
theorem dX11_soonest_204 : decode cX11_soonest 204 = .ok (.ireturn, 1) := by decide +kernel
theorem dX11_soonest_205 : decode cX11_soonest 205 = .ok (.aload_n 0, 1) := by decide +kernel
theorem dX11_soonest_206 : decode cX11_soonest 206 = .ok (.getfield 338, 3) := by decide +kernel
theorem dX11_soonest_209 : decode cX11_soonest 209 = .ok (.astore 5, 2) := by decide +kernel
theorem dX11_soonest_211 : decode cX11_soonest 211 = .ok (.aload_n 0, 1) := by decide +kernel
theorem dX11_soonest_212 : decode cX11_soonest 212 = .ok (.aload_n 0, 1) := by decide +kernel
theorem dX11_soonest_213 : decode cX11_soonest 213 = .ok (.getfield 347, 3) := by decide +kernel
theorem dX11_soonest_216 : decode cX11_soonest 216 = .ok (.putfield 338, 3) := by decide +kernel
theorem dX11_soonest_219 : decode cX11_soonest 219 = .ok (.aload_n 0, 1) := by decide +kernel
theorem dX11_soonest_220 : decode cX11_soonest 220 = .ok (.aload 5, 2) := by decide +kernel
theorem dX11_soonest_222 : decode cX11_soonest 222 = .ok (.putfield 347, 3) := by decide +kernel
theorem dX11_soonest_225 : decode cX11_soonest 225 = .ok (.iinc 4 1, 3) := by decide +kernel
theorem dX11_soonest_228 : decode cX11_soonest 228 = .ok (.goto (-195), 3) := by decide +kernel
theorem dX11_soonest_231 : decode cX11_soonest 231 = .ok (.iconst (-1), 1) := by decide +kernel
theorem dX11_soonest_232 : decode cX11_soonest 232 = .ok (.ireturn, 1) := by decide +kernel
theorem dX11_entersRoute_0 : decode cX11_entersRoute 0 = .ok (.iload_n 1, 1) := by decide +kernel
theorem dX11_entersRoute_1 : decode cX11_entersRoute 1 = .ok (.iconst 1, 1) := by decide +kernel
theorem dX11_entersRoute_2 : decode cX11_entersRoute 2 = .ok (.isub, 1) := by decide +kernel
theorem dX11_entersRoute_3 : decode cX11_entersRoute 3 = .ok (.istore_n 3, 1) := by decide +kernel
theorem dX11_entersRoute_4 : decode cX11_entersRoute 4 = .ok (.iload_n 3, 1) := by decide +kernel
theorem dX11_entersRoute_5 : decode cX11_entersRoute 5 = .ok (.ifCond .lt 22, 3) := by decide +kernel
theorem dX11_entersRoute_8 : decode cX11_entersRoute 8 = .ok (.aload_n 0, 1) := by decide +kernel
theorem dX11_entersRoute_9 : decode cX11_entersRoute 9 = .ok (.iload_n 2, 1) := by decide +kernel
theorem dX11_entersRoute_10 : decode cX11_entersRoute 10 = .ok (.iconst 3, 1) := by decide +kernel
theorem dX11_entersRoute_11 : decode cX11_entersRoute 11 = .ok (.iload_n 3, 1) := by decide +kernel
theorem dX11_entersRoute_12 : decode cX11_entersRoute 12 = .ok (.imul, 1) := by decide +kernel
theorem dX11_entersRoute_13 : decode cX11_entersRoute 13 = .ok (.ishr, 1) := by decide +kernel
theorem dX11_entersRoute_14 : decode cX11_entersRoute 14 = .ok (.bipush 7, 2) := by decide +kernel
theorem dX11_entersRoute_16 : decode cX11_entersRoute 16 = .ok (.iand, 1) := by decide +kernel
theorem dX11_entersRoute_17 : decode cX11_entersRoute 17 = .ok (.i2l, 1) := by decide +kernel
theorem dX11_entersRoute_18 : decode cX11_entersRoute 18 = .ok (.invokevirtual 18, 3) := by decide +kernel
theorem dX11_entersRoute_21 : decode cX11_entersRoute 21 = .ok (.iinc 3 (-1), 3) := by decide +kernel
theorem dX11_entersRoute_24 : decode cX11_entersRoute 24 = .ok (.goto (-20), 3) := by decide +kernel
theorem dX11_entersRoute_27 : decode cX11_entersRoute 27 = .ok (.return_, 1) := by decide +kernel
theorem dX11_one_0 : decode cX11_one 0 = .ok (.aload_n 0, 1) := by decide +kernel
theorem dX11_one_1 : decode cX11_one 1 = .ok (.iconst 0, 1) := by decide +kernel
theorem dX11_one_2 : decode cX11_one 2 = .ok (.putfield 3, 3) := by decide +kernel
theorem dX11_one_5 : decode cX11_one 5 = .ok (.aload_n 0, 1) := by decide +kernel
theorem dX11_one_6 : decode cX11_one 6 = .ok (.iload_n 1, 1) := by decide +kernel
theorem dX11_one_7 : decode cX11_one 7 = .ok (.invokevirtual 256, 3) := by decide +kernel
theorem dX11_one_10 : decode cX11_one 10 = .ok (.ifCond .eq 22, 3) := by decide +kernel
theorem dX11_one_13 : decode cX11_one 13 = .ok (.iload_n 2, 1) := by decide +kernel
theorem dX11_one_14 : decode cX11_one 14 = .ok (.invokestatic 81, 3) := by decide +kernel
theorem dX11_one_17 : decode cX11_one 17 = .ok (.ifCond .eq 15, 3) := by decide +kernel
theorem dX11_one_20 : decode cX11_one 20 = .ok (.iload_n 3, 1) := by decide +kernel
theorem dX11_one_21 : decode cX11_one 21 = .ok (.i2l, 1) := by decide +kernel
theorem dX11_one_22 : decode cX11_one 22 = .ok (.lconst 0, 1) := by decide +kernel
theorem dX11_one_23 : decode cX11_one 23 = .ok (.ldc2_w 93, 3) := by decide +kernel
theorem dX11_one_26 : decode cX11_one 26 = .ok (.invokestatic 25, 3) := by decide +kernel
theorem dX11_one_29 : decode cX11_one 29 = .ok (.ifCond .ne 5, 3) := by decide +kernel
theorem dX11_one_32 : decode cX11_one 32 = .ok (.iconst (-1), 1) := by decide +kernel
theorem dX11_one_33 : decode cX11_one 33 = .ok (.ireturn, 1) := by decide +kernel
theorem dX11_one_34 : decode cX11_one 34 = .ok (.aload_n 0, 1) := by decide +kernel
theorem dX11_one_35 : decode cX11_one 35 = .ok (.iload_n 1, 1) := by decide +kernel
theorem dX11_one_36 : decode cX11_one 36 = .ok (.iload_n 2, 1) := by decide +kernel
theorem dX11_one_37 : decode cX11_one 37 = .ok (.iload_n 3, 1) := by decide +kernel
theorem dX11_one_38 : decode cX11_one 38 = .ok (.invokevirtual 367, 3) := by decide +kernel
theorem dX11_one_41 : decode cX11_one 41 = .ok (.istore 4, 2) := by decide +kernel
theorem dX11_one_43 : decode cX11_one 43 = .ok (.iload 4, 2) := by decide +kernel
theorem dX11_one_45 : decode cX11_one 45 = .ok (.ifCond .ge 6, 3) := by decide +kernel
theorem dX11_one_48 : decode cX11_one 48 = .ok (.bipush (-2), 2) := by decide +kernel
theorem dX11_one_50 : decode cX11_one 50 = .ok (.ireturn, 1) := by decide +kernel
theorem dX11_one_51 : decode cX11_one 51 = .ok (.aload_n 0, 1) := by decide +kernel
theorem dX11_one_52 : decode cX11_one 52 = .ok (.iconst 0, 1) := by decide +kernel
theorem dX11_one_53 : decode cX11_one 53 = .ok (.putfield 11, 3) := by decide +kernel
theorem dX11_one_56 : decode cX11_one 56 = .ok (.aload_n 0, 1) := by decide +kernel
theorem dX11_one_57 : decode cX11_one 57 = .ok (.aload_n 0, 1) := by decide +kernel
theorem dX11_one_58 : decode cX11_one 58 = .ok (.getfield 350, 3) := by decide +kernel
theorem dX11_one_61 : decode cX11_one 61 = .ok (.i2l, 1) := by decide +kernel
theorem dX11_one_62 : decode cX11_one 62 = .ok (.invokevirtual 18, 3) := by decide +kernel
theorem dX11_one_65 : decode cX11_one 65 = .ok (.aload_n 0, 1) := by decide +kernel
theorem dX11_one_66 : decode cX11_one 66 = .ok (.aload_n 0, 1) := by decide +kernel
theorem dX11_one_67 : decode cX11_one 67 = .ok (.getfield 350, 3) := by decide +kernel
theorem dX11_one_70 : decode cX11_one 70 = .ok (.aload_n 0, 1) := by decide +kernel
theorem dX11_one_71 : decode cX11_one 71 = .ok (.getfield 360, 3) := by decide +kernel
theorem dX11_one_74 : decode cX11_one 74 = .ok (.invokevirtual 370, 3) := by decide +kernel
theorem dX11_one_77 : decode cX11_one 77 = .ok (.iload 4, 2) := by decide +kernel
theorem dX11_one_79 : decode cX11_one 79 = .ok (.ireturn, 1) := by decide +kernel
theorem dX11_emptiesPaid_0 : decode cX11_emptiesPaid 0 = .ok (.iconst 0, 1) := by decide +kernel
theorem dX11_emptiesPaid_1 : decode cX11_emptiesPaid 1 = .ok (.istore_n 2, 1) := by decide +kernel
theorem dX11_emptiesPaid_2 : decode cX11_emptiesPaid 2 = .ok (.iload_n 2, 1) := by decide +kernel
theorem dX11_emptiesPaid_3 : decode cX11_emptiesPaid 3 = .ok (.aload_n 1, 1) := by decide +kernel
theorem dX11_emptiesPaid_4 : decode cX11_emptiesPaid 4 = .ok (.arraylength, 1) := by decide +kernel
theorem dX11_emptiesPaid_5 : decode cX11_emptiesPaid 5 = .ok (.if_icmp .ge 15, 3) := by decide +kernel
theorem dX11_emptiesPaid_8 : decode cX11_emptiesPaid 8 = .ok (.aload_n 1, 1) := by decide +kernel
theorem dX11_emptiesPaid_9 : decode cX11_emptiesPaid 9 = .ok (.iload_n 2, 1) := by decide +kernel
theorem dX11_emptiesPaid_10 : decode cX11_emptiesPaid 10 = .ok (.ldc2_w 84, 3) := by decide +kernel
theorem dX11_emptiesPaid_13 : decode cX11_emptiesPaid 13 = .ok (.lastore, 1) := by decide +kernel
theorem dX11_emptiesPaid_14 : decode cX11_emptiesPaid 14 = .ok (.iinc 2 1, 3) := by decide +kernel
theorem dX11_emptiesPaid_17 : decode cX11_emptiesPaid 17 = .ok (.goto (-15), 3) := by decide +kernel
theorem dX11_emptiesPaid_20 : decode cX11_emptiesPaid 20 = .ok (.return_, 1) := by decide +kernel
theorem dJ9_min_f86c9_0 : decode cJ9_min_f86c9 0 = .ok (.lload_n 0, 1) := by decide +kernel
theorem dJ9_min_f86c9_1 : decode cJ9_min_f86c9 1 = .ok (.lload_n 2, 1) := by decide +kernel
theorem dJ9_min_f86c9_2 : decode cJ9_min_f86c9 2 = .ok (.lcmp, 1) := by decide +kernel
theorem dJ9_min_f86c9_3 : decode cJ9_min_f86c9 3 = .ok (.ifCond .gt 7, 3) := by decide +kernel
theorem dJ9_min_f86c9_6 : decode cJ9_min_f86c9 6 = .ok (.lload_n 0, 1) := by decide +kernel
theorem dJ9_min_f86c9_7 : decode cJ9_min_f86c9 7 = .ok (.goto 4, 3) := by decide +kernel
theorem dJ9_min_f86c9_10 : decode cJ9_min_f86c9 10 = .ok (.lload_n 2, 1) := by decide +kernel
theorem dJ9_min_f86c9_11 : decode cJ9_min_f86c9 11 = .ok (.lreturn, 1) := by decide +kernel
theorem dX11_cheaper_0 : decode cX11_cheaper 0 = .ok (.aload_n 0, 1) := by decide +kernel
theorem dX11_cheaper_1 : decode cX11_cheaper 1 = .ok (.getfield 374, 3) := by decide +kernel
theorem dX11_cheaper_4 : decode cX11_cheaper 4 = .ok (.iload_n 1, 1) := by decide +kernel
theorem dX11_cheaper_5 : decode cX11_cheaper 5 = .ok (.aload_n 0, 1) := by decide +kernel
theorem dX11_cheaper_6 : decode cX11_cheaper 6 = .ok (.getfield 374, 3) := by decide +kernel
theorem dX11_cheaper_9 : decode cX11_cheaper 9 = .ok (.iload_n 1, 1) := by decide +kernel
theorem dX11_cheaper_10 : decode cX11_cheaper 10 = .ok (.laload, 1) := by decide +kernel
theorem dX11_cheaper_11 : decode cX11_cheaper 11 = .ok (.lconst 0, 1) := by decide +kernel
theorem dX11_cheaper_12 : decode cX11_cheaper 12 = .ok (.lcmp, 1) := by decide +kernel
theorem dX11_cheaper_13 : decode cX11_cheaper 13 = .ok (.ifCond .ge 7, 3) := by decide +kernel
theorem dX11_cheaper_16 : decode cX11_cheaper 16 = .ok (.lload_n 2, 1) := by decide +kernel
theorem dX11_cheaper_17 : decode cX11_cheaper 17 = .ok (.goto 13, 3) := by decide +kernel
theorem dX11_cheaper_20 : decode cX11_cheaper 20 = .ok (.aload_n 0, 1) := by decide +kernel
theorem dX11_cheaper_21 : decode cX11_cheaper 21 = .ok (.getfield 374, 3) := by decide +kernel
theorem dX11_cheaper_24 : decode cX11_cheaper 24 = .ok (.iload_n 1, 1) := by decide +kernel
theorem dX11_cheaper_25 : decode cX11_cheaper 25 = .ok (.laload, 1) := by decide +kernel
theorem dX11_cheaper_26 : decode cX11_cheaper 26 = .ok (.lload_n 2, 1) := by decide +kernel
theorem dX11_cheaper_27 : decode cX11_cheaper 27 = .ok (.invokestatic 377, 3) := by decide +kernel
theorem dX11_cheaper_30 : decode cX11_cheaper 30 = .ok (.lastore, 1) := by decide +kernel
theorem dX11_cheaper_31 : decode cX11_cheaper 31 = .ok (.return_, 1) := by decide +kernel
theorem dX11_goesPaid_0 : decode cX11_goesPaid 0 = .ok (.iload_n 3, 1) := by decide +kernel
theorem dX11_goesPaid_1 : decode cX11_goesPaid 1 = .ok (.ifCond .ne 115, 3) := by decide +kernel
theorem dX11_goesPaid_4 : decode cX11_goesPaid 4 = .ok (.aload_n 0, 1) := by decide +kernel
theorem dX11_goesPaid_5 : decode cX11_goesPaid 5 = .ok (.getfield 379, 3) := by decide +kernel
theorem dX11_goesPaid_8 : decode cX11_goesPaid 8 = .ok (.ifCond .lt 21, 3) := by decide +kernel
theorem dX11_goesPaid_11 : decode cX11_goesPaid 11 = .ok (.lload 4, 2) := by decide +kernel
theorem dX11_goesPaid_13 : decode cX11_goesPaid 13 = .ok (.ldc2_w 382, 3) := by decide +kernel
theorem dX11_goesPaid_16 : decode cX11_goesPaid 16 = .ok (.ldiv, 1) := by decide +kernel
theorem dX11_goesPaid_17 : decode cX11_goesPaid 17 = .ok (.aload_n 0, 1) := by decide +kernel
theorem dX11_goesPaid_18 : decode cX11_goesPaid 18 = .ok (.getfield 384, 3) := by decide +kernel
theorem dX11_goesPaid_21 : decode cX11_goesPaid 21 = .ok (.ldc2_w 382, 3) := by decide +kernel
theorem dX11_goesPaid_24 : decode cX11_goesPaid 24 = .ok (.ldiv, 1) := by decide +kernel
theorem dX11_goesPaid_25 : decode cX11_goesPaid 25 = .ok (.lcmp, 1) := by decide +kernel
theorem dX11_goesPaid_26 : decode cX11_goesPaid 26 = .ok (.ifCond .ge 7, 3) := by decide +kernel
theorem dX11_goesPaid_29 : decode cX11_goesPaid 29 = .ok (.iconst 1, 1) := by decide +kernel
theorem dX11_goesPaid_30 : decode cX11_goesPaid 30 = .ok (.goto 4, 3) := by decide +kernel
theorem dX11_goesPaid_33 : decode cX11_goesPaid 33 = .ok (.iconst 0, 1) := by decide +kernel
theorem dX11_goesPaid_34 : decode cX11_goesPaid 34 = .ok (.istore 7, 2) := by decide +kernel
theorem dX11_goesPaid_36 : decode cX11_goesPaid 36 = .ok (.aload_n 0, 1) := by decide +kernel
theorem dX11_goesPaid_37 : decode cX11_goesPaid 37 = .ok (.getfield 379, 3) := by decide +kernel
theorem dX11_goesPaid_40 : decode cX11_goesPaid 40 = .ok (.ifCond .lt 25, 3) := by decide +kernel
theorem dX11_goesPaid_43 : decode cX11_goesPaid 43 = .ok (.lload 4, 2) := by decide +kernel
theorem dX11_goesPaid_45 : decode cX11_goesPaid 45 = .ok (.ldc2_w 382, 3) := by decide +kernel
theorem dX11_goesPaid_48 : decode cX11_goesPaid 48 = .ok (.ldiv, 1) := by decide +kernel
theorem dX11_goesPaid_49 : decode cX11_goesPaid 49 = .ok (.aload_n 0, 1) := by decide +kernel
theorem dX11_goesPaid_50 : decode cX11_goesPaid 50 = .ok (.getfield 384, 3) := by decide +kernel
theorem dX11_goesPaid_53 : decode cX11_goesPaid 53 = .ok (.ldc2_w 382, 3) := by decide +kernel
theorem dX11_goesPaid_56 : decode cX11_goesPaid 56 = .ok (.ldiv, 1) := by decide +kernel
theorem dX11_goesPaid_57 : decode cX11_goesPaid 57 = .ok (.lcmp, 1) := by decide +kernel
theorem dX11_goesPaid_58 : decode cX11_goesPaid 58 = .ok (.ifCond .ne 7, 3) := by decide +kernel
theorem dX11_goesPaid_61 : decode cX11_goesPaid 61 = .ok (.iconst 1, 1) := by decide +kernel
theorem dX11_goesPaid_62 : decode cX11_goesPaid 62 = .ok (.goto 4, 3) := by decide +kernel
theorem dX11_goesPaid_65 : decode cX11_goesPaid 65 = .ok (.iconst 0, 1) := by decide +kernel
theorem dX11_goesPaid_66 : decode cX11_goesPaid 66 = .ok (.istore 8, 2) := by decide +kernel
theorem dX11_goesPaid_68 : decode cX11_goesPaid 68 = .ok (.iload 7, 2) := by decide +kernel
theorem dX11_goesPaid_70 : decode cX11_goesPaid 70 = .ok (.ifCond .ne 34, 3) := by decide +kernel
theorem dX11_goesPaid_73 : decode cX11_goesPaid 73 = .ok (.iload 8, 2) := by decide +kernel
theorem dX11_goesPaid_75 : decode cX11_goesPaid 75 = .ok (.ifCond .eq 40, 3) := by decide +kernel
theorem dX11_goesPaid_78 : decode cX11_goesPaid 78 = .ok (.iload_n 1, 1) := by decide +kernel
theorem dX11_goesPaid_79 : decode cX11_goesPaid 79 = .ok (.aload_n 0, 1) := by decide +kernel
theorem dX11_goesPaid_80 : decode cX11_goesPaid 80 = .ok (.getfield 379, 3) := by decide +kernel
theorem dX11_goesPaid_83 : decode cX11_goesPaid 83 = .ok (.if_icmp .lt 21, 3) := by decide +kernel
theorem dX11_goesPaid_86 : decode cX11_goesPaid 86 = .ok (.iload_n 1, 1) := by decide +kernel
theorem dX11_goesPaid_87 : decode cX11_goesPaid 87 = .ok (.aload_n 0, 1) := by decide +kernel
theorem dX11_goesPaid_88 : decode cX11_goesPaid 88 = .ok (.getfield 379, 3) := by decide +kernel
theorem dX11_goesPaid_91 : decode cX11_goesPaid 91 = .ok (.if_icmp .ne 24, 3) := by decide +kernel
theorem dX11_goesPaid_94 : decode cX11_goesPaid 94 = .ok (.lload 4, 2) := by decide +kernel
theorem dX11_goesPaid_96 : decode cX11_goesPaid 96 = .ok (.aload_n 0, 1) := by decide +kernel
theorem dX11_goesPaid_97 : decode cX11_goesPaid 97 = .ok (.getfield 384, 3) := by decide +kernel
theorem dX11_goesPaid_100 : decode cX11_goesPaid 100 = .ok (.lcmp, 1) := by decide +kernel
theorem dX11_goesPaid_101 : decode cX11_goesPaid 101 = .ok (.ifCond .ge 14, 3) := by decide +kernel
theorem dX11_goesPaid_104 : decode cX11_goesPaid 104 = .ok (.aload_n 0, 1) := by decide +kernel
theorem dX11_goesPaid_105 : decode cX11_goesPaid 105 = .ok (.lload 4, 2) := by decide +kernel
theorem dX11_goesPaid_107 : decode cX11_goesPaid 107 = .ok (.putfield 384, 3) := by decide +kernel
theorem dX11_goesPaid_110 : decode cX11_goesPaid 110 = .ok (.aload_n 0, 1) := by decide +kernel
theorem dX11_goesPaid_111 : decode cX11_goesPaid 111 = .ok (.iload_n 1, 1) := by decide +kernel
theorem dX11_goesPaid_112 : decode cX11_goesPaid 112 = .ok (.putfield 379, 3) := by decide +kernel
theorem dX11_goesPaid_115 : decode cX11_goesPaid 115 = .ok (.return_, 1) := by decide +kernel
theorem dX11_goesPaid_116 : decode cX11_goesPaid 116 = .ok (.aload_n 0, 1) := by decide +kernel
theorem dX11_goesPaid_117 : decode cX11_goesPaid 117 = .ok (.iload_n 1, 1) := by decide +kernel
theorem dX11_goesPaid_118 : decode cX11_goesPaid 118 = .ok (.iload_n 2, 1) := by decide +kernel
theorem dX11_goesPaid_119 : decode cX11_goesPaid 119 = .ok (.iload_n 3, 1) := by decide +kernel
theorem dX11_goesPaid_120 : decode cX11_goesPaid 120 = .ok (.invokestatic 344, 3) := by decide +kernel
theorem dX11_goesPaid_123 : decode cX11_goesPaid 123 = .ok (.lload 4, 2) := by decide +kernel
theorem dX11_goesPaid_125 : decode cX11_goesPaid 125 = .ok (.invokevirtual 388, 3) := by decide +kernel
theorem dX11_goesPaid_128 : decode cX11_goesPaid 128 = .ok (.iconst 0, 1) := by decide +kernel
theorem dX11_goesPaid_129 : decode cX11_goesPaid 129 = .ok (.istore 7, 2) := by decide +kernel
theorem dX11_goesPaid_131 : decode cX11_goesPaid 131 = .ok (.iload 7, 2) := by decide +kernel
theorem dX11_goesPaid_133 : decode cX11_goesPaid 133 = .ok (.aload_n 0, 1) := by decide +kernel
theorem dX11_goesPaid_134 : decode cX11_goesPaid 134 = .ok (.getfield 22, 3) := by decide +kernel
theorem dX11_goesPaid_137 : decode cX11_goesPaid 137 = .ok (.if_icmp .ge 76, 3) := by decide +kernel
theorem dX11_goesPaid_140 : decode cX11_goesPaid 140 = .ok (.iload_n 1, 1) := by decide +kernel
theorem dX11_goesPaid_141 : decode cX11_goesPaid 141 = .ok (.iload 6, 2) := by decide +kernel
theorem dX11_goesPaid_143 : decode cX11_goesPaid 143 = .ok (.if_icmp .ge 70, 3) := by decide +kernel
theorem dX11_goesPaid_146 : decode cX11_goesPaid 146 = .ok (.iload 7, 2) := by decide +kernel
theorem dX11_goesPaid_148 : decode cX11_goesPaid 148 = .ok (.iload_n 2, 1) := by decide +kernel
theorem dX11_goesPaid_149 : decode cX11_goesPaid 149 = .ok (.if_icmp .eq 58, 3) := by decide +kernel
theorem dX11_goesPaid_152 : decode cX11_goesPaid 152 = .ok (.lload 4, 2) := by decide +kernel
theorem dX11_goesPaid_154 : decode cX11_goesPaid 154 = .ok (.ldc2_w 382, 3) := by decide +kernel
theorem dX11_goesPaid_157 : decode cX11_goesPaid 157 = .ok (.lrem, 1) := by decide +kernel
theorem dX11_goesPaid_158 : decode cX11_goesPaid 158 = .ok (.ldc2_w 311, 3) := by decide +kernel
theorem dX11_goesPaid_161 : decode cX11_goesPaid 161 = .ok (.lmul, 1) := by decide +kernel
theorem dX11_goesPaid_162 : decode cX11_goesPaid 162 = .ok (.iload 7, 2) := by decide +kernel
theorem dX11_goesPaid_164 : decode cX11_goesPaid 164 = .ok (.i2l, 1) := by decide +kernel
theorem dX11_goesPaid_165 : decode cX11_goesPaid 165 = .ok (.ladd, 1) := by decide +kernel
theorem dX11_goesPaid_166 : decode cX11_goesPaid 166 = .ok (.lstore 8, 2) := by decide +kernel
theorem dX11_goesPaid_168 : decode cX11_goesPaid 168 = .ok (.aload_n 0, 1) := by decide +kernel
theorem dX11_goesPaid_169 : decode cX11_goesPaid 169 = .ok (.iload_n 1, 1) := by decide +kernel
theorem dX11_goesPaid_170 : decode cX11_goesPaid 170 = .ok (.iconst 1, 1) := by decide +kernel
theorem dX11_goesPaid_171 : decode cX11_goesPaid 171 = .ok (.iadd, 1) := by decide +kernel
theorem dX11_goesPaid_172 : decode cX11_goesPaid 172 = .ok (.iload 7, 2) := by decide +kernel
theorem dX11_goesPaid_174 : decode cX11_goesPaid 174 = .ok (.iload_n 3, 1) := by decide +kernel
theorem dX11_goesPaid_175 : decode cX11_goesPaid 175 = .ok (.aload_n 0, 1) := by decide +kernel
theorem dX11_goesPaid_176 : decode cX11_goesPaid 176 = .ok (.getfield 335, 3) := by decide +kernel
theorem dX11_goesPaid_179 : decode cX11_goesPaid 179 = .ok (.bipush 6, 2) := by decide +kernel
theorem dX11_goesPaid_181 : decode cX11_goesPaid 181 = .ok (.iload_n 2, 1) := by decide +kernel
theorem dX11_goesPaid_182 : decode cX11_goesPaid 182 = .ok (.imul, 1) := by decide +kernel
theorem dX11_goesPaid_183 : decode cX11_goesPaid 183 = .ok (.iload 7, 2) := by decide +kernel
theorem dX11_goesPaid_185 : decode cX11_goesPaid 185 = .ok (.iadd, 1) := by decide +kernel
theorem dX11_goesPaid_186 : decode cX11_goesPaid 186 = .ok (.iaload, 1) := by decide +kernel
theorem dX11_goesPaid_187 : decode cX11_goesPaid 187 = .ok (.iadd, 1) := by decide +kernel
theorem dX11_goesPaid_188 : decode cX11_goesPaid 188 = .ok (.invokestatic 344, 3) := by decide +kernel
theorem dX11_goesPaid_191 : decode cX11_goesPaid 191 = .ok (.lload 4, 2) := by decide +kernel
theorem dX11_goesPaid_193 : decode cX11_goesPaid 193 = .ok (.ldc2_w 382, 3) := by decide +kernel
theorem dX11_goesPaid_196 : decode cX11_goesPaid 196 = .ok (.ldiv, 1) := by decide +kernel
theorem dX11_goesPaid_197 : decode cX11_goesPaid 197 = .ok (.ldc2_w 382, 3) := by decide +kernel
theorem dX11_goesPaid_200 : decode cX11_goesPaid 200 = .ok (.lmul, 1) := by decide +kernel
theorem dX11_goesPaid_201 : decode cX11_goesPaid 201 = .ok (.lload 8, 2) := by decide +kernel
theorem dX11_goesPaid_203 : decode cX11_goesPaid 203 = .ok (.ladd, 1) := by decide +kernel
theorem dX11_goesPaid_204 : decode cX11_goesPaid 204 = .ok (.invokevirtual 388, 3) := by decide +kernel
theorem dX11_goesPaid_207 : decode cX11_goesPaid 207 = .ok (.iinc 7 1, 3) := by decide +kernel
theorem dX11_goesPaid_210 : decode cX11_goesPaid 210 = .ok (.goto (-79), 3) := by decide +kernel
theorem dX11_goesPaid_213 : decode cX11_goesPaid 213 = .ok (.return_, 1) := by decide +kernel
theorem dX11_cheap_0 : decode cX11_cheap 0 = .ok (.aload_n 0, 1) := by decide +kernel
theorem dX11_cheap_1 : decode cX11_cheap 1 = .ok (.iconst 0, 1) := by decide +kernel
theorem dX11_cheap_2 : decode cX11_cheap 2 = .ok (.putfield 3, 3) := by decide +kernel
theorem dX11_cheap_5 : decode cX11_cheap 5 = .ok (.aload_n 0, 1) := by decide +kernel
theorem dX11_cheap_6 : decode cX11_cheap 6 = .ok (.iload_n 1, 1) := by decide +kernel
theorem dX11_cheap_7 : decode cX11_cheap 7 = .ok (.invokevirtual 256, 3) := by decide +kernel
theorem dX11_cheap_10 : decode cX11_cheap 10 = .ok (.ifCond .eq 45, 3) := by decide +kernel
theorem dX11_cheap_13 : decode cX11_cheap 13 = .ok (.iload_n 2, 1) := by decide +kernel
theorem dX11_cheap_14 : decode cX11_cheap 14 = .ok (.invokestatic 81, 3) := by decide +kernel
theorem dX11_cheap_17 : decode cX11_cheap 17 = .ok (.ifCond .eq 38, 3) := by decide +kernel
theorem dX11_cheap_20 : decode cX11_cheap 20 = .ok (.iload_n 3, 1) := by decide +kernel
theorem dX11_cheap_21 : decode cX11_cheap 21 = .ok (.i2l, 1) := by decide +kernel
theorem dX11_cheap_22 : decode cX11_cheap 22 = .ok (.lconst 0, 1) := by decide +kernel
theorem dX11_cheap_23 : decode cX11_cheap 23 = .ok (.ldc2_w 392, 3) := by decide +kernel
theorem dX11_cheap_26 : decode cX11_cheap 26 = .ok (.invokestatic 25, 3) := by decide +kernel
theorem dX11_cheap_29 : decode cX11_cheap 29 = .ok (.ifCond .eq 26, 3) := by decide +kernel
theorem dX11_cheap_32 : decode cX11_cheap 32 = .ok (.iload 4, 2) := by decide +kernel
theorem dX11_cheap_34 : decode cX11_cheap 34 = .ok (.i2l, 1) := by decide +kernel
theorem dX11_cheap_35 : decode cX11_cheap 35 = .ok (.iload_n 2, 1) := by decide +kernel
theorem dX11_cheap_36 : decode cX11_cheap 36 = .ok (.i2l, 1) := by decide +kernel
theorem dX11_cheap_37 : decode cX11_cheap 37 = .ok (.sipush 2399, 3) := by decide +kernel
theorem dX11_cheap_40 : decode cX11_cheap 40 = .ok (.iload_n 2, 1) := by decide +kernel
theorem dX11_cheap_41 : decode cX11_cheap 41 = .ok (.sipush 400, 3) := by decide +kernel
theorem dX11_cheap_44 : decode cX11_cheap 44 = .ok (.iadd, 1) := by decide +kernel
theorem dX11_cheap_45 : decode cX11_cheap 45 = .ok (.invokestatic 95, 3) := by decide +kernel
theorem dX11_cheap_48 : decode cX11_cheap 48 = .ok (.i2l, 1) := by decide +kernel
theorem dX11_cheap_49 : decode cX11_cheap 49 = .ok (.invokestatic 25, 3) := by decide +kernel
theorem dX11_cheap_52 : decode cX11_cheap 52 = .ok (.ifCond .ne 5, 3) := by decide +kernel
theorem dX11_cheap_55 : decode cX11_cheap 55 = .ok (.iconst (-1), 1) := by decide +kernel
theorem dX11_cheap_56 : decode cX11_cheap 56 = .ok (.ireturn, 1) := by decide +kernel
theorem dX11_cheap_57 : decode cX11_cheap 57 = .ok (.aload_n 0, 1) := by decide +kernel
theorem dX11_cheap_58 : decode cX11_cheap 58 = .ok (.aload_n 0, 1) := by decide +kernel
theorem dX11_cheap_59 : decode cX11_cheap 59 = .ok (.getfield 394, 3) := by decide +kernel
theorem dX11_cheap_62 : decode cX11_cheap 62 = .ok (.invokevirtual 397, 3) := by decide +kernel
theorem dX11_cheap_65 : decode cX11_cheap 65 = .ok (.aload_n 0, 1) := by decide +kernel
theorem dX11_cheap_66 : decode cX11_cheap 66 = .ok (.getfield 394, 3) := by decide +kernel
theorem dX11_cheap_69 : decode cX11_cheap 69 = .ok (.iconst 0, 1) := by decide +kernel
theorem dX11_cheap_70 : decode cX11_cheap 70 = .ok (.aload_n 0, 1) := by decide +kernel
theorem dX11_cheap_71 : decode cX11_cheap 71 = .ok (.getfield 143, 3) := by decide +kernel
theorem dX11_cheap_74 : decode cX11_cheap 74 = .ok (.iload_n 1, 1) := by decide +kernel
theorem dX11_cheap_75 : decode cX11_cheap 75 = .ok (.iaload, 1) := by decide +kernel
theorem dX11_cheap_76 : decode cX11_cheap 76 = .ok (.aload_n 0, 1) := by decide +kernel
theorem dX11_cheap_77 : decode cX11_cheap 77 = .ok (.getfield 146, 3) := by decide +kernel
theorem dX11_cheap_80 : decode cX11_cheap 80 = .ok (.iload_n 1, 1) := by decide +kernel
theorem dX11_cheap_81 : decode cX11_cheap 81 = .ok (.iaload, 1) := by decide +kernel
theorem dX11_cheap_82 : decode cX11_cheap 82 = .ok (.invokestatic 344, 3) := by decide +kernel
theorem dX11_cheap_85 : decode cX11_cheap 85 = .ok (.lconst 0, 1) := by decide +kernel
theorem dX11_cheap_86 : decode cX11_cheap 86 = .ok (.lastore, 1) := by decide +kernel
theorem dX11_cheap_87 : decode cX11_cheap 87 = .ok (.aload_n 0, 1) := by decide +kernel
theorem dX11_cheap_88 : decode cX11_cheap 88 = .ok (.iconst (-1), 1) := by decide +kernel
theorem dX11_cheap_89 : decode cX11_cheap 89 = .ok (.putfield 379, 3) := by decide +kernel
theorem dX11_cheap_92 : decode cX11_cheap 92 = .ok (.iload_n 2, 1) := by decide +kernel
theorem dX11_cheap_93 : decode cX11_cheap 93 = .ok (.istore 5, 2) := by decide +kernel
theorem dX11_cheap_95 : decode cX11_cheap 95 = .ok (.iload 5, 2) := by decide +kernel
theorem dX11_cheap_97 : decode cX11_cheap 97 = .ok (.iload 4, 2) := by decide +kernel
theorem dX11_cheap_99 : decode cX11_cheap 99 = .ok (.if_icmp .ge 204, 3) := by decide +kernel
theorem dX11_cheap_102 : decode cX11_cheap 102 = .ok (.aload_n 0, 1) := by decide +kernel
theorem dX11_cheap_103 : decode cX11_cheap 103 = .ok (.aload_n 0, 1) := by decide +kernel
theorem dX11_cheap_104 : decode cX11_cheap 104 = .ok (.getfield 374, 3) := by decide +kernel
theorem dX11_cheap_107 : decode cX11_cheap 107 = .ok (.invokevirtual 397, 3) := by decide +kernel
theorem dX11_cheap_110 : decode cX11_cheap 110 = .ok (.aload_n 0, 1) := by decide +kernel
theorem dX11_cheap_111 : decode cX11_cheap 111 = .ok (.iload 5, 2) := by decide +kernel
theorem dX11_cheap_113 : decode cX11_cheap 113 = .ok (.iconst 1, 1) := by decide +kernel
theorem dX11_cheap_114 : decode cX11_cheap 114 = .ok (.iadd, 1) := by decide +kernel
theorem dX11_cheap_115 : decode cX11_cheap 115 = .ok (.invokevirtual 353, 3) := by decide +kernel
theorem dX11_cheap_118 : decode cX11_cheap 118 = .ok (.iconst 0, 1) := by decide +kernel
theorem dX11_cheap_119 : decode cX11_cheap 119 = .ok (.istore 6, 2) := by decide +kernel
theorem dX11_cheap_121 : decode cX11_cheap 121 = .ok (.iload 6, 2) := by decide +kernel
theorem dX11_cheap_123 : decode cX11_cheap 123 = .ok (.iload_n 3, 1) := by decide +kernel
theorem dX11_cheap_124 : decode cX11_cheap 124 = .ok (.if_icmp .gt 153, 3) := by decide +kernel
theorem dX11_cheap_127 : decode cX11_cheap 127 = .ok (.iconst 0, 1) := by decide +kernel
theorem dX11_cheap_128 : decode cX11_cheap 128 = .ok (.istore 7, 2) := by decide +kernel
theorem dX11_cheap_130 : decode cX11_cheap 130 = .ok (.iload 7, 2) := by decide +kernel
theorem dX11_cheap_132 : decode cX11_cheap 132 = .ok (.aload_n 0, 1) := by decide +kernel
theorem dX11_cheap_133 : decode cX11_cheap 133 = .ok (.getfield 22, 3) := by decide +kernel
theorem dX11_cheap_136 : decode cX11_cheap 136 = .ok (.if_icmp .ge 135, 3) := by decide +kernel
theorem dX11_cheap_139 : decode cX11_cheap 139 = .ok (.aload_n 0, 1) := by decide +kernel
theorem dX11_cheap_140 : decode cX11_cheap 140 = .ok (.iload 7, 2) := by decide +kernel
theorem dX11_cheap_142 : decode cX11_cheap 142 = .ok (.iload 5, 2) := by decide +kernel
theorem dX11_cheap_144 : decode cX11_cheap 144 = .ok (.invokevirtual 120, 3) := by decide +kernel
theorem dX11_cheap_147 : decode cX11_cheap 147 = .ok (.ifCond .eq 26, 3) := by decide +kernel
theorem dX11_cheap_150 : decode cX11_cheap 150 = .ok (.aload_n 0, 1) := by decide +kernel
theorem dX11_cheap_151 : decode cX11_cheap 151 = .ok (.getfield 47, 3) := by decide +kernel
theorem dX11_cheap_154 : decode cX11_cheap 154 = .ok (.iload 7, 2) := by decide +kernel
theorem dX11_cheap_156 : decode cX11_cheap 156 = .ok (.iaload, 1) := by decide +kernel
theorem dX11_cheap_157 : decode cX11_cheap 157 = .ok (.aload_n 0, 1) := by decide +kernel
theorem dX11_cheap_158 : decode cX11_cheap 158 = .ok (.getfield 154, 3) := by decide +kernel
theorem dX11_cheap_161 : decode cX11_cheap 161 = .ok (.iload_n 1, 1) := by decide +kernel
theorem dX11_cheap_162 : decode cX11_cheap 162 = .ok (.iaload, 1) := by decide +kernel
theorem dX11_cheap_163 : decode cX11_cheap 163 = .ok (.invokestatic 137, 3) := by decide +kernel
theorem dX11_cheap_166 : decode cX11_cheap 166 = .ok (.ifCond .eq 7, 3) := by decide +kernel
theorem dX11_cheap_169 : decode cX11_cheap 169 = .ok (.iconst 1, 1) := by decide +kernel
theorem dX11_cheap_170 : decode cX11_cheap 170 = .ok (.goto 4, 3) := by decide +kernel
theorem dX11_cheap_173 : decode cX11_cheap 173 = .ok (.iconst 0, 1) := by decide +kernel
theorem dX11_cheap_174 : decode cX11_cheap 174 = .ok (.istore 8, 2) := by decide +kernel
theorem dX11_cheap_176 : decode cX11_cheap 176 = .ok (.iconst 1, 1) := by decide +kernel
theorem dX11_cheap_177 : decode cX11_cheap 177 = .ok (.istore 9, 2) := by decide +kernel
theorem dX11_cheap_179 : decode cX11_cheap 179 = .ok (.iload 9, 2) := by decide +kernel
theorem dX11_cheap_181 : decode cX11_cheap 181 = .ok (.sipush 128, 3) := by decide +kernel
theorem dX11_cheap_184 : decode cX11_cheap 184 = .ok (.if_icmp .ge 81, 3) := by decide +kernel
theorem dX11_cheap_187 : decode cX11_cheap 187 = .ok (.aload_n 0, 1) := by decide +kernel
theorem dX11_cheap_188 : decode cX11_cheap 188 = .ok (.getfield 394, 3) := by decide +kernel
theorem dX11_cheap_191 : decode cX11_cheap 191 = .ok (.iload 6, 2) := by decide +kernel
theorem dX11_cheap_193 : decode cX11_cheap 193 = .ok (.iload 7, 2) := by decide +kernel
theorem dX11_cheap_195 : decode cX11_cheap 195 = .ok (.iload 9, 2) := by decide +kernel
theorem dX11_cheap_197 : decode cX11_cheap 197 = .ok (.invokestatic 344, 3) := by decide +kernel
theorem dX11_cheap_200 : decode cX11_cheap 200 = .ok (.laload, 1) := by decide +kernel
theorem dX11_cheap_201 : decode cX11_cheap 201 = .ok (.lstore 10, 2) := by decide +kernel
theorem dX11_cheap_203 : decode cX11_cheap 203 = .ok (.lload 10, 2) := by decide +kernel
theorem dX11_cheap_205 : decode cX11_cheap 205 = .ok (.lconst 0, 1) := by decide +kernel
theorem dX11_cheap_206 : decode cX11_cheap 206 = .ok (.lcmp, 1) := by decide +kernel
theorem dX11_cheap_207 : decode cX11_cheap 207 = .ok (.ifCond .ge 6, 3) := by decide +kernel
theorem dX11_cheap_210 : decode cX11_cheap 210 = .ok (.goto 49, 3) := by decide +kernel
theorem dX11_cheap_213 : decode cX11_cheap 213 = .ok (.aload_n 0, 1) := by decide +kernel
theorem dX11_cheap_214 : decode cX11_cheap 214 = .ok (.iload 6, 2) := by decide +kernel
theorem dX11_cheap_216 : decode cX11_cheap 216 = .ok (.iload 7, 2) := by decide +kernel
theorem dX11_cheap_218 : decode cX11_cheap 218 = .ok (.iload 9, 2) := by decide +kernel
theorem dX11_cheap_220 : decode cX11_cheap 220 = .ok (.lload 10, 2) := by decide +kernel
theorem dX11_cheap_222 : decode cX11_cheap 222 = .ok (.iload_n 3, 1) := by decide +kernel
theorem dX11_cheap_223 : decode cX11_cheap 223 = .ok (.invokevirtual 401, 3) := by decide +kernel
theorem dX11_cheap_226 : decode cX11_cheap 226 = .ok (.iload 8, 2) := by decide +kernel
theorem dX11_cheap_228 : decode cX11_cheap 228 = .ok (.ifCond .eq 31, 3) := by decide +kernel
theorem dX11_cheap_231 : decode cX11_cheap 231 = .ok (.aload_n 0, 1) := by decide +kernel
theorem dX11_cheap_232 : decode cX11_cheap 232 = .ok (.iload 6, 2) := by decide +kernel
theorem dX11_cheap_234 : decode cX11_cheap 234 = .ok (.iload 7, 2) := by decide +kernel
theorem dX11_cheap_236 : decode cX11_cheap 236 = .ok (.iload 9, 2) := by decide +kernel
theorem dX11_cheap_238 : decode cX11_cheap 238 = .ok (.iconst 1, 1) := by decide +kernel
theorem dX11_cheap_239 : decode cX11_cheap 239 = .ok (.isub, 1) := by decide +kernel
theorem dX11_cheap_240 : decode cX11_cheap 240 = .ok (.lload 10, 2) := by decide +kernel
theorem dX11_cheap_242 : decode cX11_cheap 242 = .ok (.aload_n 0, 1) := by decide +kernel
theorem dX11_cheap_243 : decode cX11_cheap 243 = .ok (.getfield 41, 3) := by decide +kernel
theorem dX11_cheap_246 : decode cX11_cheap 246 = .ok (.iload 7, 2) := by decide +kernel
theorem dX11_cheap_248 : decode cX11_cheap 248 = .ok (.iaload, 1) := by decide +kernel
theorem dX11_cheap_249 : decode cX11_cheap 249 = .ok (.i2l, 1) := by decide +kernel
theorem dX11_cheap_250 : decode cX11_cheap 250 = .ok (.ldc2_w 382, 3) := by decide +kernel
theorem dX11_cheap_253 : decode cX11_cheap 253 = .ok (.lmul, 1) := by decide +kernel
theorem dX11_cheap_254 : decode cX11_cheap 254 = .ok (.ladd, 1) := by decide +kernel
theorem dX11_cheap_255 : decode cX11_cheap 255 = .ok (.iload_n 3, 1) := by decide +kernel
theorem dX11_cheap_256 : decode cX11_cheap 256 = .ok (.invokevirtual 401, 3) := by decide +kernel
theorem dX11_cheap_259 : decode cX11_cheap 259 = .ok (.iinc 9 1, 3) := by decide +kernel
theorem dX11_cheap_262 : decode cX11_cheap 262 = .ok (.goto (-83), 3) := by decide +kernel
theorem dX11_cheap_265 : decode cX11_cheap 265 = .ok (.iinc 7 1, 3) := by decide +kernel
theorem dX11_cheap_268 : decode cX11_cheap 268 = .ok (.goto (-138), 3) := by decide +kernel
theorem dX11_cheap_271 : decode cX11_cheap 271 = .ok (.iinc 6 1, 3) := by decide +kernel
theorem dX11_cheap_274 : decode cX11_cheap 274 = .ok (.goto (-153), 3) := by decide +kernel
theorem dX11_cheap_277 : decode cX11_cheap 277 = .ok (.aload_n 0, 1) := by decide +kernel
theorem dX11_cheap_278 : decode cX11_cheap 278 = .ok (.getfield 394, 3) := by decide +kernel
theorem dX11_cheap_281 : decode cX11_cheap 281 = .ok (.astore 6, 2) := by decide +kernel
theorem dX11_cheap_283 : decode cX11_cheap 283 = .ok (.aload_n 0, 1) := by decide +kernel
theorem dX11_cheap_284 : decode cX11_cheap 284 = .ok (.aload_n 0, 1) := by decide +kernel
theorem dX11_cheap_285 : decode cX11_cheap 285 = .ok (.getfield 374, 3) := by decide +kernel
theorem dX11_cheap_288 : decode cX11_cheap 288 = .ok (.putfield 394, 3) := by decide +kernel
theorem dX11_cheap_291 : decode cX11_cheap 291 = .ok (.aload_n 0, 1) := by decide +kernel
theorem dX11_cheap_292 : decode cX11_cheap 292 = .ok (.aload 6, 2) := by decide +kernel
theorem dX11_cheap_294 : decode cX11_cheap 294 = .ok (.putfield 374, 3) := by decide +kernel
theorem dX11_cheap_297 : decode cX11_cheap 297 = .ok (.iinc 5 1, 3) := by decide +kernel
theorem dX11_cheap_300 : decode cX11_cheap 300 = .ok (.goto (-205), 3) := by decide +kernel
theorem dX11_cheap_303 : decode cX11_cheap 303 = .ok (.aload_n 0, 1) := by decide +kernel
theorem dX11_cheap_304 : decode cX11_cheap 304 = .ok (.getfield 379, 3) := by decide +kernel
theorem dX11_cheap_307 : decode cX11_cheap 307 = .ok (.ifCond .ge 6, 3) := by decide +kernel
theorem dX11_cheap_310 : decode cX11_cheap 310 = .ok (.bipush (-2), 2) := by decide +kernel
theorem dX11_cheap_312 : decode cX11_cheap 312 = .ok (.ireturn, 1) := by decide +kernel
theorem dX11_cheap_313 : decode cX11_cheap 313 = .ok (.aload_n 0, 1) := by decide +kernel
theorem dX11_cheap_314 : decode cX11_cheap 314 = .ok (.iconst 0, 1) := by decide +kernel
theorem dX11_cheap_315 : decode cX11_cheap 315 = .ok (.putfield 11, 3) := by decide +kernel
theorem dX11_cheap_318 : decode cX11_cheap 318 = .ok (.aload_n 0, 1) := by decide +kernel
theorem dX11_cheap_319 : decode cX11_cheap 319 = .ok (.aload_n 0, 1) := by decide +kernel
theorem dX11_cheap_320 : decode cX11_cheap 320 = .ok (.getfield 379, 3) := by decide +kernel
theorem dX11_cheap_323 : decode cX11_cheap 323 = .ok (.i2l, 1) := by decide +kernel
theorem dX11_cheap_324 : decode cX11_cheap 324 = .ok (.invokevirtual 18, 3) := by decide +kernel
theorem dX11_cheap_327 : decode cX11_cheap 327 = .ok (.aload_n 0, 1) := by decide +kernel
theorem dX11_cheap_328 : decode cX11_cheap 328 = .ok (.aload_n 0, 1) := by decide +kernel
theorem dX11_cheap_329 : decode cX11_cheap 329 = .ok (.getfield 379, 3) := by decide +kernel
theorem dX11_cheap_332 : decode cX11_cheap 332 = .ok (.aload_n 0, 1) := by decide +kernel
theorem dX11_cheap_333 : decode cX11_cheap 333 = .ok (.getfield 384, 3) := by decide +kernel
theorem dX11_cheap_336 : decode cX11_cheap 336 = .ok (.ldc2_w 382, 3) := by decide +kernel
theorem dX11_cheap_339 : decode cX11_cheap 339 = .ok (.lrem, 1) := by decide +kernel
theorem dX11_cheap_340 : decode cX11_cheap 340 = .ok (.l2i, 1) := by decide +kernel
theorem dX11_cheap_341 : decode cX11_cheap 341 = .ok (.invokevirtual 370, 3) := by decide +kernel
theorem dX11_cheap_344 : decode cX11_cheap 344 = .ok (.aload_n 0, 1) := by decide +kernel
theorem dX11_cheap_345 : decode cX11_cheap 345 = .ok (.getfield 384, 3) := by decide +kernel
theorem dX11_cheap_348 : decode cX11_cheap 348 = .ok (.ldc2_w 382, 3) := by decide +kernel
theorem dX11_cheap_351 : decode cX11_cheap 351 = .ok (.ldiv, 1) := by decide +kernel
theorem dX11_cheap_352 : decode cX11_cheap 352 = .ok (.l2i, 1) := by decide +kernel
theorem dX11_cheap_353 : decode cX11_cheap 353 = .ok (.ireturn, 1) := by decide +kernel
noncomputable def f_X11_endsFrom (fu : Nat) (x1 : Int32) (m : hM) : Option (Int32 × hM) :=
  hBd (f_X11_putsBy fu m) fun _ m1 =>
hBd (f_X11_begins fu x1 m1) fun _ m2 =>
hBd (f_X11_goesOn fu m2) fun y3 m4 =>
hBd (f_X11_takesBack fu m4) fun _ m5 =>
some (y3, m5)
set_option maxRecDepth 100000 in
set_option maxHeartbeats 4000000 in
theorem c_X11_endsFrom (G : hG) (fu : Nat) (x1 : Int32) (m : hM) : Mt vI G 11 yX11_endsFrom cX11_endsFrom 3 (some .int) [hA G 96, .int x1] m (f_X11_endsFrom fu x1 m) := by
  refine mt_of (by decide +kernel) (Nat.le_of_ble_eq_true rfl) (fun X C K => ?_)
  have C : Cx G X 11 cX11_endsFrom 3 RX11 (some .int) := C
  show Rf vI G X 0 [(0, hA G 96), (1, .int x1)] [] m _
  unfold f_X11_endsFrom
  refine rf_aload_n C (n := 1) (q := 0) dX11_endsFrom_0 rfl rfl rfl ?_
  refine rf_aload_n C (n := 2) (q := 0) dX11_endsFrom_1 rfl rfl rfl ?_
  refine rf_getS C (n := 5) fl_RX11_322 ly_96 rfl dX11_endsFrom_2 rfl ?_
  refine rf_callVv C (n := 8) (c_X11_putsBy G fu _) mw_RX11_325 ly_96 rfl ⟨by decide, by decide⟩ rfl (Nat.le_of_ble_eq_true rfl) rfl dX11_endsFrom_5 rfl (fun _ m1 => ?_)
  refine rf_aload_n C (n := 9) (q := 0) dX11_endsFrom_8 rfl rfl rfl ?_
  refine rf_iload_n C (n := 10) (q := 1) dX11_endsFrom_9 rfl rfl rfl ?_
  refine rf_callVv C (n := 13) (c_X11_begins G fu _ _) mw_RX11_303 ly_96 rfl ⟨by decide, by decide⟩ rfl (Nat.le_of_ble_eq_true rfl) rfl dX11_endsFrom_10 rfl (fun _ m2 => ?_)
  refine rf_aload_n C (n := 14) (q := 0) dX11_endsFrom_13 rfl rfl rfl ?_
  refine rf_callVi C (n := 17) (c_X11_goesOn G fu _) mw_RX11_319 ly_96 rfl ⟨by decide, by decide⟩ rfl (Nat.le_of_ble_eq_true rfl) rfl dX11_endsFrom_14 rfl (fun y3 m4 => ?_)
  refine rf_istore_n C (n := 18) [(2, .int y3), (0, hA G 96), (1, .int x1)] dX11_endsFrom_17 rfl rfl (by decide) rfl ?_
  refine rf_aload_n C (n := 19) (q := 1) dX11_endsFrom_18 rfl rfl rfl ?_
  refine rf_aload_n C (n := 20) (q := 1) dX11_endsFrom_19 rfl rfl rfl ?_
  refine rf_getS C (n := 23) fl_RX11_322 ly_96 rfl dX11_endsFrom_20 rfl ?_
  refine rf_callVv C (n := 26) (c_X11_takesBack G fu _) mw_RX11_332 ly_96 rfl ⟨by decide, by decide⟩ rfl (Nat.le_of_ble_eq_true rfl) rfl dX11_endsFrom_23 rfl (fun _ m5 => ?_)
  refine rf_iload_n C (n := 27) (q := 0) dX11_endsFrom_26 rfl rfl rfl ?_
  exact rf_iret C K dX11_endsFrom_27
noncomputable def f_X11_endsNow (fu : Nat) (m : hM) : Option (Int32 × hM) :=
  hBd (f_X11_putsBy fu m) fun _ m1 =>
hBd (f_X11_goesOn fu m1) fun y2 m3 =>
hBd (f_X11_takesBack fu m3) fun _ m4 =>
some (y2, m4)
set_option maxRecDepth 100000 in
set_option maxHeartbeats 4000000 in
theorem c_X11_endsNow (G : hG) (fu : Nat) (m : hM) : Mt vI G 11 yX11_endsNow cX11_endsNow 2 (some .int) [hA G 96] m (f_X11_endsNow fu m) := by
  refine mt_of (by decide +kernel) (Nat.le_of_ble_eq_true rfl) (fun X C K => ?_)
  have C : Cx G X 11 cX11_endsNow 2 RX11 (some .int) := C
  show Rf vI G X 0 [(0, hA G 96)] [] m _
  unfold f_X11_endsNow
  refine rf_aload_n C (n := 1) (q := 0) dX11_endsNow_0 rfl rfl rfl ?_
  refine rf_aload_n C (n := 2) (q := 0) dX11_endsNow_1 rfl rfl rfl ?_
  refine rf_getS C (n := 5) fl_RX11_322 ly_96 rfl dX11_endsNow_2 rfl ?_
  refine rf_callVv C (n := 8) (c_X11_putsBy G fu _) mw_RX11_325 ly_96 rfl ⟨by decide, by decide⟩ rfl (Nat.le_of_ble_eq_true rfl) rfl dX11_endsNow_5 rfl (fun _ m1 => ?_)
  refine rf_aload_n C (n := 9) (q := 0) dX11_endsNow_8 rfl rfl rfl ?_
  refine rf_callVi C (n := 12) (c_X11_goesOn G fu _) mw_RX11_319 ly_96 rfl ⟨by decide, by decide⟩ rfl (Nat.le_of_ble_eq_true rfl) rfl dX11_endsNow_9 rfl (fun y2 m3 => ?_)
  refine rf_istore_n C (n := 13) [(1, .int y2), (0, hA G 96)] dX11_endsNow_12 rfl rfl (by decide) rfl ?_
  refine rf_aload_n C (n := 14) (q := 1) dX11_endsNow_13 rfl rfl rfl ?_
  refine rf_aload_n C (n := 15) (q := 1) dX11_endsNow_14 rfl rfl rfl ?_
  refine rf_getS C (n := 18) fl_RX11_322 ly_96 rfl dX11_endsNow_15 rfl ?_
  refine rf_callVv C (n := 21) (c_X11_takesBack G fu _) mw_RX11_332 ly_96 rfl ⟨by decide, by decide⟩ rfl (Nat.le_of_ble_eq_true rfl) rfl dX11_endsNow_18 rfl (fun _ m4 => ?_)
  refine rf_iload_n C (n := 22) (q := 0) dX11_endsNow_21 rfl rfl rfl ?_
  exact rf_iret C K dX11_endsNow_22
noncomputable def f_X11_placeAt (fu : Nat) (x0 : Int32) (x1 : Int32) (x2 : Int32) (m : hM) : Option (Int32 × hM) :=
  some ((((x0 * 6) + x1) * 128) + x2, m)
set_option maxRecDepth 100000 in
set_option maxHeartbeats 4000000 in
theorem c_X11_placeAt (G : hG) (fu : Nat) (x0 : Int32) (x1 : Int32) (x2 : Int32) (m : hM) : Mt vI G 1 yX11_placeAt cX11_placeAt 3 (some .int) [.int x0, .int x1, .int x2] m (f_X11_placeAt fu x0 x1 x2 m) := by
  refine mt_of (by decide +kernel) (Nat.le_of_ble_eq_true rfl) (fun X C K => ?_)
  have C : Cx G X 1 cX11_placeAt 3 RX11 (some .int) := C
  show Rf vI G X 0 [(0, .int x0), (1, .int x1), (2, .int x2)] [] m _
  unfold f_X11_placeAt
  refine rf_iload_n C (n := 1) (q := 0) dX11_placeAt_0 rfl rfl rfl ?_
  refine rf_bipush C (n := 3) (v := 6) dX11_placeAt_1 rfl (by decide) ?_
  refine rf_imul C (n := 4) dX11_placeAt_3 rfl ?_
  refine rf_iload_n C (n := 5) (q := 1) dX11_placeAt_4 rfl rfl rfl ?_
  refine rf_iadd C (n := 6) dX11_placeAt_5 rfl ?_
  refine rf_sipush C (n := 9) (v := 128) dX11_placeAt_6 rfl (by decide) ?_
  refine rf_imul C (n := 10) dX11_placeAt_9 rfl ?_
  refine rf_iload_n C (n := 11) (q := 2) dX11_placeAt_10 rfl rfl rfl ?_
  refine rf_iadd C (n := 12) dX11_placeAt_11 rfl ?_
  exact rf_iret C K dX11_placeAt_12
noncomputable def s_X11_empties_2 (fu : Nat) (ih : Nat → Int32 → hM → Option (Unit × hM)) (a1 : Nat) (x2 : Int32) (m : hM) : Option (Unit × hM) :=
  if 3072 ≤ x2 then (
some ((), m)) else (
if hIn x2 3072 then (
hLet (sI m a1 (Int32.toNatClampNeg x2) (-1)) fun m3 =>
hLet (x2 + 1) fun y4 =>
ih a1 y4 m3) else none)
noncomputable def f_X11_empties_2 (fu : Nat) (n : Nat) : Nat → Int32 → hM → Option (Unit × hM) :=
  Nat.rec (motive := fun _ => Nat → Int32 → hM → Option (Unit × hM)) (fun _ _ _ => none) (fun _ ih => s_X11_empties_2 fu ih) n
theorem f_X11_empties_2_s (fu : Nat) (n : Nat) (a1 : Nat) (x2 : Int32) (m : hM) : f_X11_empties_2 fu (n + 1) a1 x2 m = s_X11_empties_2 fu (f_X11_empties_2 fu n) a1 x2 m := rfl
set_option maxRecDepth 100000 in
set_option maxHeartbeats 4000000 in
theorem r_X11_empties_2 {G : hG} {X : hX} (C : Cx G X 1 cX11_empties 3 RX11 none) (K : Cr G X) (fu : Nat) (n : Nat) : ∀ (a1 : Nat) (ha1 : LY[a1]? = some (.inr (.inl (0, 3072)))) (x2 : Int32) (m : hM), Rf vU G X 2 [(1, hA G a1), (2, .int x2)] [] m (f_X11_empties_2 fu n a1 x2 m) := by
  induction n with
  | zero => intros; exact rf_none
  | succ n ih =>
    intro a1 ha1 x2 m
    show Rf vU G X 2 [(1, hA G a1), (2, .int x2)] [] m (s_X11_empties_2 fu (f_X11_empties_2 fu n) a1 x2 m)
    unfold s_X11_empties_2
    refine rf_iload_n C (n := 3) (q := 1) dX11_empties_2 rfl rfl rfl ?_
    refine rf_aload_n C (n := 4) (q := 0) dX11_empties_3 rfl rfl rfl ?_
    refine rf_alen C (n := 5) (v := 3072) ha1 (by decide) (by decide) dX11_empties_4 rfl ?_
    refine rf_icmp_ge C (tgt := 18) (n := 8) dX11_empties_5 (by decide) rfl (fun h1 => ?_) (fun h1 => ?_)
    · exact rf_vret C K dX11_empties_18
    · refine rf_aload_n C (n := 9) (q := 0) dX11_empties_8 rfl rfl rfl ?_
      refine rf_iload_n C (n := 10) (q := 1) dX11_empties_9 rfl rfl rfl ?_
      refine rf_iconst C (n := 11) (v := (-1)) dX11_empties_10 rfl (by decide) ?_
      refine rf_guard (fun h2 => ?_)
      refine rf_iast C (n := 12) ha1 h2 rfl dX11_empties_11 rfl ?_
      refine rf_letM (fun m3 => ?_)
      refine rf_iinc2 C (n := 15) (q := 1) (fun y4 => [(2, .int y4), (1, hA G a1)]) dX11_empties_12 rfl rfl (by decide) (by decide) (fun _ => rfl) (fun y4 => ?_)
      refine rf_goto C (n := 2) dX11_empties_15 (by decide) ?_
      exact rf_lv _ [1, 0] rfl (ih _ ha1 _ _)
noncomputable def f_X11_empties (fu : Nat) (a1 : Nat) (m : hM) : Option (Unit × hM) :=
  if hAr LY[a1]? 0 3072 = true then (f_X11_empties_2 fu fu a1 0 m) else none
set_option maxRecDepth 100000 in
set_option maxHeartbeats 4000000 in
theorem c_X11_empties (G : hG) (fu : Nat) (a1 : Nat) (m : hM) : Mt vU G 1 yX11_empties cX11_empties 3 none [hA G 96, hA G a1] m (f_X11_empties fu a1 m) := by
  refine mt_of (by decide +kernel) (Nat.le_of_ble_eq_true rfl) (fun X C K => ?_)
  have C : Cx G X 1 cX11_empties 3 RX11 none := C
  show Rf vU G X 0 [(0, hA G 96), (1, hA G a1)] [] m _
  unfold f_X11_empties
  refine rf_guard (fun ha1 => ?_)
  replace ha1 := hAr_l ha1
  refine rf_iconst C (n := 1) (v := 0) dX11_empties_0 rfl (by decide) ?_
  refine rf_istore_n C (n := 2) [(2, .int 0), (0, hA G 96), (1, hA G a1)] dX11_empties_1 rfl rfl (by decide) rfl ?_
  exact rf_lv _ [2, 0] rfl (r_X11_empties_2 C K fu fu _ ha1 _ _)
noncomputable def f_X11_losesAll_44 (fu : Nat) (k2 : Int32 → Int32 → hM → Option (Unit × hM)) (x1 : Int32) (x2 : Int32) (m : hM) : Option (Unit × hM) :=
  hLet (x2 + 1) fun y3 =>
k2 x1 y3 m
set_option maxRecDepth 100000 in
set_option maxHeartbeats 4000000 in
theorem r_X11_losesAll_44 {G : hG} {X : hX} (C : Cx G X 6 cX11_losesAll 4 RX11 none) (K : Cr G X) (fu : Nat) (k2 : Int32 → Int32 → hM → Option (Unit × hM)) (hk2 : ∀ (x1 : Int32) (x2 : Int32) (m : hM), Rf vU G X 2 [(0, hA G 96), (1, .int x1), (2, .int x2)] [] m (k2 x1 x2 m)) (x1 : Int32) (x2 : Int32) (m : hM) : Rf vU G X 44 [(0, hA G 96), (1, .int x1), (2, .int x2)] [] m (f_X11_losesAll_44 fu k2 x1 x2 m) := by
  unfold f_X11_losesAll_44
  refine rf_iinc2 C (n := 47) (q := 2) (fun y3 => [(2, .int y3), (0, hA G 96), (1, .int x1)]) dX11_losesAll_44 rfl rfl (by decide) (by decide) (fun _ => rfl) (fun y3 => ?_)
  refine rf_goto C (n := 2) dX11_losesAll_47 (by decide) ?_
  exact rf_lv _ [1, 2, 0] rfl (hk2 _ _ _)
noncomputable def s_X11_losesAll_12 (fu : Nat) (k2 : Int32 → Int32 → hM → Option (Unit × hM)) (ih : Int32 → Int32 → Int32 → hM → Option (Unit × hM)) (x1 : Int32) (x2 : Int32) (x3 : Int32) (m : hM) : Option (Unit × hM) :=
  if (gI m 96 3) ≤ x3 then (
f_X11_losesAll_44 fu k2 x1 x2 m) else (
hBd (f_X11_lostOf fu x2 x3 x1 m) fun y4 m5 =>
if hIn ((6 * x2) + x3) 36 then (
hLet (sI m5 123 (Int32.toNatClampNeg ((6 * x2) + x3)) y4) fun m7 =>
hLet (x3 + 1) fun y8 =>
ih x1 x2 y8 m7) else none)
noncomputable def f_X11_losesAll_12 (fu : Nat) (k2 : Int32 → Int32 → hM → Option (Unit × hM)) (n : Nat) : Int32 → Int32 → Int32 → hM → Option (Unit × hM) :=
  Nat.rec (motive := fun _ => Int32 → Int32 → Int32 → hM → Option (Unit × hM)) (fun _ _ _ _ => none) (fun _ ih => s_X11_losesAll_12 fu k2 ih) n
theorem f_X11_losesAll_12_s (fu : Nat) (k2 : Int32 → Int32 → hM → Option (Unit × hM)) (n : Nat) (x1 : Int32) (x2 : Int32) (x3 : Int32) (m : hM) : f_X11_losesAll_12 fu k2 (n + 1) x1 x2 x3 m = s_X11_losesAll_12 fu k2 (f_X11_losesAll_12 fu k2 n) x1 x2 x3 m := rfl
set_option maxRecDepth 100000 in
set_option maxHeartbeats 4000000 in
theorem r_X11_losesAll_12 {G : hG} {X : hX} (C : Cx G X 6 cX11_losesAll 4 RX11 none) (K : Cr G X) (fu : Nat) (k2 : Int32 → Int32 → hM → Option (Unit × hM)) (hk2 : ∀ (x1 : Int32) (x2 : Int32) (m : hM), Rf vU G X 2 [(0, hA G 96), (1, .int x1), (2, .int x2)] [] m (k2 x1 x2 m)) (n : Nat) : ∀ (x1 : Int32) (x2 : Int32) (x3 : Int32) (m : hM), Rf vU G X 12 [(0, hA G 96), (1, .int x1), (2, .int x2), (3, .int x3)] [] m (f_X11_losesAll_12 fu k2 n x1 x2 x3 m) := by
  induction n with
  | zero => intros; exact rf_none
  | succ n ih =>
    intro x1 x2 x3 m
    show Rf vU G X 12 [(0, hA G 96), (1, .int x1), (2, .int x2), (3, .int x3)] [] m (s_X11_losesAll_12 fu k2 (f_X11_losesAll_12 fu k2 n) x1 x2 x3 m)
    unfold s_X11_losesAll_12
    refine rf_iload_n C (n := 13) (q := 3) dX11_losesAll_12 rfl rfl rfl ?_
    refine rf_aload_n C (n := 14) (q := 0) dX11_losesAll_13 rfl rfl rfl ?_
    refine rf_getI C (n := 17) fl_RX11_22 ly_96 rfl dX11_losesAll_14 rfl ?_
    refine rf_icmp_ge C (tgt := 44) (n := 20) dX11_losesAll_17 (by decide) rfl (fun h2 => ?_) (fun h2 => ?_)
    · exact rf_lv _ [0, 1, 2] rfl (r_X11_losesAll_44 C K fu _ hk2 _ _ _)
    · refine rf_aload_n C (n := 21) (q := 0) dX11_losesAll_20 rfl rfl rfl ?_
      refine rf_getS C (n := 24) fl_RX11_335 ly_96 rfl dX11_losesAll_21 rfl ?_
      refine rf_bipush C (n := 26) (v := 6) dX11_losesAll_24 rfl (by decide) ?_
      refine rf_iload_n C (n := 27) (q := 2) dX11_losesAll_26 rfl rfl rfl ?_
      refine rf_imul C (n := 28) dX11_losesAll_27 rfl ?_
      refine rf_iload_n C (n := 29) (q := 3) dX11_losesAll_28 rfl rfl rfl ?_
      refine rf_iadd C (n := 30) dX11_losesAll_29 rfl ?_
      refine rf_aload_n C (n := 31) (q := 0) dX11_losesAll_30 rfl rfl rfl ?_
      refine rf_iload_n C (n := 32) (q := 2) dX11_losesAll_31 rfl rfl rfl ?_
      refine rf_iload_n C (n := 33) (q := 3) dX11_losesAll_32 rfl rfl rfl ?_
      refine rf_iload_n C (n := 34) (q := 1) dX11_losesAll_33 rfl rfl rfl ?_
      refine rf_callVi C (n := 37) (c_X11_lostOf G fu _ _ _ _) mw_RX11_132 ly_96 rfl ⟨by decide, by decide⟩ rfl (Nat.le_of_ble_eq_true rfl) rfl dX11_losesAll_34 rfl (fun y4 m5 => ?_)
      refine rf_guard (fun h6 => ?_)
      refine rf_iast C (n := 38) ly_123 h6 rfl dX11_losesAll_37 rfl ?_
      refine rf_letM (fun m7 => ?_)
      refine rf_iinc2 C (n := 41) (q := 3) (fun y8 => [(3, .int y8), (0, hA G 96), (1, .int x1), (2, .int x2)]) dX11_losesAll_38 rfl rfl (by decide) (by decide) (fun _ => rfl) (fun y8 => ?_)
      refine rf_goto C (n := 12) dX11_losesAll_41 (by decide) ?_
      exact rf_lv _ [1, 2, 3, 0] rfl (ih _ _ _ _)
noncomputable def s_X11_losesAll_2 (fu : Nat) (ih : Int32 → Int32 → hM → Option (Unit × hM)) (x1 : Int32) (x2 : Int32) (m : hM) : Option (Unit × hM) :=
  if (gI m 96 3) ≤ x2 then (
some ((), m)) else (
f_X11_losesAll_12 fu ih fu x1 x2 0 m)
noncomputable def f_X11_losesAll_2 (fu : Nat) (n : Nat) : Int32 → Int32 → hM → Option (Unit × hM) :=
  Nat.rec (motive := fun _ => Int32 → Int32 → hM → Option (Unit × hM)) (fun _ _ _ => none) (fun _ ih => s_X11_losesAll_2 fu ih) n
theorem f_X11_losesAll_2_s (fu : Nat) (n : Nat) (x1 : Int32) (x2 : Int32) (m : hM) : f_X11_losesAll_2 fu (n + 1) x1 x2 m = s_X11_losesAll_2 fu (f_X11_losesAll_2 fu n) x1 x2 m := rfl
set_option maxRecDepth 100000 in
set_option maxHeartbeats 4000000 in
theorem r_X11_losesAll_2 {G : hG} {X : hX} (C : Cx G X 6 cX11_losesAll 4 RX11 none) (K : Cr G X) (fu : Nat) (n : Nat) : ∀ (x1 : Int32) (x2 : Int32) (m : hM), Rf vU G X 2 [(0, hA G 96), (1, .int x1), (2, .int x2)] [] m (f_X11_losesAll_2 fu n x1 x2 m) := by
  induction n with
  | zero => intros; exact rf_none
  | succ n ih =>
    intro x1 x2 m
    show Rf vU G X 2 [(0, hA G 96), (1, .int x1), (2, .int x2)] [] m (s_X11_losesAll_2 fu (f_X11_losesAll_2 fu n) x1 x2 m)
    unfold s_X11_losesAll_2
    refine rf_iload_n C (n := 3) (q := 2) dX11_losesAll_2 rfl rfl rfl ?_
    refine rf_aload_n C (n := 4) (q := 0) dX11_losesAll_3 rfl rfl rfl ?_
    refine rf_getI C (n := 7) fl_RX11_22 ly_96 rfl dX11_losesAll_4 rfl ?_
    refine rf_icmp_ge C (tgt := 50) (n := 10) dX11_losesAll_7 (by decide) rfl (fun h1 => ?_) (fun h1 => ?_)
    · exact rf_vret C K dX11_losesAll_50
    · refine rf_iconst C (n := 11) (v := 0) dX11_losesAll_10 rfl (by decide) ?_
      refine rf_istore_n C (n := 12) [(3, .int 0), (0, hA G 96), (1, .int x1), (2, .int x2)] dX11_losesAll_11 rfl rfl (by decide) rfl ?_
      exact rf_lv _ [1, 2, 3, 0] rfl (r_X11_losesAll_12 C K fu _ ih fu _ _ _ _)
noncomputable def f_X11_losesAll (fu : Nat) (x1 : Int32) (m : hM) : Option (Unit × hM) :=
  f_X11_losesAll_2 fu fu x1 0 m
set_option maxRecDepth 100000 in
set_option maxHeartbeats 4000000 in
theorem c_X11_losesAll (G : hG) (fu : Nat) (x1 : Int32) (m : hM) : Mt vU G 6 yX11_losesAll cX11_losesAll 4 none [hA G 96, .int x1] m (f_X11_losesAll fu x1 m) := by
  refine mt_of (by decide +kernel) (Nat.le_of_ble_eq_true rfl) (fun X C K => ?_)
  have C : Cx G X 6 cX11_losesAll 4 RX11 none := C
  show Rf vU G X 0 [(0, hA G 96), (1, .int x1)] [] m _
  unfold f_X11_losesAll
  refine rf_iconst C (n := 1) (v := 0) dX11_losesAll_0 rfl (by decide) ?_
  refine rf_istore_n C (n := 2) [(2, .int 0), (0, hA G 96), (1, .int x1)] dX11_losesAll_1 rfl rfl (by decide) rfl ?_
  exact rf_lv _ [1, 2, 0] rfl (r_X11_losesAll_2 C K fu fu _ _ _)
noncomputable def f_X11_least_19 (fu : Nat) (b0 : Nat) (s1 : Int32) (s2 : Int32) (m : hM) : Option (Unit × hM) :=
  if hIn s1 3072 then (
hLet (sI m b0 (Int32.toNatClampNeg s1) s2) fun m7 =>
some ((), m7)) else none
set_option maxRecDepth 100000 in
set_option maxHeartbeats 4000000 in
theorem r_X11_least_19 {G : hG} {X : hX} (C : Cx G X 2 cX11_least 3 RX11 none) (K : Cr G X) (fu : Nat) (b0 : Nat) (hb0 : LY[b0]? = some (.inr (.inl (0, 3072)))) (s1 : Int32) (s2 : Int32) (m : hM) : Rf vU G X 19 [] [.int s2, .int s1, hA G b0] m (f_X11_least_19 fu b0 s1 s2 m) := by
  unfold f_X11_least_19
  refine rf_guard (fun h6 => ?_)
  refine rf_iast C (n := 20) hb0 h6 rfl dX11_least_19 rfl ?_
  refine rf_letM (fun m7 => ?_)
  exact rf_vret C K dX11_least_20
noncomputable def f_X11_least (fu : Nat) (a0 : Nat) (x1 : Int32) (x2 : Int32) (m : hM) : Option (Unit × hM) :=
  if hAr LY[a0]? 0 3072 = true then (if hIn x1 3072 then (
if 0 ≤ (gI m a0 (Int32.toNatClampNeg x1)) then (
if hIn x1 3072 then (
hBd (f_J9_min_7cf53 fu (gI m a0 (Int32.toNatClampNeg x1)) x2 m) fun y4 m5 =>
f_X11_least_19 fu a0 x1 y4 m5) else none) else (
f_X11_least_19 fu a0 x1 x2 m)) else none) else none
set_option maxRecDepth 100000 in
set_option maxHeartbeats 4000000 in
theorem c_X11_least (G : hG) (fu : Nat) (a0 : Nat) (x1 : Int32) (x2 : Int32) (m : hM) : Mt vU G 2 yX11_least cX11_least 3 none [hA G a0, .int x1, .int x2] m (f_X11_least fu a0 x1 x2 m) := by
  refine mt_of (by decide +kernel) (Nat.le_of_ble_eq_true rfl) (fun X C K => ?_)
  have C : Cx G X 2 cX11_least 3 RX11 none := C
  show Rf vU G X 0 [(0, hA G a0), (1, .int x1), (2, .int x2)] [] m _
  unfold f_X11_least
  refine rf_guard (fun ha0 => ?_)
  replace ha0 := hAr_l ha0
  refine rf_aload_n C (n := 1) (q := 0) dX11_least_0 rfl rfl rfl ?_
  refine rf_iload_n C (n := 2) (q := 1) dX11_least_1 rfl rfl rfl ?_
  refine rf_aload_n C (n := 3) (q := 0) dX11_least_2 rfl rfl rfl ?_
  refine rf_iload_n C (n := 4) (q := 1) dX11_least_3 rfl rfl rfl ?_
  refine rf_guard (fun h1 => ?_)
  refine rf_iald C (n := 5) ha0 h1 rfl dX11_least_4 rfl ?_
  refine rf_if_ge C (tgt := 12) (n := 8) dX11_least_5 (by decide) rfl (fun h2 => ?_) (fun h2 => ?_)
  · refine rf_aload_n C (n := 13) (q := 0) dX11_least_12 rfl rfl rfl ?_
    refine rf_iload_n C (n := 14) (q := 1) dX11_least_13 rfl rfl rfl ?_
    refine rf_guard (fun h3 => ?_)
    refine rf_iald C (n := 15) ha0 h3 rfl dX11_least_14 rfl ?_
    refine rf_iload_n C (n := 16) (q := 2) dX11_least_15 rfl rfl rfl ?_
    refine rf_callSi C (n := 19) (c_J9_min_7cf53 G fu _ _ _) sw_RX11_95 ⟨by decide, by decide⟩ rfl (Nat.le_of_ble_eq_true rfl) rfl dX11_least_16 rfl (fun y4 m5 => ?_)
    exact rf_lv _ [] rfl (r_X11_least_19 C K fu _ ha0 _ _ _)
  · refine rf_iload_n C (n := 9) (q := 2) dX11_least_8 rfl rfl rfl ?_
    refine rf_goto C (n := 19) dX11_least_9 (by decide) ?_
    exact rf_lv _ [] rfl (r_X11_least_19 C K fu _ ha0 _ _ _)
noncomputable def f_X11_goesFrom_116 (fu : Nat) (k58 : Int32 → Int32 → Int32 → Int32 → Int32 → Int32 → hM → Option (Unit × hM)) (x1 : Int32) (x2 : Int32) (x3 : Int32) (x4 : Int32) (x5 : Int32) (x6 : Int32) (m : hM) : Option (Unit × hM) :=
  hLet (x6 + 1) fun y9 =>
k58 x1 x2 x3 x4 x5 y9 m
set_option maxRecDepth 100000 in
set_option maxHeartbeats 4000000 in
theorem r_X11_goesFrom_116 {G : hG} {X : hX} (C : Cx G X 3 cX11_goesFrom 7 RX11 none) (K : Cr G X) (fu : Nat) (k58 : Int32 → Int32 → Int32 → Int32 → Int32 → Int32 → hM → Option (Unit × hM)) (hk58 : ∀ (x1 : Int32) (x2 : Int32) (x3 : Int32) (x4 : Int32) (x5 : Int32) (x6 : Int32) (m : hM), Rf vU G X 58 [(0, hA G 96), (1, .int x1), (2, .int x2), (3, .int x3), (4, .int x4), (5, .int x5), (6, .int x6)] [] m (k58 x1 x2 x3 x4 x5 x6 m)) (x1 : Int32) (x2 : Int32) (x3 : Int32) (x4 : Int32) (x5 : Int32) (x6 : Int32) (m : hM) : Rf vU G X 116 [(0, hA G 96), (1, .int x1), (2, .int x2), (3, .int x3), (4, .int x4), (5, .int x5), (6, .int x6)] [] m (f_X11_goesFrom_116 fu k58 x1 x2 x3 x4 x5 x6 m) := by
  unfold f_X11_goesFrom_116
  refine rf_iinc2 C (n := 119) (q := 6) (fun y9 => [(6, .int y9), (0, hA G 96), (1, .int x1), (2, .int x2), (3, .int x3), (4, .int x4), (5, .int x5)]) dX11_goesFrom_116 rfl rfl (by decide) (by decide) (fun _ => rfl) (fun y9 => ?_)
  refine rf_goto C (n := 58) dX11_goesFrom_119 (by decide) ?_
  exact rf_lv _ [1, 2, 3, 4, 5, 6, 0] rfl (hk58 _ _ _ _ _ _ _)
noncomputable def s_X11_goesFrom_58 (fu : Nat) (ih : Int32 → Int32 → Int32 → Int32 → Int32 → Int32 → hM → Option (Unit × hM)) (x1 : Int32) (x2 : Int32) (x3 : Int32) (x4 : Int32) (x5 : Int32) (x6 : Int32) (m : hM) : Option (Unit × hM) :=
  if (gI m 96 3) ≤ x6 then (
some ((), m)) else (
if x5 ≤ x1 then (
some ((), m)) else (
if x6 = x2 then (
f_X11_goesFrom_116 fu ih x1 x2 x3 x4 x5 x6 m) else (
if hAr LY[gR m 96 39]? 0 3072 = true then (
if hIn ((6 * x2) + x6) 36 then (
hBd (f_X11_placeAt fu (x1 + 1) x6 (x3 + (gI m 123 (Int32.toNatClampNeg ((6 * x2) + x6)))) m) fun y12 m13 =>
hBd (f_X11_least fu (gR m 96 39) y12 ((8 * x4) + x6) m13) fun _ m14 =>
f_X11_goesFrom_116 fu ih x1 x2 x3 x4 x5 x6 m14) else none) else none)))
noncomputable def f_X11_goesFrom_58 (fu : Nat) (n : Nat) : Int32 → Int32 → Int32 → Int32 → Int32 → Int32 → hM → Option (Unit × hM) :=
  Nat.rec (motive := fun _ => Int32 → Int32 → Int32 → Int32 → Int32 → Int32 → hM → Option (Unit × hM)) (fun _ _ _ _ _ _ _ => none) (fun _ ih => s_X11_goesFrom_58 fu ih) n
theorem f_X11_goesFrom_58_s (fu : Nat) (n : Nat) (x1 : Int32) (x2 : Int32) (x3 : Int32) (x4 : Int32) (x5 : Int32) (x6 : Int32) (m : hM) : f_X11_goesFrom_58 fu (n + 1) x1 x2 x3 x4 x5 x6 m = s_X11_goesFrom_58 fu (f_X11_goesFrom_58 fu n) x1 x2 x3 x4 x5 x6 m := rfl
set_option maxRecDepth 100000 in
set_option maxHeartbeats 4000000 in
theorem r_X11_goesFrom_58 {G : hG} {X : hX} (C : Cx G X 3 cX11_goesFrom 7 RX11 none) (K : Cr G X) (fu : Nat) (n : Nat) : ∀ (x1 : Int32) (x2 : Int32) (x3 : Int32) (x4 : Int32) (x5 : Int32) (x6 : Int32) (m : hM), Rf vU G X 58 [(0, hA G 96), (1, .int x1), (2, .int x2), (3, .int x3), (4, .int x4), (5, .int x5), (6, .int x6)] [] m (f_X11_goesFrom_58 fu n x1 x2 x3 x4 x5 x6 m) := by
  induction n with
  | zero => intros; exact rf_none
  | succ n ih =>
    intro x1 x2 x3 x4 x5 x6 m
    show Rf vU G X 58 [(0, hA G 96), (1, .int x1), (2, .int x2), (3, .int x3), (4, .int x4), (5, .int x5), (6, .int x6)] [] m (s_X11_goesFrom_58 fu (f_X11_goesFrom_58 fu n) x1 x2 x3 x4 x5 x6 m)
    unfold s_X11_goesFrom_58
    refine rf_iload C (n := 60) (q := 6) dX11_goesFrom_58 rfl rfl ?_
    refine rf_aload_n C (n := 61) (q := 0) dX11_goesFrom_60 rfl rfl rfl ?_
    refine rf_getI C (n := 64) fl_RX11_22 ly_96 rfl dX11_goesFrom_61 rfl ?_
    refine rf_icmp_ge C (tgt := 122) (n := 67) dX11_goesFrom_64 (by decide) rfl (fun h6 => ?_) (fun h6 => ?_)
    · exact rf_vret C K dX11_goesFrom_122
    · refine rf_iload_n C (n := 68) (q := 1) dX11_goesFrom_67 rfl rfl rfl ?_
      refine rf_iload C (n := 70) (q := 5) dX11_goesFrom_68 rfl rfl ?_
      refine rf_icmp_ge C (tgt := 122) (n := 73) dX11_goesFrom_70 (by decide) rfl (fun h7 => ?_) (fun h7 => ?_)
      · exact rf_vret C K dX11_goesFrom_122
      · refine rf_iload C (n := 75) (q := 6) dX11_goesFrom_73 rfl rfl ?_
        refine rf_iload_n C (n := 76) (q := 2) dX11_goesFrom_75 rfl rfl rfl ?_
        refine rf_icmp_eq C (tgt := 116) (n := 79) dX11_goesFrom_76 (by decide) rfl (fun h8 => ?_) (fun h8 => ?_)
        · exact rf_lv _ [0, 1, 2, 3, 4, 5, 6] rfl (r_X11_goesFrom_116 C K fu _ ih _ _ _ _ _ _ _)
        · refine rf_aload_n C (n := 80) (q := 0) dX11_goesFrom_79 rfl rfl rfl ?_
          refine rf_guard (fun h10 => ?_)
          replace h10 := hAr_l h10
          refine rf_getR C (n := 83) fl_RX11_347 ly_96 rfl dX11_goesFrom_80 rfl ?_
          refine rf_iload_n C (n := 84) (q := 1) dX11_goesFrom_83 rfl rfl rfl ?_
          refine rf_iconst C (n := 85) (v := 1) dX11_goesFrom_84 rfl (by decide) ?_
          refine rf_iadd C (n := 86) dX11_goesFrom_85 rfl ?_
          refine rf_iload C (n := 88) (q := 6) dX11_goesFrom_86 rfl rfl ?_
          refine rf_iload_n C (n := 89) (q := 3) dX11_goesFrom_88 rfl rfl rfl ?_
          refine rf_aload_n C (n := 90) (q := 0) dX11_goesFrom_89 rfl rfl rfl ?_
          refine rf_getS C (n := 93) fl_RX11_335 ly_96 rfl dX11_goesFrom_90 rfl ?_
          refine rf_bipush C (n := 95) (v := 6) dX11_goesFrom_93 rfl (by decide) ?_
          refine rf_iload_n C (n := 96) (q := 2) dX11_goesFrom_95 rfl rfl rfl ?_
          refine rf_imul C (n := 97) dX11_goesFrom_96 rfl ?_
          refine rf_iload C (n := 99) (q := 6) dX11_goesFrom_97 rfl rfl ?_
          refine rf_iadd C (n := 100) dX11_goesFrom_99 rfl ?_
          refine rf_guard (fun h11 => ?_)
          refine rf_iald C (n := 101) ly_123 h11 rfl dX11_goesFrom_100 rfl ?_
          refine rf_iadd C (n := 102) dX11_goesFrom_101 rfl ?_
          refine rf_callSi C (n := 105) (c_X11_placeAt G fu _ _ _ _) sw_RX11_344 ⟨by decide, by decide⟩ rfl (Nat.le_of_ble_eq_true rfl) rfl dX11_goesFrom_102 rfl (fun y12 m13 => ?_)
          refine rf_bipush C (n := 107) (v := 8) dX11_goesFrom_105 rfl (by decide) ?_
          refine rf_iload C (n := 109) (q := 4) dX11_goesFrom_107 rfl rfl ?_
          refine rf_imul C (n := 110) dX11_goesFrom_109 rfl ?_
          refine rf_iload C (n := 112) (q := 6) dX11_goesFrom_110 rfl rfl ?_
          refine rf_iadd C (n := 113) dX11_goesFrom_112 rfl ?_
          refine rf_callSv C (n := 116) (c_X11_least G fu _ _ _ _) sw_RX11_363 ⟨by decide, by decide⟩ rfl (Nat.le_of_ble_eq_true rfl) rfl dX11_goesFrom_113 rfl (fun _ m14 => ?_)
          exact rf_lv _ [0, 1, 2, 3, 4, 5, 6] rfl (r_X11_goesFrom_116 C K fu _ ih _ _ _ _ _ _ _)
noncomputable def f_X11_goesFrom_28 (fu : Nat) (x1 : Int32) (x4 : Int32) (m : hM) : Option (Unit × hM) :=
  hLet (sI m 96 41 x1) fun m16 =>
hLet (sI m16 96 42 x4) fun m17 =>
some ((), m17)
set_option maxRecDepth 100000 in
set_option maxHeartbeats 4000000 in
theorem r_X11_goesFrom_28 {G : hG} {X : hX} (C : Cx G X 3 cX11_goesFrom 7 RX11 none) (K : Cr G X) (fu : Nat) (x1 : Int32) (x4 : Int32) (m : hM) : Rf vU G X 28 [(0, hA G 96), (1, .int x1), (4, .int x4)] [] m (f_X11_goesFrom_28 fu x1 x4 m) := by
  unfold f_X11_goesFrom_28
  refine rf_aload_n C (n := 29) (q := 0) dX11_goesFrom_28 rfl rfl rfl ?_
  refine rf_iload_n C (n := 30) (q := 1) dX11_goesFrom_29 rfl rfl rfl ?_
  refine rf_putI C (n := 33) pl_RX11_350 ly_96 rfl ⟨rfl, rfl⟩ dX11_goesFrom_30 rfl ?_
  refine rf_letM (fun m16 => ?_)
  refine rf_aload_n C (n := 34) (q := 0) dX11_goesFrom_33 rfl rfl rfl ?_
  refine rf_iload C (n := 36) (q := 2) dX11_goesFrom_34 rfl rfl ?_
  refine rf_putI C (n := 39) pl_RX11_360 ly_96 rfl ⟨rfl, rfl⟩ dX11_goesFrom_36 rfl ?_
  refine rf_letM (fun m17 => ?_)
  exact rf_vret C K dX11_goesFrom_39
noncomputable def f_X11_goesFrom (fu : Nat) (x1 : Int32) (x2 : Int32) (x3 : Int32) (x4 : Int32) (x5 : Int32) (m : hM) : Option (Unit × hM) :=
  if ¬ x3 = 0 then (
if hAr LY[gR m 96 39]? 0 3072 = true then (
hBd (f_X11_placeAt fu x1 x2 x3 m) fun y3 m4 =>
hBd (f_X11_least fu (gR m 96 39) y3 x4 m4) fun _ m5 =>
f_X11_goesFrom_58 fu fu x1 x2 x3 x4 x5 0 m5) else none) else (
if (gI m 96 41) < 0 then (
f_X11_goesFrom_28 fu x1 x4 m) else (
if ¬ x1 = (gI m 96 41) then (
some ((), m)) else (
if (gI m 96 42) ≤ x4 then (
some ((), m)) else (
f_X11_goesFrom_28 fu x1 x4 m))))
set_option maxRecDepth 100000 in
set_option maxHeartbeats 4000000 in
theorem c_X11_goesFrom (G : hG) (fu : Nat) (x1 : Int32) (x2 : Int32) (x3 : Int32) (x4 : Int32) (x5 : Int32) (m : hM) : Mt vU G 3 yX11_goesFrom cX11_goesFrom 7 none [hA G 96, .int x1, .int x2, .int x3, .int x4, .int x5] m (f_X11_goesFrom fu x1 x2 x3 x4 x5 m) := by
  refine mt_of (by decide +kernel) (Nat.le_of_ble_eq_true rfl) (fun X C K => ?_)
  have C : Cx G X 3 cX11_goesFrom 7 RX11 none := C
  show Rf vU G X 0 [(0, hA G 96), (1, .int x1), (2, .int x2), (3, .int x3), (4, .int x4), (5, .int x5)] [] m _
  unfold f_X11_goesFrom
  refine rf_iload_n C (n := 1) (q := 3) dX11_goesFrom_0 rfl rfl rfl ?_
  refine rf_if_ne C (tgt := 40) (n := 4) dX11_goesFrom_1 (by decide) rfl (fun h1 => ?_) (fun h1 => ?_)
  · refine rf_aload_n C (n := 41) (q := 0) dX11_goesFrom_40 rfl rfl rfl ?_
    refine rf_guard (fun h2 => ?_)
    replace h2 := hAr_l h2
    refine rf_getR C (n := 44) fl_RX11_347 ly_96 rfl dX11_goesFrom_41 rfl ?_
    refine rf_iload_n C (n := 45) (q := 1) dX11_goesFrom_44 rfl rfl rfl ?_
    refine rf_iload_n C (n := 46) (q := 2) dX11_goesFrom_45 rfl rfl rfl ?_
    refine rf_iload_n C (n := 47) (q := 3) dX11_goesFrom_46 rfl rfl rfl ?_
    refine rf_callSi C (n := 50) (c_X11_placeAt G fu _ _ _ _) sw_RX11_344 ⟨by decide, by decide⟩ rfl (Nat.le_of_ble_eq_true rfl) rfl dX11_goesFrom_47 rfl (fun y3 m4 => ?_)
    refine rf_iload C (n := 52) (q := 4) dX11_goesFrom_50 rfl rfl ?_
    refine rf_callSv C (n := 55) (c_X11_least G fu _ _ _ _) sw_RX11_363 ⟨by decide, by decide⟩ rfl (Nat.le_of_ble_eq_true rfl) rfl dX11_goesFrom_52 rfl (fun _ m5 => ?_)
    refine rf_iconst C (n := 56) (v := 0) dX11_goesFrom_55 rfl (by decide) ?_
    refine rf_istore C (n := 58) [(6, .int 0), (0, hA G 96), (1, .int x1), (2, .int x2), (3, .int x3), (4, .int x4), (5, .int x5)] dX11_goesFrom_56 rfl (by decide) rfl ?_
    exact rf_lv _ [1, 2, 3, 4, 5, 6, 0] rfl (r_X11_goesFrom_58 C K fu fu _ _ _ _ _ _ _)
  · refine rf_aload_n C (n := 5) (q := 0) dX11_goesFrom_4 rfl rfl rfl ?_
    refine rf_getI C (n := 8) fl_RX11_350 ly_96 rfl dX11_goesFrom_5 rfl ?_
    refine rf_if_lt C (tgt := 28) (n := 11) dX11_goesFrom_8 (by decide) rfl (fun h15 => ?_) (fun h15 => ?_)
    · exact rf_lv _ [0, 1, 4] rfl (r_X11_goesFrom_28 C K fu _ _ _)
    · refine rf_iload_n C (n := 12) (q := 1) dX11_goesFrom_11 rfl rfl rfl ?_
      refine rf_aload_n C (n := 13) (q := 0) dX11_goesFrom_12 rfl rfl rfl ?_
      refine rf_getI C (n := 16) fl_RX11_350 ly_96 rfl dX11_goesFrom_13 rfl ?_
      refine rf_icmp_ne C (tgt := 39) (n := 19) dX11_goesFrom_16 (by decide) rfl (fun h18 => ?_) (fun h18 => ?_)
      · exact rf_vret C K dX11_goesFrom_39
      · refine rf_iload C (n := 21) (q := 4) dX11_goesFrom_19 rfl rfl ?_
        refine rf_aload_n C (n := 22) (q := 0) dX11_goesFrom_21 rfl rfl rfl ?_
        refine rf_getI C (n := 25) fl_RX11_360 ly_96 rfl dX11_goesFrom_22 rfl ?_
        refine rf_icmp_ge C (tgt := 39) (n := 28) dX11_goesFrom_25 (by decide) rfl (fun h19 => ?_) (fun h19 => ?_)
        · exact rf_vret C K dX11_goesFrom_39
        · exact rf_lv _ [0, 1, 4] rfl (r_X11_goesFrom_28 C K fu _ _ _)
noncomputable def f_X11_soonest_193 (fu : Nat) (k33 : Int32 → Int32 → Int32 → hM → Option (Int32 × hM)) (x1 : Int32) (x3 : Int32) (x4 : Int32) (m : hM) : Option (Int32 × hM) :=
  if (gI m 96 41) < 0 then (
if hAr LY[gR m 96 38]? 0 3072 = true then (
if hAr LY[gR m 96 39]? 0 3072 = true then (
hLet (sR m 96 38 (gR m 96 39)) fun m19 =>
hLet (sR m19 96 39 (gR m 96 38)) fun m20 =>
hLet (x4 + 1) fun y21 =>
k33 x1 x3 y21 m20) else none) else none) else (
some (x4 + 1, m))
set_option maxRecDepth 100000 in
set_option maxHeartbeats 4000000 in
theorem r_X11_soonest_193 {G : hG} {X : hX} (C : Cx G X 7 cX11_soonest 10 RX11 (some .int)) (K : Cr G X) (fu : Nat) (k33 : Int32 → Int32 → Int32 → hM → Option (Int32 × hM)) (hk33 : ∀ (x1 : Int32) (x3 : Int32) (x4 : Int32) (m : hM), Rf vI G X 33 [(0, hA G 96), (1, .int x1), (3, .int x3), (4, .int x4)] [] m (k33 x1 x3 x4 m)) (x1 : Int32) (x3 : Int32) (x4 : Int32) (m : hM) : Rf vI G X 193 [(0, hA G 96), (1, .int x1), (3, .int x3), (4, .int x4)] [] m (f_X11_soonest_193 fu k33 x1 x3 x4 m) := by
  unfold f_X11_soonest_193
  refine rf_aload_n C (n := 194) (q := 0) dX11_soonest_193 rfl rfl rfl ?_
  refine rf_getI C (n := 197) fl_RX11_350 ly_96 rfl dX11_soonest_194 rfl ?_
  refine rf_if_lt C (tgt := 205) (n := 200) dX11_soonest_197 (by decide) rfl (fun h16 => ?_) (fun h16 => ?_)
  · refine rf_aload_n C (n := 206) (q := 0) dX11_soonest_205 rfl rfl rfl ?_
    refine rf_guard (fun h17 => ?_)
    replace h17 := hAr_l h17
    refine rf_getR C (n := 209) fl_RX11_338 ly_96 rfl dX11_soonest_206 rfl ?_
    refine rf_astore C (n := 211) [(5, hA G (gR m 96 38)), (0, hA G 96), (1, .int x1), (3, .int x3), (4, .int x4)] dX11_soonest_209 rfl (by decide) rfl ?_
    refine rf_aload_n C (n := 212) (q := 1) dX11_soonest_211 rfl rfl rfl ?_
    refine rf_aload_n C (n := 213) (q := 1) dX11_soonest_212 rfl rfl rfl ?_
    refine rf_guard (fun h18 => ?_)
    replace h18 := hAr_l h18
    refine rf_getR C (n := 216) fl_RX11_347 ly_96 rfl dX11_soonest_213 rfl ?_
    refine rf_putR C (n := 219) pl_RX11_338 ly_96 rfl ⟨rfl, rfl⟩ dX11_soonest_216 rfl ?_
    refine rf_letM (fun m19 => ?_)
    refine rf_aload_n C (n := 220) (q := 1) dX11_soonest_219 rfl rfl rfl ?_
    refine rf_aload C (n := 222) (q := 0) dX11_soonest_220 rfl rfl ?_
    refine rf_putR C (n := 225) pl_RX11_347 ly_96 rfl ⟨rfl, rfl⟩ dX11_soonest_222 rfl ?_
    refine rf_letM (fun m20 => ?_)
    refine rf_iinc2 C (n := 228) (q := 4) (fun y21 => [(4, .int y21), (5, hA G (gR m 96 38)), (0, hA G 96), (1, .int x1), (3, .int x3)]) dX11_soonest_225 rfl rfl (by decide) (by decide) (fun _ => rfl) (fun y21 => ?_)
    refine rf_goto C (n := 33) dX11_soonest_228 (by decide) ?_
    exact rf_lv _ [2, 3, 4, 0] rfl (hk33 _ _ _ _)
  · refine rf_iload C (n := 202) (q := 3) dX11_soonest_200 rfl rfl ?_
    refine rf_iconst C (n := 203) (v := 1) dX11_soonest_202 rfl (by decide) ?_
    refine rf_iadd C (n := 204) dX11_soonest_203 rfl ?_
    exact rf_iret C K dX11_soonest_204
noncomputable def f_X11_soonest_187 (fu : Nat) (k33 : Int32 → Int32 → Int32 → hM → Option (Int32 × hM)) (k69 : Int32 → Int32 → Int32 → Int32 → hM → Option (Int32 × hM)) (x1 : Int32) (x3 : Int32) (x4 : Int32) (x5 : Int32) (m : hM) : Option (Int32 × hM) :=
  hLet (x5 + 1) fun y23 =>
k69 x1 x3 x4 y23 m
set_option maxRecDepth 100000 in
set_option maxHeartbeats 4000000 in
theorem r_X11_soonest_187 {G : hG} {X : hX} (C : Cx G X 7 cX11_soonest 10 RX11 (some .int)) (K : Cr G X) (fu : Nat) (k33 : Int32 → Int32 → Int32 → hM → Option (Int32 × hM)) (hk33 : ∀ (x1 : Int32) (x3 : Int32) (x4 : Int32) (m : hM), Rf vI G X 33 [(0, hA G 96), (1, .int x1), (3, .int x3), (4, .int x4)] [] m (k33 x1 x3 x4 m)) (k69 : Int32 → Int32 → Int32 → Int32 → hM → Option (Int32 × hM)) (hk69 : ∀ (x1 : Int32) (x3 : Int32) (x4 : Int32) (x5 : Int32) (m : hM), Rf vI G X 69 [(0, hA G 96), (1, .int x1), (3, .int x3), (4, .int x4), (5, .int x5)] [] m (k69 x1 x3 x4 x5 m)) (x1 : Int32) (x3 : Int32) (x4 : Int32) (x5 : Int32) (m : hM) : Rf vI G X 187 [(0, hA G 96), (1, .int x1), (3, .int x3), (4, .int x4), (5, .int x5)] [] m (f_X11_soonest_187 fu k33 k69 x1 x3 x4 x5 m) := by
  unfold f_X11_soonest_187
  refine rf_iinc2 C (n := 190) (q := 4) (fun y23 => [(5, .int y23), (0, hA G 96), (1, .int x1), (3, .int x3), (4, .int x4)]) dX11_soonest_187 rfl rfl (by decide) (by decide) (fun _ => rfl) (fun y23 => ?_)
  refine rf_goto C (n := 69) dX11_soonest_190 (by decide) ?_
  exact rf_lv _ [1, 2, 3, 4, 0] rfl (hk69 _ _ _ _ _)
noncomputable def f_X11_soonest_181 (fu : Nat) (k33 : Int32 → Int32 → Int32 → hM → Option (Int32 × hM)) (k69 : Int32 → Int32 → Int32 → Int32 → hM → Option (Int32 × hM)) (k78 : Int32 → Int32 → Int32 → Int32 → Int32 → hM → Option (Int32 × hM)) (x1 : Int32) (x3 : Int32) (x4 : Int32) (x5 : Int32) (x6 : Int32) (m : hM) : Option (Int32 × hM) :=
  hLet (x6 + 1) fun y30 =>
k78 x1 x3 x4 x5 y30 m
set_option maxRecDepth 100000 in
set_option maxHeartbeats 4000000 in
theorem r_X11_soonest_181 {G : hG} {X : hX} (C : Cx G X 7 cX11_soonest 10 RX11 (some .int)) (K : Cr G X) (fu : Nat) (k33 : Int32 → Int32 → Int32 → hM → Option (Int32 × hM)) (hk33 : ∀ (x1 : Int32) (x3 : Int32) (x4 : Int32) (m : hM), Rf vI G X 33 [(0, hA G 96), (1, .int x1), (3, .int x3), (4, .int x4)] [] m (k33 x1 x3 x4 m)) (k69 : Int32 → Int32 → Int32 → Int32 → hM → Option (Int32 × hM)) (hk69 : ∀ (x1 : Int32) (x3 : Int32) (x4 : Int32) (x5 : Int32) (m : hM), Rf vI G X 69 [(0, hA G 96), (1, .int x1), (3, .int x3), (4, .int x4), (5, .int x5)] [] m (k69 x1 x3 x4 x5 m)) (k78 : Int32 → Int32 → Int32 → Int32 → Int32 → hM → Option (Int32 × hM)) (hk78 : ∀ (x1 : Int32) (x3 : Int32) (x4 : Int32) (x5 : Int32) (x6 : Int32) (m : hM), Rf vI G X 78 [(0, hA G 96), (1, .int x1), (3, .int x3), (4, .int x4), (5, .int x5), (6, .int x6)] [] m (k78 x1 x3 x4 x5 x6 m)) (x1 : Int32) (x3 : Int32) (x4 : Int32) (x5 : Int32) (x6 : Int32) (m : hM) : Rf vI G X 181 [(0, hA G 96), (1, .int x1), (3, .int x3), (4, .int x4), (5, .int x5), (6, .int x6)] [] m (f_X11_soonest_181 fu k33 k69 k78 x1 x3 x4 x5 x6 m) := by
  unfold f_X11_soonest_181
  refine rf_iinc2 C (n := 184) (q := 5) (fun y30 => [(6, .int y30), (0, hA G 96), (1, .int x1), (3, .int x3), (4, .int x4), (5, .int x5)]) dX11_soonest_181 rfl rfl (by decide) (by decide) (fun _ => rfl) (fun y30 => ?_)
  refine rf_goto C (n := 78) dX11_soonest_184 (by decide) ?_
  exact rf_lv _ [1, 2, 3, 4, 5, 0] rfl (hk78 _ _ _ _ _ _)
noncomputable def f_X11_soonest_175 (fu : Nat) (k33 : Int32 → Int32 → Int32 → hM → Option (Int32 × hM)) (k69 : Int32 → Int32 → Int32 → Int32 → hM → Option (Int32 × hM)) (k78 : Int32 → Int32 → Int32 → Int32 → Int32 → hM → Option (Int32 × hM)) (k130 : Int32 → Int32 → Int32 → Int32 → Int32 → Int32 → Int32 → hM → Option (Int32 × hM)) (x1 : Int32) (x3 : Int32) (x4 : Int32) (x5 : Int32) (x6 : Int32) (x7 : Int32) (x8 : Int32) (m : hM) : Option (Int32 × hM) :=
  hLet (x8 + 1) fun y37 =>
k130 x1 x3 x4 x5 x6 x7 y37 m
set_option maxRecDepth 100000 in
set_option maxHeartbeats 4000000 in
theorem r_X11_soonest_175 {G : hG} {X : hX} (C : Cx G X 7 cX11_soonest 10 RX11 (some .int)) (K : Cr G X) (fu : Nat) (k33 : Int32 → Int32 → Int32 → hM → Option (Int32 × hM)) (hk33 : ∀ (x1 : Int32) (x3 : Int32) (x4 : Int32) (m : hM), Rf vI G X 33 [(0, hA G 96), (1, .int x1), (3, .int x3), (4, .int x4)] [] m (k33 x1 x3 x4 m)) (k69 : Int32 → Int32 → Int32 → Int32 → hM → Option (Int32 × hM)) (hk69 : ∀ (x1 : Int32) (x3 : Int32) (x4 : Int32) (x5 : Int32) (m : hM), Rf vI G X 69 [(0, hA G 96), (1, .int x1), (3, .int x3), (4, .int x4), (5, .int x5)] [] m (k69 x1 x3 x4 x5 m)) (k78 : Int32 → Int32 → Int32 → Int32 → Int32 → hM → Option (Int32 × hM)) (hk78 : ∀ (x1 : Int32) (x3 : Int32) (x4 : Int32) (x5 : Int32) (x6 : Int32) (m : hM), Rf vI G X 78 [(0, hA G 96), (1, .int x1), (3, .int x3), (4, .int x4), (5, .int x5), (6, .int x6)] [] m (k78 x1 x3 x4 x5 x6 m)) (k130 : Int32 → Int32 → Int32 → Int32 → Int32 → Int32 → Int32 → hM → Option (Int32 × hM)) (hk130 : ∀ (x1 : Int32) (x3 : Int32) (x4 : Int32) (x5 : Int32) (x6 : Int32) (x7 : Int32) (x8 : Int32) (m : hM), Rf vI G X 130 [(0, hA G 96), (1, .int x1), (3, .int x3), (4, .int x4), (5, .int x5), (6, .int x6), (7, .int x7), (8, .int x8)] [] m (k130 x1 x3 x4 x5 x6 x7 x8 m)) (x1 : Int32) (x3 : Int32) (x4 : Int32) (x5 : Int32) (x6 : Int32) (x7 : Int32) (x8 : Int32) (m : hM) : Rf vI G X 175 [(0, hA G 96), (1, .int x1), (3, .int x3), (4, .int x4), (5, .int x5), (6, .int x6), (7, .int x7), (8, .int x8)] [] m (f_X11_soonest_175 fu k33 k69 k78 k130 x1 x3 x4 x5 x6 x7 x8 m) := by
  unfold f_X11_soonest_175
  refine rf_iinc2 C (n := 178) (q := 7) (fun y37 => [(8, .int y37), (0, hA G 96), (1, .int x1), (3, .int x3), (4, .int x4), (5, .int x5), (6, .int x6), (7, .int x7)]) dX11_soonest_175 rfl rfl (by decide) (by decide) (fun _ => rfl) (fun y37 => ?_)
  refine rf_goto C (n := 130) dX11_soonest_178 (by decide) ?_
  exact rf_lv _ [1, 2, 3, 4, 5, 6, 7, 0] rfl (hk130 _ _ _ _ _ _ _ _)
noncomputable def s_X11_soonest_130 (fu : Nat) (k33 : Int32 → Int32 → Int32 → hM → Option (Int32 × hM)) (k69 : Int32 → Int32 → Int32 → Int32 → hM → Option (Int32 × hM)) (k78 : Int32 → Int32 → Int32 → Int32 → Int32 → hM → Option (Int32 × hM)) (ih : Int32 → Int32 → Int32 → Int32 → Int32 → Int32 → Int32 → hM → Option (Int32 × hM)) (x1 : Int32) (x3 : Int32) (x4 : Int32) (x5 : Int32) (x6 : Int32) (x7 : Int32) (x8 : Int32) (m : hM) : Option (Int32 × hM) :=
  if 128 ≤ x8 then (
f_X11_soonest_181 fu k33 k69 k78 x1 x3 x4 x5 x6 m) else (
if hAr LY[gR m 96 38]? 0 3072 = true then (
hBd (f_X11_placeAt fu x5 x6 x8 m) fun y32 m33 =>
if hIn y32 3072 then (
hLet (gI m33 (gR m 96 38) (Int32.toNatClampNeg y32)) fun y35 =>
if y35 < 0 then (
f_X11_soonest_175 fu k33 k69 k78 ih x1 x3 x4 x5 x6 x7 x8 m33) else (
hBd (f_X11_goesFrom fu x5 x6 (x8 - x7) y35 x3 m33) fun _ m38 =>
f_X11_soonest_175 fu k33 k69 k78 ih x1 x3 x4 x5 x6 x7 x8 m38)) else none) else none)
noncomputable def f_X11_soonest_130 (fu : Nat) (k33 : Int32 → Int32 → Int32 → hM → Option (Int32 × hM)) (k69 : Int32 → Int32 → Int32 → Int32 → hM → Option (Int32 × hM)) (k78 : Int32 → Int32 → Int32 → Int32 → Int32 → hM → Option (Int32 × hM)) (n : Nat) : Int32 → Int32 → Int32 → Int32 → Int32 → Int32 → Int32 → hM → Option (Int32 × hM) :=
  Nat.rec (motive := fun _ => Int32 → Int32 → Int32 → Int32 → Int32 → Int32 → Int32 → hM → Option (Int32 × hM)) (fun _ _ _ _ _ _ _ _ => none) (fun _ ih => s_X11_soonest_130 fu k33 k69 k78 ih) n
theorem f_X11_soonest_130_s (fu : Nat) (k33 : Int32 → Int32 → Int32 → hM → Option (Int32 × hM)) (k69 : Int32 → Int32 → Int32 → Int32 → hM → Option (Int32 × hM)) (k78 : Int32 → Int32 → Int32 → Int32 → Int32 → hM → Option (Int32 × hM)) (n : Nat) (x1 : Int32) (x3 : Int32) (x4 : Int32) (x5 : Int32) (x6 : Int32) (x7 : Int32) (x8 : Int32) (m : hM) : f_X11_soonest_130 fu k33 k69 k78 (n + 1) x1 x3 x4 x5 x6 x7 x8 m = s_X11_soonest_130 fu k33 k69 k78 (f_X11_soonest_130 fu k33 k69 k78 n) x1 x3 x4 x5 x6 x7 x8 m := rfl
set_option maxRecDepth 100000 in
set_option maxHeartbeats 4000000 in
theorem r_X11_soonest_130 {G : hG} {X : hX} (C : Cx G X 7 cX11_soonest 10 RX11 (some .int)) (K : Cr G X) (fu : Nat) (k33 : Int32 → Int32 → Int32 → hM → Option (Int32 × hM)) (hk33 : ∀ (x1 : Int32) (x3 : Int32) (x4 : Int32) (m : hM), Rf vI G X 33 [(0, hA G 96), (1, .int x1), (3, .int x3), (4, .int x4)] [] m (k33 x1 x3 x4 m)) (k69 : Int32 → Int32 → Int32 → Int32 → hM → Option (Int32 × hM)) (hk69 : ∀ (x1 : Int32) (x3 : Int32) (x4 : Int32) (x5 : Int32) (m : hM), Rf vI G X 69 [(0, hA G 96), (1, .int x1), (3, .int x3), (4, .int x4), (5, .int x5)] [] m (k69 x1 x3 x4 x5 m)) (k78 : Int32 → Int32 → Int32 → Int32 → Int32 → hM → Option (Int32 × hM)) (hk78 : ∀ (x1 : Int32) (x3 : Int32) (x4 : Int32) (x5 : Int32) (x6 : Int32) (m : hM), Rf vI G X 78 [(0, hA G 96), (1, .int x1), (3, .int x3), (4, .int x4), (5, .int x5), (6, .int x6)] [] m (k78 x1 x3 x4 x5 x6 m)) (n : Nat) : ∀ (x1 : Int32) (x3 : Int32) (x4 : Int32) (x5 : Int32) (x6 : Int32) (x7 : Int32) (x8 : Int32) (m : hM), Rf vI G X 130 [(0, hA G 96), (1, .int x1), (3, .int x3), (4, .int x4), (5, .int x5), (6, .int x6), (7, .int x7), (8, .int x8)] [] m (f_X11_soonest_130 fu k33 k69 k78 n x1 x3 x4 x5 x6 x7 x8 m) := by
  induction n with
  | zero => intros; exact rf_none
  | succ n ih =>
    intro x1 x3 x4 x5 x6 x7 x8 m
    show Rf vI G X 130 [(0, hA G 96), (1, .int x1), (3, .int x3), (4, .int x4), (5, .int x5), (6, .int x6), (7, .int x7), (8, .int x8)] [] m (s_X11_soonest_130 fu k33 k69 k78 (f_X11_soonest_130 fu k33 k69 k78 n) x1 x3 x4 x5 x6 x7 x8 m)
    unfold s_X11_soonest_130
    refine rf_iload C (n := 132) (q := 7) dX11_soonest_130 rfl rfl ?_
    refine rf_sipush C (n := 135) (v := 128) dX11_soonest_132 rfl (by decide) ?_
    refine rf_icmp_ge C (tgt := 181) (n := 138) dX11_soonest_135 (by decide) rfl (fun h29 => ?_) (fun h29 => ?_)
    · exact rf_lv _ [0, 1, 2, 3, 4, 5] rfl (r_X11_soonest_181 C K fu _ hk33 _ hk69 _ hk78 _ _ _ _ _ _)
    · refine rf_aload_n C (n := 139) (q := 0) dX11_soonest_138 rfl rfl rfl ?_
      refine rf_guard (fun h31 => ?_)
      replace h31 := hAr_l h31
      refine rf_getR C (n := 142) fl_RX11_338 ly_96 rfl dX11_soonest_139 rfl ?_
      refine rf_iload C (n := 144) (q := 4) dX11_soonest_142 rfl rfl ?_
      refine rf_iload C (n := 146) (q := 5) dX11_soonest_144 rfl rfl ?_
      refine rf_iload C (n := 148) (q := 7) dX11_soonest_146 rfl rfl ?_
      refine rf_callSi C (n := 151) (c_X11_placeAt G fu _ _ _ _) sw_RX11_344 ⟨by decide, by decide⟩ rfl (Nat.le_of_ble_eq_true rfl) rfl dX11_soonest_148 rfl (fun y32 m33 => ?_)
      refine rf_guard (fun h34 => ?_)
      refine rf_iald C (n := 152) h31 h34 rfl dX11_soonest_151 rfl ?_
      refine rf_letI (fun y35 => ?_)
      refine rf_istore C (n := 154) [(9, .int y35), (0, hA G 96), (1, .int x1), (3, .int x3), (4, .int x4), (5, .int x5), (6, .int x6), (7, .int x7), (8, .int x8)] dX11_soonest_152 rfl (by decide) rfl ?_
      refine rf_iload C (n := 156) (q := 0) dX11_soonest_154 rfl rfl ?_
      refine rf_if_lt C (tgt := 175) (n := 159) dX11_soonest_156 (by decide) rfl (fun h36 => ?_) (fun h36 => ?_)
      · exact rf_lv _ [1, 2, 3, 4, 5, 6, 7, 8] rfl (r_X11_soonest_175 C K fu _ hk33 _ hk69 _ hk78 _ ih _ _ _ _ _ _ _ _)
      · refine rf_aload_n C (n := 160) (q := 1) dX11_soonest_159 rfl rfl rfl ?_
        refine rf_iload C (n := 162) (q := 5) dX11_soonest_160 rfl rfl ?_
        refine rf_iload C (n := 164) (q := 6) dX11_soonest_162 rfl rfl ?_
        refine rf_iload C (n := 166) (q := 8) dX11_soonest_164 rfl rfl ?_
        refine rf_iload C (n := 168) (q := 7) dX11_soonest_166 rfl rfl ?_
        refine rf_isub C (n := 169) dX11_soonest_168 rfl ?_
        refine rf_iload C (n := 171) (q := 0) dX11_soonest_169 rfl rfl ?_
        refine rf_iload_n C (n := 172) (q := 3) dX11_soonest_171 rfl rfl rfl ?_
        refine rf_callVv C (n := 175) (c_X11_goesFrom G fu _ _ _ _ _ _) mw_RX11_356 ly_96 rfl ⟨by decide, by decide⟩ rfl (Nat.le_of_ble_eq_true rfl) rfl dX11_soonest_172 rfl (fun _ m38 => ?_)
        exact rf_lv _ [1, 2, 3, 4, 5, 6, 7, 8] rfl (r_X11_soonest_175 C K fu _ hk33 _ hk69 _ hk78 _ ih _ _ _ _ _ _ _ _)
noncomputable def f_X11_soonest_122 (fu : Nat) (k33 : Int32 → Int32 → Int32 → hM → Option (Int32 × hM)) (k69 : Int32 → Int32 → Int32 → Int32 → hM → Option (Int32 × hM)) (k78 : Int32 → Int32 → Int32 → Int32 → Int32 → hM → Option (Int32 × hM)) (x1 : Int32) (x3 : Int32) (x4 : Int32) (x5 : Int32) (x6 : Int32) (s0 : Int32) (m : hM) : Option (Int32 × hM) :=
  hBd (f_X11_flag fu s0 m) fun y27 m28 =>
f_X11_soonest_130 fu k33 k69 k78 fu x1 x3 x4 x5 x6 y27 1 m28
set_option maxRecDepth 100000 in
set_option maxHeartbeats 4000000 in
theorem r_X11_soonest_122 {G : hG} {X : hX} (C : Cx G X 7 cX11_soonest 10 RX11 (some .int)) (K : Cr G X) (fu : Nat) (k33 : Int32 → Int32 → Int32 → hM → Option (Int32 × hM)) (hk33 : ∀ (x1 : Int32) (x3 : Int32) (x4 : Int32) (m : hM), Rf vI G X 33 [(0, hA G 96), (1, .int x1), (3, .int x3), (4, .int x4)] [] m (k33 x1 x3 x4 m)) (k69 : Int32 → Int32 → Int32 → Int32 → hM → Option (Int32 × hM)) (hk69 : ∀ (x1 : Int32) (x3 : Int32) (x4 : Int32) (x5 : Int32) (m : hM), Rf vI G X 69 [(0, hA G 96), (1, .int x1), (3, .int x3), (4, .int x4), (5, .int x5)] [] m (k69 x1 x3 x4 x5 m)) (k78 : Int32 → Int32 → Int32 → Int32 → Int32 → hM → Option (Int32 × hM)) (hk78 : ∀ (x1 : Int32) (x3 : Int32) (x4 : Int32) (x5 : Int32) (x6 : Int32) (m : hM), Rf vI G X 78 [(0, hA G 96), (1, .int x1), (3, .int x3), (4, .int x4), (5, .int x5), (6, .int x6)] [] m (k78 x1 x3 x4 x5 x6 m)) (x1 : Int32) (x3 : Int32) (x4 : Int32) (x5 : Int32) (x6 : Int32) (s0 : Int32) (m : hM) : Rf vI G X 122 [(0, hA G 96), (1, .int x1), (3, .int x3), (4, .int x4), (5, .int x5), (6, .int x6)] [.int s0] m (f_X11_soonest_122 fu k33 k69 k78 x1 x3 x4 x5 x6 s0 m) := by
  unfold f_X11_soonest_122
  refine rf_callSi C (n := 125) (c_X11_flag G fu _ _) sw_RX11_124 ⟨by decide, by decide⟩ rfl (Nat.le_of_ble_eq_true rfl) rfl dX11_soonest_122 rfl (fun y27 m28 => ?_)
  refine rf_istore C (n := 127) [(7, .int y27), (0, hA G 96), (1, .int x1), (3, .int x3), (4, .int x4), (5, .int x5), (6, .int x6)] dX11_soonest_125 rfl (by decide) rfl ?_
  refine rf_iconst C (n := 128) (v := 1) dX11_soonest_127 rfl (by decide) ?_
  refine rf_istore C (n := 130) [(8, .int 1), (7, .int y27), (0, hA G 96), (1, .int x1), (3, .int x3), (4, .int x4), (5, .int x5), (6, .int x6)] dX11_soonest_128 rfl (by decide) rfl ?_
  exact rf_lv _ [2, 3, 4, 5, 6, 7, 1, 0] rfl (r_X11_soonest_130 C K fu _ hk33 _ hk69 _ hk78 fu _ _ _ _ _ _ _ _)
noncomputable def f_X11_soonest_121 (fu : Nat) (k33 : Int32 → Int32 → Int32 → hM → Option (Int32 × hM)) (k69 : Int32 → Int32 → Int32 → Int32 → hM → Option (Int32 × hM)) (k78 : Int32 → Int32 → Int32 → Int32 → Int32 → hM → Option (Int32 × hM)) (x1 : Int32) (x3 : Int32) (x4 : Int32) (x5 : Int32) (x6 : Int32) (m : hM) : Option (Int32 × hM) :=
  f_X11_soonest_122 fu k33 k69 k78 x1 x3 x4 x5 x6 0 m
set_option maxRecDepth 100000 in
set_option maxHeartbeats 4000000 in
theorem r_X11_soonest_121 {G : hG} {X : hX} (C : Cx G X 7 cX11_soonest 10 RX11 (some .int)) (K : Cr G X) (fu : Nat) (k33 : Int32 → Int32 → Int32 → hM → Option (Int32 × hM)) (hk33 : ∀ (x1 : Int32) (x3 : Int32) (x4 : Int32) (m : hM), Rf vI G X 33 [(0, hA G 96), (1, .int x1), (3, .int x3), (4, .int x4)] [] m (k33 x1 x3 x4 m)) (k69 : Int32 → Int32 → Int32 → Int32 → hM → Option (Int32 × hM)) (hk69 : ∀ (x1 : Int32) (x3 : Int32) (x4 : Int32) (x5 : Int32) (m : hM), Rf vI G X 69 [(0, hA G 96), (1, .int x1), (3, .int x3), (4, .int x4), (5, .int x5)] [] m (k69 x1 x3 x4 x5 m)) (k78 : Int32 → Int32 → Int32 → Int32 → Int32 → hM → Option (Int32 × hM)) (hk78 : ∀ (x1 : Int32) (x3 : Int32) (x4 : Int32) (x5 : Int32) (x6 : Int32) (m : hM), Rf vI G X 78 [(0, hA G 96), (1, .int x1), (3, .int x3), (4, .int x4), (5, .int x5), (6, .int x6)] [] m (k78 x1 x3 x4 x5 x6 m)) (x1 : Int32) (x3 : Int32) (x4 : Int32) (x5 : Int32) (x6 : Int32) (m : hM) : Rf vI G X 121 [(0, hA G 96), (1, .int x1), (3, .int x3), (4, .int x4), (5, .int x5), (6, .int x6)] [] m (f_X11_soonest_121 fu k33 k69 k78 x1 x3 x4 x5 x6 m) := by
  unfold f_X11_soonest_121
  refine rf_iconst C (n := 122) (v := 0) dX11_soonest_121 rfl (by decide) ?_
  exact rf_lv _ [0, 1, 2, 3, 4, 5] rfl (r_X11_soonest_122 C K fu _ hk33 _ hk69 _ hk78 _ _ _ _ _ _ _)
noncomputable def s_X11_soonest_78 (fu : Nat) (k33 : Int32 → Int32 → Int32 → hM → Option (Int32 × hM)) (k69 : Int32 → Int32 → Int32 → Int32 → hM → Option (Int32 × hM)) (ih : Int32 → Int32 → Int32 → Int32 → Int32 → hM → Option (Int32 × hM)) (x1 : Int32) (x3 : Int32) (x4 : Int32) (x5 : Int32) (x6 : Int32) (m : hM) : Option (Int32 × hM) :=
  if (gI m 96 3) ≤ x6 then (
f_X11_soonest_187 fu k33 k69 x1 x3 x4 x5 m) else (
hBd (f_X11_isOpen fu x6 x4 m) fun y24 m25 =>
if y24 = 0 then (
f_X11_soonest_121 fu k33 k69 ih x1 x3 x4 x5 x6 m25) else (
if hIn x6 6 then (
if hIn x1 8 then (
hBd (f_X11_has fu (gI m25 103 (Int32.toNatClampNeg x6)) (gI m25 108 (Int32.toNatClampNeg x1)) m25) fun y41 m42 =>
if y41 = 0 then (
f_X11_soonest_121 fu k33 k69 ih x1 x3 x4 x5 x6 m42) else (
f_X11_soonest_122 fu k33 k69 ih x1 x3 x4 x5 x6 1 m42)) else none) else none))
noncomputable def f_X11_soonest_78 (fu : Nat) (k33 : Int32 → Int32 → Int32 → hM → Option (Int32 × hM)) (k69 : Int32 → Int32 → Int32 → Int32 → hM → Option (Int32 × hM)) (n : Nat) : Int32 → Int32 → Int32 → Int32 → Int32 → hM → Option (Int32 × hM) :=
  Nat.rec (motive := fun _ => Int32 → Int32 → Int32 → Int32 → Int32 → hM → Option (Int32 × hM)) (fun _ _ _ _ _ _ => none) (fun _ ih => s_X11_soonest_78 fu k33 k69 ih) n
theorem f_X11_soonest_78_s (fu : Nat) (k33 : Int32 → Int32 → Int32 → hM → Option (Int32 × hM)) (k69 : Int32 → Int32 → Int32 → Int32 → hM → Option (Int32 × hM)) (n : Nat) (x1 : Int32) (x3 : Int32) (x4 : Int32) (x5 : Int32) (x6 : Int32) (m : hM) : f_X11_soonest_78 fu k33 k69 (n + 1) x1 x3 x4 x5 x6 m = s_X11_soonest_78 fu k33 k69 (f_X11_soonest_78 fu k33 k69 n) x1 x3 x4 x5 x6 m := rfl
set_option maxRecDepth 100000 in
set_option maxHeartbeats 4000000 in
theorem r_X11_soonest_78 {G : hG} {X : hX} (C : Cx G X 7 cX11_soonest 10 RX11 (some .int)) (K : Cr G X) (fu : Nat) (k33 : Int32 → Int32 → Int32 → hM → Option (Int32 × hM)) (hk33 : ∀ (x1 : Int32) (x3 : Int32) (x4 : Int32) (m : hM), Rf vI G X 33 [(0, hA G 96), (1, .int x1), (3, .int x3), (4, .int x4)] [] m (k33 x1 x3 x4 m)) (k69 : Int32 → Int32 → Int32 → Int32 → hM → Option (Int32 × hM)) (hk69 : ∀ (x1 : Int32) (x3 : Int32) (x4 : Int32) (x5 : Int32) (m : hM), Rf vI G X 69 [(0, hA G 96), (1, .int x1), (3, .int x3), (4, .int x4), (5, .int x5)] [] m (k69 x1 x3 x4 x5 m)) (n : Nat) : ∀ (x1 : Int32) (x3 : Int32) (x4 : Int32) (x5 : Int32) (x6 : Int32) (m : hM), Rf vI G X 78 [(0, hA G 96), (1, .int x1), (3, .int x3), (4, .int x4), (5, .int x5), (6, .int x6)] [] m (f_X11_soonest_78 fu k33 k69 n x1 x3 x4 x5 x6 m) := by
  induction n with
  | zero => intros; exact rf_none
  | succ n ih =>
    intro x1 x3 x4 x5 x6 m
    show Rf vI G X 78 [(0, hA G 96), (1, .int x1), (3, .int x3), (4, .int x4), (5, .int x5), (6, .int x6)] [] m (s_X11_soonest_78 fu k33 k69 (f_X11_soonest_78 fu k33 k69 n) x1 x3 x4 x5 x6 m)
    unfold s_X11_soonest_78
    refine rf_iload C (n := 80) (q := 5) dX11_soonest_78 rfl rfl ?_
    refine rf_aload_n C (n := 81) (q := 0) dX11_soonest_80 rfl rfl rfl ?_
    refine rf_getI C (n := 84) fl_RX11_22 ly_96 rfl dX11_soonest_81 rfl ?_
    refine rf_icmp_ge C (tgt := 187) (n := 87) dX11_soonest_84 (by decide) rfl (fun h22 => ?_) (fun h22 => ?_)
    · exact rf_lv _ [0, 1, 2, 3, 4] rfl (r_X11_soonest_187 C K fu _ hk33 _ hk69 _ _ _ _ _)
    · refine rf_aload_n C (n := 88) (q := 0) dX11_soonest_87 rfl rfl rfl ?_
      refine rf_iload C (n := 90) (q := 5) dX11_soonest_88 rfl rfl ?_
      refine rf_iload C (n := 92) (q := 3) dX11_soonest_90 rfl rfl ?_
      refine rf_callVi C (n := 95) (c_X11_isOpen G fu _ _ _) mw_RX11_120 ly_96 rfl ⟨by decide, by decide⟩ rfl (Nat.le_of_ble_eq_true rfl) rfl dX11_soonest_92 rfl (fun y24 m25 => ?_)
      refine rf_if_eq C (tgt := 121) (n := 98) dX11_soonest_95 (by decide) rfl (fun h26 => ?_) (fun h26 => ?_)
      · exact rf_lv _ [0, 1, 2, 3, 4, 5] rfl (r_X11_soonest_121 C K fu _ hk33 _ hk69 _ ih _ _ _ _ _ _)
      · refine rf_aload_n C (n := 99) (q := 0) dX11_soonest_98 rfl rfl rfl ?_
        refine rf_getS C (n := 102) fl_RX11_47 ly_96 rfl dX11_soonest_99 rfl ?_
        refine rf_iload C (n := 104) (q := 5) dX11_soonest_102 rfl rfl ?_
        refine rf_guard (fun h39 => ?_)
        refine rf_iald C (n := 105) ly_103 h39 rfl dX11_soonest_104 rfl ?_
        refine rf_aload_n C (n := 106) (q := 0) dX11_soonest_105 rfl rfl rfl ?_
        refine rf_getS C (n := 109) fl_RX11_154 ly_96 rfl dX11_soonest_106 rfl ?_
        refine rf_iload_n C (n := 110) (q := 1) dX11_soonest_109 rfl rfl rfl ?_
        refine rf_guard (fun h40 => ?_)
        refine rf_iald C (n := 111) ly_108 h40 rfl dX11_soonest_110 rfl ?_
        refine rf_callSi C (n := 114) (c_X11_has G fu _ _ _) sw_RX11_137 ⟨by decide, by decide⟩ rfl (Nat.le_of_ble_eq_true rfl) rfl dX11_soonest_111 rfl (fun y41 m42 => ?_)
        refine rf_if_eq C (tgt := 121) (n := 117) dX11_soonest_114 (by decide) rfl (fun h43 => ?_) (fun h43 => ?_)
        · exact rf_lv _ [0, 1, 2, 3, 4, 5] rfl (r_X11_soonest_121 C K fu _ hk33 _ hk69 _ ih _ _ _ _ _ _)
        · refine rf_iconst C (n := 118) (v := 1) dX11_soonest_117 rfl (by decide) ?_
          refine rf_goto C (n := 122) dX11_soonest_118 (by decide) ?_
          exact rf_lv _ [0, 1, 2, 3, 4, 5] rfl (r_X11_soonest_122 C K fu _ hk33 _ hk69 _ ih _ _ _ _ _ _ _)
noncomputable def s_X11_soonest_69 (fu : Nat) (k33 : Int32 → Int32 → Int32 → hM → Option (Int32 × hM)) (ih : Int32 → Int32 → Int32 → Int32 → hM → Option (Int32 × hM)) (x1 : Int32) (x3 : Int32) (x4 : Int32) (x5 : Int32) (m : hM) : Option (Int32 × hM) :=
  if x3 < x5 then (
f_X11_soonest_193 fu k33 x1 x3 x4 m) else (
f_X11_soonest_78 fu k33 ih fu x1 x3 x4 x5 0 m)
noncomputable def f_X11_soonest_69 (fu : Nat) (k33 : Int32 → Int32 → Int32 → hM → Option (Int32 × hM)) (n : Nat) : Int32 → Int32 → Int32 → Int32 → hM → Option (Int32 × hM) :=
  Nat.rec (motive := fun _ => Int32 → Int32 → Int32 → Int32 → hM → Option (Int32 × hM)) (fun _ _ _ _ _ => none) (fun _ ih => s_X11_soonest_69 fu k33 ih) n
theorem f_X11_soonest_69_s (fu : Nat) (k33 : Int32 → Int32 → Int32 → hM → Option (Int32 × hM)) (n : Nat) (x1 : Int32) (x3 : Int32) (x4 : Int32) (x5 : Int32) (m : hM) : f_X11_soonest_69 fu k33 (n + 1) x1 x3 x4 x5 m = s_X11_soonest_69 fu k33 (f_X11_soonest_69 fu k33 n) x1 x3 x4 x5 m := rfl
set_option maxRecDepth 100000 in
set_option maxHeartbeats 4000000 in
theorem r_X11_soonest_69 {G : hG} {X : hX} (C : Cx G X 7 cX11_soonest 10 RX11 (some .int)) (K : Cr G X) (fu : Nat) (k33 : Int32 → Int32 → Int32 → hM → Option (Int32 × hM)) (hk33 : ∀ (x1 : Int32) (x3 : Int32) (x4 : Int32) (m : hM), Rf vI G X 33 [(0, hA G 96), (1, .int x1), (3, .int x3), (4, .int x4)] [] m (k33 x1 x3 x4 m)) (n : Nat) : ∀ (x1 : Int32) (x3 : Int32) (x4 : Int32) (x5 : Int32) (m : hM), Rf vI G X 69 [(0, hA G 96), (1, .int x1), (3, .int x3), (4, .int x4), (5, .int x5)] [] m (f_X11_soonest_69 fu k33 n x1 x3 x4 x5 m) := by
  induction n with
  | zero => intros; exact rf_none
  | succ n ih =>
    intro x1 x3 x4 x5 m
    show Rf vI G X 69 [(0, hA G 96), (1, .int x1), (3, .int x3), (4, .int x4), (5, .int x5)] [] m (s_X11_soonest_69 fu k33 (f_X11_soonest_69 fu k33 n) x1 x3 x4 x5 m)
    unfold s_X11_soonest_69
    refine rf_iload C (n := 71) (q := 4) dX11_soonest_69 rfl rfl ?_
    refine rf_iload_n C (n := 72) (q := 2) dX11_soonest_71 rfl rfl rfl ?_
    refine rf_icmp_gt C (tgt := 193) (n := 75) dX11_soonest_72 (by decide) rfl (fun h15 => ?_) (fun h15 => ?_)
    · exact rf_lv _ [0, 1, 2, 3] rfl (r_X11_soonest_193 C K fu _ hk33 _ _ _ _)
    · refine rf_iconst C (n := 76) (v := 0) dX11_soonest_75 rfl (by decide) ?_
      refine rf_istore C (n := 78) [(6, .int 0), (0, hA G 96), (1, .int x1), (3, .int x3), (4, .int x4), (5, .int x5)] dX11_soonest_76 rfl (by decide) rfl ?_
      exact rf_lv _ [1, 2, 3, 4, 5, 0] rfl (r_X11_soonest_78 C K fu _ hk33 _ ih fu _ _ _ _ _ _)
noncomputable def f_X11_soonest_66 (fu : Nat) (k33 : Int32 → Int32 → Int32 → hM → Option (Int32 × hM)) (x1 : Int32) (x3 : Int32) (x4 : Int32) (m : hM) : Option (Int32 × hM) :=
  f_X11_soonest_69 fu k33 fu x1 x3 x4 0 m
set_option maxRecDepth 100000 in
set_option maxHeartbeats 4000000 in
theorem r_X11_soonest_66 {G : hG} {X : hX} (C : Cx G X 7 cX11_soonest 10 RX11 (some .int)) (K : Cr G X) (fu : Nat) (k33 : Int32 → Int32 → Int32 → hM → Option (Int32 × hM)) (hk33 : ∀ (x1 : Int32) (x3 : Int32) (x4 : Int32) (m : hM), Rf vI G X 33 [(0, hA G 96), (1, .int x1), (3, .int x3), (4, .int x4)] [] m (k33 x1 x3 x4 m)) (x1 : Int32) (x3 : Int32) (x4 : Int32) (m : hM) : Rf vI G X 66 [(0, hA G 96), (1, .int x1), (3, .int x3), (4, .int x4)] [] m (f_X11_soonest_66 fu k33 x1 x3 x4 m) := by
  unfold f_X11_soonest_66
  refine rf_iconst C (n := 67) (v := 0) dX11_soonest_66 rfl (by decide) ?_
  refine rf_istore C (n := 69) [(5, .int 0), (0, hA G 96), (1, .int x1), (3, .int x3), (4, .int x4)] dX11_soonest_67 rfl (by decide) rfl ?_
  exact rf_lv _ [1, 2, 3, 4, 0] rfl (r_X11_soonest_69 C K fu _ hk33 fu _ _ _ _ _)
noncomputable def s_X11_soonest_33 (fu : Nat) (ih : Int32 → Int32 → Int32 → hM → Option (Int32 × hM)) (x1 : Int32) (x3 : Int32) (x4 : Int32) (m : hM) : Option (Int32 × hM) :=
  if 2399 ≤ x4 then (
some ((-1), m)) else (
if hAr LY[gR m 96 39]? 0 3072 = true then (
hBd (f_X11_empties fu (gR m 96 39) m) fun _ m12 =>
hLet (sI m12 96 41 (-1)) fun m13 =>
if x3 ≤ 0 then (
f_X11_soonest_66 fu ih x1 x3 x4 m13) else (
hBd (f_X11_losesAll fu (x4 + 1) m13) fun _ m44 =>
f_X11_soonest_66 fu ih x1 x3 x4 m44)) else none)
noncomputable def f_X11_soonest_33 (fu : Nat) (n : Nat) : Int32 → Int32 → Int32 → hM → Option (Int32 × hM) :=
  Nat.rec (motive := fun _ => Int32 → Int32 → Int32 → hM → Option (Int32 × hM)) (fun _ _ _ _ => none) (fun _ ih => s_X11_soonest_33 fu ih) n
theorem f_X11_soonest_33_s (fu : Nat) (n : Nat) (x1 : Int32) (x3 : Int32) (x4 : Int32) (m : hM) : f_X11_soonest_33 fu (n + 1) x1 x3 x4 m = s_X11_soonest_33 fu (f_X11_soonest_33 fu n) x1 x3 x4 m := rfl
set_option maxRecDepth 100000 in
set_option maxHeartbeats 4000000 in
theorem r_X11_soonest_33 {G : hG} {X : hX} (C : Cx G X 7 cX11_soonest 10 RX11 (some .int)) (K : Cr G X) (fu : Nat) (n : Nat) : ∀ (x1 : Int32) (x3 : Int32) (x4 : Int32) (m : hM), Rf vI G X 33 [(0, hA G 96), (1, .int x1), (3, .int x3), (4, .int x4)] [] m (f_X11_soonest_33 fu n x1 x3 x4 m) := by
  induction n with
  | zero => intros; exact rf_none
  | succ n ih =>
    intro x1 x3 x4 m
    show Rf vI G X 33 [(0, hA G 96), (1, .int x1), (3, .int x3), (4, .int x4)] [] m (s_X11_soonest_33 fu (f_X11_soonest_33 fu n) x1 x3 x4 m)
    unfold s_X11_soonest_33
    refine rf_iload C (n := 35) (q := 3) dX11_soonest_33 rfl rfl ?_
    refine rf_sipush C (n := 38) (v := 2399) dX11_soonest_35 rfl (by decide) ?_
    refine rf_icmp_ge C (tgt := 231) (n := 41) dX11_soonest_38 (by decide) rfl (fun h10 => ?_) (fun h10 => ?_)
    · refine rf_iconst C (n := 232) (v := (-1)) dX11_soonest_231 rfl (by decide) ?_
      exact rf_iret C K dX11_soonest_232
    · refine rf_aload_n C (n := 42) (q := 0) dX11_soonest_41 rfl rfl rfl ?_
      refine rf_aload_n C (n := 43) (q := 0) dX11_soonest_42 rfl rfl rfl ?_
      refine rf_guard (fun h11 => ?_)
      replace h11 := hAr_l h11
      refine rf_getR C (n := 46) fl_RX11_347 ly_96 rfl dX11_soonest_43 rfl ?_
      refine rf_callVv C (n := 49) (c_X11_empties G fu _ _) mw_RX11_341 ly_96 rfl ⟨by decide, by decide⟩ rfl (Nat.le_of_ble_eq_true rfl) rfl dX11_soonest_46 rfl (fun _ m12 => ?_)
      refine rf_aload_n C (n := 50) (q := 0) dX11_soonest_49 rfl rfl rfl ?_
      refine rf_iconst C (n := 51) (v := (-1)) dX11_soonest_50 rfl (by decide) ?_
      refine rf_putI C (n := 54) pl_RX11_350 ly_96 rfl ⟨rfl, rfl⟩ dX11_soonest_51 rfl ?_
      refine rf_letM (fun m13 => ?_)
      refine rf_iload_n C (n := 55) (q := 2) dX11_soonest_54 rfl rfl rfl ?_
      refine rf_if_le C (tgt := 66) (n := 58) dX11_soonest_55 (by decide) rfl (fun h14 => ?_) (fun h14 => ?_)
      · exact rf_lv _ [0, 1, 2, 3] rfl (r_X11_soonest_66 C K fu _ ih _ _ _ _)
      · refine rf_aload_n C (n := 59) (q := 0) dX11_soonest_58 rfl rfl rfl ?_
        refine rf_iload C (n := 61) (q := 3) dX11_soonest_59 rfl rfl ?_
        refine rf_iconst C (n := 62) (v := 1) dX11_soonest_61 rfl (by decide) ?_
        refine rf_iadd C (n := 63) dX11_soonest_62 rfl ?_
        refine rf_callVv C (n := 66) (c_X11_losesAll G fu _ _) mw_RX11_353 ly_96 rfl ⟨by decide, by decide⟩ rfl (Nat.le_of_ble_eq_true rfl) rfl dX11_soonest_63 rfl (fun _ m44 => ?_)
        exact rf_lv _ [0, 1, 2, 3] rfl (r_X11_soonest_66 C K fu _ ih _ _ _ _)
noncomputable def f_X11_soonest (fu : Nat) (x1 : Int32) (x2 : Int32) (x3 : Int32) (m : hM) : Option (Int32 × hM) :=
  if hAr LY[gR m 96 38]? 0 3072 = true then (
hBd (f_X11_empties fu (gR m 96 38) m) fun _ m2 =>
if hAr LY[gR m2 96 38]? 0 3072 = true then (
if hIn x1 8 then (
if hIn x1 8 then (
hBd (f_X11_placeAt fu 0 (gI m2 111 (Int32.toNatClampNeg x1)) (gI m2 109 (Int32.toNatClampNeg x1)) m2) fun y6 m7 =>
if hIn y6 3072 then (
hLet (sI m7 (gR m2 96 38) (Int32.toNatClampNeg y6) 0) fun m9 =>
f_X11_soonest_33 fu fu x1 x3 x2 m9) else none) else none) else none) else none) else none
set_option maxRecDepth 100000 in
set_option maxHeartbeats 4000000 in
theorem c_X11_soonest (G : hG) (fu : Nat) (x1 : Int32) (x2 : Int32) (x3 : Int32) (m : hM) : Mt vI G 7 yX11_soonest cX11_soonest 10 (some .int) [hA G 96, .int x1, .int x2, .int x3] m (f_X11_soonest fu x1 x2 x3 m) := by
  refine mt_of (by decide +kernel) (Nat.le_of_ble_eq_true rfl) (fun X C K => ?_)
  have C : Cx G X 7 cX11_soonest 10 RX11 (some .int) := C
  show Rf vI G X 0 [(0, hA G 96), (1, .int x1), (2, .int x2), (3, .int x3)] [] m _
  unfold f_X11_soonest
  refine rf_aload_n C (n := 1) (q := 0) dX11_soonest_0 rfl rfl rfl ?_
  refine rf_aload_n C (n := 2) (q := 0) dX11_soonest_1 rfl rfl rfl ?_
  refine rf_guard (fun h1 => ?_)
  replace h1 := hAr_l h1
  refine rf_getR C (n := 5) fl_RX11_338 ly_96 rfl dX11_soonest_2 rfl ?_
  refine rf_callVv C (n := 8) (c_X11_empties G fu _ _) mw_RX11_341 ly_96 rfl ⟨by decide, by decide⟩ rfl (Nat.le_of_ble_eq_true rfl) rfl dX11_soonest_5 rfl (fun _ m2 => ?_)
  refine rf_aload_n C (n := 9) (q := 0) dX11_soonest_8 rfl rfl rfl ?_
  refine rf_guard (fun h3 => ?_)
  replace h3 := hAr_l h3
  refine rf_getR C (n := 12) fl_RX11_338 ly_96 rfl dX11_soonest_9 rfl ?_
  refine rf_iconst C (n := 13) (v := 0) dX11_soonest_12 rfl (by decide) ?_
  refine rf_aload_n C (n := 14) (q := 0) dX11_soonest_13 rfl rfl rfl ?_
  refine rf_getS C (n := 17) fl_RX11_143 ly_96 rfl dX11_soonest_14 rfl ?_
  refine rf_iload_n C (n := 18) (q := 1) dX11_soonest_17 rfl rfl rfl ?_
  refine rf_guard (fun h4 => ?_)
  refine rf_iald C (n := 19) ly_111 h4 rfl dX11_soonest_18 rfl ?_
  refine rf_aload_n C (n := 20) (q := 0) dX11_soonest_19 rfl rfl rfl ?_
  refine rf_getS C (n := 23) fl_RX11_146 ly_96 rfl dX11_soonest_20 rfl ?_
  refine rf_iload_n C (n := 24) (q := 1) dX11_soonest_23 rfl rfl rfl ?_
  refine rf_guard (fun h5 => ?_)
  refine rf_iald C (n := 25) ly_109 h5 rfl dX11_soonest_24 rfl ?_
  refine rf_callSi C (n := 28) (c_X11_placeAt G fu _ _ _ _) sw_RX11_344 ⟨by decide, by decide⟩ rfl (Nat.le_of_ble_eq_true rfl) rfl dX11_soonest_25 rfl (fun y6 m7 => ?_)
  refine rf_iconst C (n := 29) (v := 0) dX11_soonest_28 rfl (by decide) ?_
  refine rf_guard (fun h8 => ?_)
  refine rf_iast C (n := 30) h3 h8 rfl dX11_soonest_29 rfl ?_
  refine rf_letM (fun m9 => ?_)
  refine rf_iload_n C (n := 31) (q := 2) dX11_soonest_30 rfl rfl rfl ?_
  refine rf_istore C (n := 33) [(4, .int x2), (0, hA G 96), (1, .int x1), (2, .int x2), (3, .int x3)] dX11_soonest_31 rfl (by decide) rfl ?_
  exact rf_lv _ [1, 2, 4, 0] rfl (r_X11_soonest_33 C K fu fu _ _ _ _)
noncomputable def s_X11_entersRoute_4 (fu : Nat) (ih : Int32 → Int32 → hM → Option (Unit × hM)) (x2 : Int32) (x3 : Int32) (m : hM) : Option (Unit × hM) :=
  if x3 < 0 then (
some ((), m)) else (
hBd (f_X11_enters fu (Int32.toInt64 ((x2 >>> ((3 * x3) &&& 31)) &&& 7)) m) fun _ m3 =>
hLet (x3 + (-1)) fun y4 =>
ih x2 y4 m3)
noncomputable def f_X11_entersRoute_4 (fu : Nat) (n : Nat) : Int32 → Int32 → hM → Option (Unit × hM) :=
  Nat.rec (motive := fun _ => Int32 → Int32 → hM → Option (Unit × hM)) (fun _ _ _ => none) (fun _ ih => s_X11_entersRoute_4 fu ih) n
theorem f_X11_entersRoute_4_s (fu : Nat) (n : Nat) (x2 : Int32) (x3 : Int32) (m : hM) : f_X11_entersRoute_4 fu (n + 1) x2 x3 m = s_X11_entersRoute_4 fu (f_X11_entersRoute_4 fu n) x2 x3 m := rfl
set_option maxRecDepth 100000 in
set_option maxHeartbeats 4000000 in
theorem r_X11_entersRoute_4 {G : hG} {X : hX} (C : Cx G X 2 cX11_entersRoute 4 RX11 none) (K : Cr G X) (fu : Nat) (n : Nat) : ∀ (x2 : Int32) (x3 : Int32) (m : hM), Rf vU G X 4 [(0, hA G 96), (2, .int x2), (3, .int x3)] [] m (f_X11_entersRoute_4 fu n x2 x3 m) := by
  induction n with
  | zero => intros; exact rf_none
  | succ n ih =>
    intro x2 x3 m
    show Rf vU G X 4 [(0, hA G 96), (2, .int x2), (3, .int x3)] [] m (s_X11_entersRoute_4 fu (f_X11_entersRoute_4 fu n) x2 x3 m)
    unfold s_X11_entersRoute_4
    refine rf_iload_n C (n := 5) (q := 2) dX11_entersRoute_4 rfl rfl rfl ?_
    refine rf_if_lt C (tgt := 27) (n := 8) dX11_entersRoute_5 (by decide) rfl (fun h2 => ?_) (fun h2 => ?_)
    · exact rf_vret C K dX11_entersRoute_27
    · refine rf_aload_n C (n := 9) (q := 0) dX11_entersRoute_8 rfl rfl rfl ?_
      refine rf_iload_n C (n := 10) (q := 1) dX11_entersRoute_9 rfl rfl rfl ?_
      refine rf_iconst C (n := 11) (v := 3) dX11_entersRoute_10 rfl (by decide) ?_
      refine rf_iload_n C (n := 12) (q := 2) dX11_entersRoute_11 rfl rfl rfl ?_
      refine rf_imul C (n := 13) dX11_entersRoute_12 rfl ?_
      refine rf_ishr C (n := 14) dX11_entersRoute_13 rfl ?_
      refine rf_bipush C (n := 16) (v := 7) dX11_entersRoute_14 rfl (by decide) ?_
      refine rf_iand C (n := 17) dX11_entersRoute_16 rfl ?_
      refine rf_i2l C (n := 18) dX11_entersRoute_17 rfl ?_
      refine rf_callVv C (n := 21) (c_X11_enters G fu _ _) mw_RX11_18 ly_96 rfl ⟨by decide, by decide⟩ rfl (Nat.le_of_ble_eq_true rfl) rfl dX11_entersRoute_18 rfl (fun _ m3 => ?_)
      refine rf_iinc2 C (n := 24) (q := 2) (fun y4 => [(3, .int y4), (0, hA G 96), (2, .int x2)]) dX11_entersRoute_21 rfl rfl (by decide) (by decide) (fun _ => rfl) (fun y4 => ?_)
      refine rf_goto C (n := 4) dX11_entersRoute_24 (by decide) ?_
      exact rf_lv _ [1, 2, 0] rfl (ih _ _ _)
noncomputable def f_X11_entersRoute (fu : Nat) (x1 : Int32) (x2 : Int32) (m : hM) : Option (Unit × hM) :=
  hLet (x1 - 1) fun y1 =>
f_X11_entersRoute_4 fu fu x2 y1 m
set_option maxRecDepth 100000 in
set_option maxHeartbeats 4000000 in
theorem c_X11_entersRoute (G : hG) (fu : Nat) (x1 : Int32) (x2 : Int32) (m : hM) : Mt vU G 2 yX11_entersRoute cX11_entersRoute 4 none [hA G 96, .int x1, .int x2] m (f_X11_entersRoute fu x1 x2 m) := by
  refine mt_of (by decide +kernel) (Nat.le_of_ble_eq_true rfl) (fun X C K => ?_)
  have C : Cx G X 2 cX11_entersRoute 4 RX11 none := C
  show Rf vU G X 0 [(0, hA G 96), (1, .int x1), (2, .int x2)] [] m _
  unfold f_X11_entersRoute
  refine rf_iload_n C (n := 1) (q := 1) dX11_entersRoute_0 rfl rfl rfl ?_
  refine rf_iconst C (n := 2) (v := 1) dX11_entersRoute_1 rfl (by decide) ?_
  refine rf_isub C (n := 3) dX11_entersRoute_2 rfl ?_
  refine rf_letI (fun y1 => ?_)
  refine rf_istore_n C (n := 4) [(3, .int y1), (0, hA G 96), (1, .int x1), (2, .int x2)] dX11_entersRoute_3 rfl rfl (by decide) rfl ?_
  exact rf_lv _ [1, 3, 0] rfl (r_X11_entersRoute_4 C K fu fu _ _ _)
noncomputable def f_X11_one (fu : Nat) (x1 : Int32) (x2 : Int32) (x3 : Int32) (m : hM) : Option (Int32 × hM) :=
  hLet (sI m 96 0 0) fun m1 =>
hBd (f_X11_isPiece fu x1 m1) fun y2 m3 =>
if y2 = 0 then (
some ((-1), m3)) else (
hBd (f_X11_isHour fu x2 m3) fun y5 m6 =>
if y5 = 0 then (
some ((-1), m6)) else (
hBd (f_X11_in fu (Int32.toInt64 x3) 0 3 m6) fun y8 m9 =>
if ¬ y8 = 0 then (
hBd (f_X11_soonest fu x1 x2 x3 m9) fun y11 m12 =>
if 0 ≤ y11 then (
hLet (sI m12 96 1 0) fun m14 =>
hBd (f_X11_enters fu (Int32.toInt64 (gI m14 96 41)) m14) fun _ m15 =>
hBd (f_X11_entersRoute fu (gI m15 96 41) (gI m15 96 42) m15) fun _ m16 =>
some (y11, m16)) else (
some ((-2), m12))) else (
some ((-1), m9))))
set_option maxRecDepth 100000 in
set_option maxHeartbeats 4000000 in
theorem c_X11_one (G : hG) (fu : Nat) (x1 : Int32) (x2 : Int32) (x3 : Int32) (m : hM) : Mt vI G 8 yX11_one cX11_one 5 (some .int) [hA G 96, .int x1, .int x2, .int x3] m (f_X11_one fu x1 x2 x3 m) := by
  refine mt_of (by decide +kernel) (Nat.le_of_ble_eq_true rfl) (fun X C K => ?_)
  have C : Cx G X 8 cX11_one 5 RX11 (some .int) := C
  show Rf vI G X 0 [(0, hA G 96), (1, .int x1), (2, .int x2), (3, .int x3)] [] m _
  unfold f_X11_one
  refine rf_aload_n C (n := 1) (q := 0) dX11_one_0 rfl rfl rfl ?_
  refine rf_iconst C (n := 2) (v := 0) dX11_one_1 rfl (by decide) ?_
  refine rf_putI C (n := 5) pl_RX11_3 ly_96 rfl ⟨rfl, rfl⟩ dX11_one_2 rfl ?_
  refine rf_letM (fun m1 => ?_)
  refine rf_aload_n C (n := 6) (q := 0) dX11_one_5 rfl rfl rfl ?_
  refine rf_iload_n C (n := 7) (q := 1) dX11_one_6 rfl rfl rfl ?_
  refine rf_callVi C (n := 10) (c_X11_isPiece G fu _ _) mw_RX11_256 ly_96 rfl ⟨by decide, by decide⟩ rfl (Nat.le_of_ble_eq_true rfl) rfl dX11_one_7 rfl (fun y2 m3 => ?_)
  refine rf_if_eq C (tgt := 32) (n := 13) dX11_one_10 (by decide) rfl (fun h4 => ?_) (fun h4 => ?_)
  · refine rf_iconst C (n := 33) (v := (-1)) dX11_one_32 rfl (by decide) ?_
    exact rf_iret C K dX11_one_33
  · refine rf_iload_n C (n := 14) (q := 2) dX11_one_13 rfl rfl rfl ?_
    refine rf_callSi C (n := 17) (c_X11_isHour G fu _ _) sw_RX11_81 ⟨by decide, by decide⟩ rfl (Nat.le_of_ble_eq_true rfl) rfl dX11_one_14 rfl (fun y5 m6 => ?_)
    refine rf_if_eq C (tgt := 32) (n := 20) dX11_one_17 (by decide) rfl (fun h7 => ?_) (fun h7 => ?_)
    · refine rf_iconst C (n := 33) (v := (-1)) dX11_one_32 rfl (by decide) ?_
      exact rf_iret C K dX11_one_33
    · refine rf_iload_n C (n := 21) (q := 3) dX11_one_20 rfl rfl rfl ?_
      refine rf_i2l C (n := 22) dX11_one_21 rfl ?_
      refine rf_lconst C (n := 23) (v := 0) dX11_one_22 rfl (by decide) ?_
      refine rf_ldc2 C (n := 26) dX11_one_23 rfl kl_RX11_93 ?_
      refine rf_callSi C (n := 29) (c_X11_in G fu _ _ _ _) sw_RX11_25 ⟨by decide, by decide⟩ rfl (Nat.le_of_ble_eq_true rfl) rfl dX11_one_26 rfl (fun y8 m9 => ?_)
      refine rf_if_ne C (tgt := 34) (n := 32) dX11_one_29 (by decide) rfl (fun h10 => ?_) (fun h10 => ?_)
      · refine rf_aload_n C (n := 35) (q := 0) dX11_one_34 rfl rfl rfl ?_
        refine rf_iload_n C (n := 36) (q := 1) dX11_one_35 rfl rfl rfl ?_
        refine rf_iload_n C (n := 37) (q := 2) dX11_one_36 rfl rfl rfl ?_
        refine rf_iload_n C (n := 38) (q := 3) dX11_one_37 rfl rfl rfl ?_
        refine rf_callVi C (n := 41) (c_X11_soonest G fu _ _ _ _) mw_RX11_367 ly_96 rfl ⟨by decide, by decide⟩ rfl (Nat.le_of_ble_eq_true rfl) rfl dX11_one_38 rfl (fun y11 m12 => ?_)
        refine rf_istore C (n := 43) [(4, .int y11), (0, hA G 96), (1, .int x1), (2, .int x2), (3, .int x3)] dX11_one_41 rfl (by decide) rfl ?_
        refine rf_iload C (n := 45) (q := 0) dX11_one_43 rfl rfl ?_
        refine rf_if_ge C (tgt := 51) (n := 48) dX11_one_45 (by decide) rfl (fun h13 => ?_) (fun h13 => ?_)
        · refine rf_aload_n C (n := 52) (q := 1) dX11_one_51 rfl rfl rfl ?_
          refine rf_iconst C (n := 53) (v := 0) dX11_one_52 rfl (by decide) ?_
          refine rf_putI C (n := 56) pl_RX11_11 ly_96 rfl ⟨rfl, rfl⟩ dX11_one_53 rfl ?_
          refine rf_letM (fun m14 => ?_)
          refine rf_aload_n C (n := 57) (q := 1) dX11_one_56 rfl rfl rfl ?_
          refine rf_aload_n C (n := 58) (q := 1) dX11_one_57 rfl rfl rfl ?_
          refine rf_getI C (n := 61) fl_RX11_350 ly_96 rfl dX11_one_58 rfl ?_
          refine rf_i2l C (n := 62) dX11_one_61 rfl ?_
          refine rf_callVv C (n := 65) (c_X11_enters G fu _ _) mw_RX11_18 ly_96 rfl ⟨by decide, by decide⟩ rfl (Nat.le_of_ble_eq_true rfl) rfl dX11_one_62 rfl (fun _ m15 => ?_)
          refine rf_aload_n C (n := 66) (q := 1) dX11_one_65 rfl rfl rfl ?_
          refine rf_aload_n C (n := 67) (q := 1) dX11_one_66 rfl rfl rfl ?_
          refine rf_getI C (n := 70) fl_RX11_350 ly_96 rfl dX11_one_67 rfl ?_
          refine rf_aload_n C (n := 71) (q := 1) dX11_one_70 rfl rfl rfl ?_
          refine rf_getI C (n := 74) fl_RX11_360 ly_96 rfl dX11_one_71 rfl ?_
          refine rf_callVv C (n := 77) (c_X11_entersRoute G fu _ _ _) mw_RX11_370 ly_96 rfl ⟨by decide, by decide⟩ rfl (Nat.le_of_ble_eq_true rfl) rfl dX11_one_74 rfl (fun _ m16 => ?_)
          refine rf_iload C (n := 79) (q := 0) dX11_one_77 rfl rfl ?_
          exact rf_iret C K dX11_one_79
        · refine rf_bipush C (n := 50) (v := (-2)) dX11_one_48 rfl (by decide) ?_
          exact rf_iret C K dX11_one_50
      · refine rf_iconst C (n := 33) (v := (-1)) dX11_one_32 rfl (by decide) ?_
        exact rf_iret C K dX11_one_33
noncomputable def s_X11_emptiesPaid_2 (fu : Nat) (ih : Nat → Int32 → hM → Option (Unit × hM)) (a1 : Nat) (x2 : Int32) (m : hM) : Option (Unit × hM) :=
  if 3072 ≤ x2 then (
some ((), m)) else (
if hIn x2 3072 then (
hLet (sL m a1 (Int32.toNatClampNeg x2) (-1)) fun m3 =>
hLet (x2 + 1) fun y4 =>
ih a1 y4 m3) else none)
noncomputable def f_X11_emptiesPaid_2 (fu : Nat) (n : Nat) : Nat → Int32 → hM → Option (Unit × hM) :=
  Nat.rec (motive := fun _ => Nat → Int32 → hM → Option (Unit × hM)) (fun _ _ _ => none) (fun _ ih => s_X11_emptiesPaid_2 fu ih) n
theorem f_X11_emptiesPaid_2_s (fu : Nat) (n : Nat) (a1 : Nat) (x2 : Int32) (m : hM) : f_X11_emptiesPaid_2 fu (n + 1) a1 x2 m = s_X11_emptiesPaid_2 fu (f_X11_emptiesPaid_2 fu n) a1 x2 m := rfl
set_option maxRecDepth 100000 in
set_option maxHeartbeats 4000000 in
theorem r_X11_emptiesPaid_2 {G : hG} {X : hX} (C : Cx G X 1 cX11_emptiesPaid 3 RX11 none) (K : Cr G X) (fu : Nat) (n : Nat) : ∀ (a1 : Nat) (ha1 : LY[a1]? = some (.inr (.inl (3, 3072)))) (x2 : Int32) (m : hM), Rf vU G X 2 [(1, hA G a1), (2, .int x2)] [] m (f_X11_emptiesPaid_2 fu n a1 x2 m) := by
  induction n with
  | zero => intros; exact rf_none
  | succ n ih =>
    intro a1 ha1 x2 m
    show Rf vU G X 2 [(1, hA G a1), (2, .int x2)] [] m (s_X11_emptiesPaid_2 fu (f_X11_emptiesPaid_2 fu n) a1 x2 m)
    unfold s_X11_emptiesPaid_2
    refine rf_iload_n C (n := 3) (q := 1) dX11_emptiesPaid_2 rfl rfl rfl ?_
    refine rf_aload_n C (n := 4) (q := 0) dX11_emptiesPaid_3 rfl rfl rfl ?_
    refine rf_alen C (n := 5) (v := 3072) ha1 (by decide) (by decide) dX11_emptiesPaid_4 rfl ?_
    refine rf_icmp_ge C (tgt := 20) (n := 8) dX11_emptiesPaid_5 (by decide) rfl (fun h1 => ?_) (fun h1 => ?_)
    · exact rf_vret C K dX11_emptiesPaid_20
    · refine rf_aload_n C (n := 9) (q := 0) dX11_emptiesPaid_8 rfl rfl rfl ?_
      refine rf_iload_n C (n := 10) (q := 1) dX11_emptiesPaid_9 rfl rfl rfl ?_
      refine rf_ldc2 C (n := 13) dX11_emptiesPaid_10 rfl kl_RX11_84 ?_
      refine rf_guard (fun h2 => ?_)
      refine rf_last C (n := 14) ha1 h2 rfl dX11_emptiesPaid_13 rfl ?_
      refine rf_letM (fun m3 => ?_)
      refine rf_iinc2 C (n := 17) (q := 1) (fun y4 => [(2, .int y4), (1, hA G a1)]) dX11_emptiesPaid_14 rfl rfl (by decide) (by decide) (fun _ => rfl) (fun y4 => ?_)
      refine rf_goto C (n := 2) dX11_emptiesPaid_17 (by decide) ?_
      exact rf_lv _ [1, 0] rfl (ih _ ha1 _ _)
noncomputable def f_X11_emptiesPaid (fu : Nat) (a1 : Nat) (m : hM) : Option (Unit × hM) :=
  if hAr LY[a1]? 3 3072 = true then (f_X11_emptiesPaid_2 fu fu a1 0 m) else none
set_option maxRecDepth 100000 in
set_option maxHeartbeats 4000000 in
theorem c_X11_emptiesPaid (G : hG) (fu : Nat) (a1 : Nat) (m : hM) : Mt vU G 1 yX11_emptiesPaid cX11_emptiesPaid 3 none [hA G 96, hA G a1] m (f_X11_emptiesPaid fu a1 m) := by
  refine mt_of (by decide +kernel) (Nat.le_of_ble_eq_true rfl) (fun X C K => ?_)
  have C : Cx G X 1 cX11_emptiesPaid 3 RX11 none := C
  show Rf vU G X 0 [(0, hA G 96), (1, hA G a1)] [] m _
  unfold f_X11_emptiesPaid
  refine rf_guard (fun ha1 => ?_)
  replace ha1 := hAr_l ha1
  refine rf_iconst C (n := 1) (v := 0) dX11_emptiesPaid_0 rfl (by decide) ?_
  refine rf_istore_n C (n := 2) [(2, .int 0), (0, hA G 96), (1, hA G a1)] dX11_emptiesPaid_1 rfl rfl (by decide) rfl ?_
  exact rf_lv _ [2, 0] rfl (r_X11_emptiesPaid_2 C K fu fu _ ha1 _ _)
noncomputable def f_J9_min_f86c9 (fu : Nat) (x0 : Int64) (x2 : Int64) (m : hM) : Option (Int64 × hM) :=
  if 0 < (lg_cmp x0 x2) then (
some (x2, m)) else (
some (x0, m))
set_option maxRecDepth 100000 in
set_option maxHeartbeats 4000000 in
theorem c_J9_min_f86c9 (G : hG) (fu : Nat) (x0 : Int64) (x2 : Int64) (m : hM) : Mt vJ G 1 yJ9_min_f86c9 cJ9_min_f86c9 4 (some .long) [.long x0, .long x2] m (f_J9_min_f86c9 fu x0 x2 m) := by
  refine mt_of (by decide +kernel) (Nat.le_of_ble_eq_true rfl) (fun X C K => ?_)
  have C : Cx G X 1 cJ9_min_f86c9 4 RJ9 (some .long) := C
  show Rf vJ G X 0 [(0, .long x0), (2, .long x2)] [] m _
  unfold f_J9_min_f86c9
  refine rf_lload_n C (n := 1) (q := 0) dJ9_min_f86c9_0 rfl rfl rfl ?_
  refine rf_lload_n C (n := 2) (q := 1) dJ9_min_f86c9_1 rfl rfl rfl ?_
  refine rf_lcmp C (n := 3) dJ9_min_f86c9_2 rfl ?_
  refine rf_if_gt C (tgt := 10) (n := 6) dJ9_min_f86c9_3 (by decide) rfl (fun h1 => ?_) (fun h1 => ?_)
  · refine rf_lload_n C (n := 11) (q := 1) dJ9_min_f86c9_10 rfl rfl rfl ?_
    exact rf_lret C K dJ9_min_f86c9_11
  · refine rf_lload_n C (n := 7) (q := 0) dJ9_min_f86c9_6 rfl rfl rfl ?_
    refine rf_goto C (n := 11) dJ9_min_f86c9_7 (by decide) ?_
    exact rf_lret C K dJ9_min_f86c9_11
noncomputable def f_X11_cheaper_30 (fu : Nat) (b0 : Nat) (s1 : Int32) (s2 : Int64) (m : hM) : Option (Unit × hM) :=
  if hIn s1 3072 then (
hLet (sL m b0 (Int32.toNatClampNeg s1) s2) fun m10 =>
some ((), m10)) else none
set_option maxRecDepth 100000 in
set_option maxHeartbeats 4000000 in
theorem r_X11_cheaper_30 {G : hG} {X : hX} (C : Cx G X 2 cX11_cheaper 4 RX11 none) (K : Cr G X) (fu : Nat) (b0 : Nat) (hb0 : LY[b0]? = some (.inr (.inl (3, 3072)))) (s1 : Int32) (s2 : Int64) (m : hM) : Rf vU G X 30 [] [.long s2, .int s1, hA G b0] m (f_X11_cheaper_30 fu b0 s1 s2 m) := by
  unfold f_X11_cheaper_30
  refine rf_guard (fun h9 => ?_)
  refine rf_last C (n := 31) hb0 h9 rfl dX11_cheaper_30 rfl ?_
  refine rf_letM (fun m10 => ?_)
  exact rf_vret C K dX11_cheaper_31
noncomputable def f_X11_cheaper (fu : Nat) (x1 : Int32) (x2 : Int64) (m : hM) : Option (Unit × hM) :=
  if hAr LY[gR m 96 44]? 3 3072 = true then (
if hAr LY[gR m 96 44]? 3 3072 = true then (
if hIn x1 3072 then (
if 0 ≤ (lg_cmp (gL m (gR m 96 44) (Int32.toNatClampNeg x1)) 0) then (
if hAr LY[gR m 96 44]? 3 3072 = true then (
if hIn x1 3072 then (
hBd (f_J9_min_f86c9 fu (gL m (gR m 96 44) (Int32.toNatClampNeg x1)) x2 m) fun y7 m8 =>
f_X11_cheaper_30 fu (gR m 96 44) x1 y7 m8) else none) else none) else (
f_X11_cheaper_30 fu (gR m 96 44) x1 x2 m)) else none) else none) else none
set_option maxRecDepth 100000 in
set_option maxHeartbeats 4000000 in
theorem c_X11_cheaper (G : hG) (fu : Nat) (x1 : Int32) (x2 : Int64) (m : hM) : Mt vU G 2 yX11_cheaper cX11_cheaper 4 none [hA G 96, .int x1, .long x2] m (f_X11_cheaper fu x1 x2 m) := by
  refine mt_of (by decide +kernel) (Nat.le_of_ble_eq_true rfl) (fun X C K => ?_)
  have C : Cx G X 2 cX11_cheaper 4 RX11 none := C
  show Rf vU G X 0 [(0, hA G 96), (1, .int x1), (2, .long x2)] [] m _
  unfold f_X11_cheaper
  refine rf_aload_n C (n := 1) (q := 0) dX11_cheaper_0 rfl rfl rfl ?_
  refine rf_guard (fun h1 => ?_)
  replace h1 := hAr_l h1
  refine rf_getR C (n := 4) fl_RX11_374 ly_96 rfl dX11_cheaper_1 rfl ?_
  refine rf_iload_n C (n := 5) (q := 1) dX11_cheaper_4 rfl rfl rfl ?_
  refine rf_aload_n C (n := 6) (q := 0) dX11_cheaper_5 rfl rfl rfl ?_
  refine rf_guard (fun h2 => ?_)
  replace h2 := hAr_l h2
  refine rf_getR C (n := 9) fl_RX11_374 ly_96 rfl dX11_cheaper_6 rfl ?_
  refine rf_iload_n C (n := 10) (q := 1) dX11_cheaper_9 rfl rfl rfl ?_
  refine rf_guard (fun h3 => ?_)
  refine rf_lald C (n := 11) h2 h3 rfl dX11_cheaper_10 rfl ?_
  refine rf_lconst C (n := 12) (v := 0) dX11_cheaper_11 rfl (by decide) ?_
  refine rf_lcmp C (n := 13) dX11_cheaper_12 rfl ?_
  refine rf_if_ge C (tgt := 20) (n := 16) dX11_cheaper_13 (by decide) rfl (fun h4 => ?_) (fun h4 => ?_)
  · refine rf_aload_n C (n := 21) (q := 0) dX11_cheaper_20 rfl rfl rfl ?_
    refine rf_guard (fun h5 => ?_)
    replace h5 := hAr_l h5
    refine rf_getR C (n := 24) fl_RX11_374 ly_96 rfl dX11_cheaper_21 rfl ?_
    refine rf_iload_n C (n := 25) (q := 1) dX11_cheaper_24 rfl rfl rfl ?_
    refine rf_guard (fun h6 => ?_)
    refine rf_lald C (n := 26) h5 h6 rfl dX11_cheaper_25 rfl ?_
    refine rf_lload_n C (n := 27) (q := 2) dX11_cheaper_26 rfl rfl rfl ?_
    refine rf_callSl C (n := 30) (c_J9_min_f86c9 G fu _ _ _) sw_RX11_377 ⟨by decide, by decide⟩ rfl (Nat.le_of_ble_eq_true rfl) rfl dX11_cheaper_27 rfl (fun y7 m8 => ?_)
    exact rf_lv _ [] rfl (r_X11_cheaper_30 C K fu _ h1 _ _ _)
  · refine rf_lload_n C (n := 17) (q := 2) dX11_cheaper_16 rfl rfl rfl ?_
    refine rf_goto C (n := 30) dX11_cheaper_17 (by decide) ?_
    exact rf_lv _ [] rfl (r_X11_cheaper_30 C K fu _ h1 _ _ _)
noncomputable def f_X11_goesPaid_207 (fu : Nat) (k131 : Int32 → Int32 → Int32 → Int64 → Int32 → Int32 → hM → Option (Unit × hM)) (x1 : Int32) (x2 : Int32) (x3 : Int32) (x4 : Int64) (x6 : Int32) (x7 : Int32) (m : hM) : Option (Unit × hM) :=
  hLet (x7 + 1) fun y8 =>
k131 x1 x2 x3 x4 x6 y8 m
set_option maxRecDepth 100000 in
set_option maxHeartbeats 4000000 in
theorem r_X11_goesPaid_207 {G : hG} {X : hX} (C : Cx G X 3 cX11_goesPaid 10 RX11 none) (K : Cr G X) (fu : Nat) (k131 : Int32 → Int32 → Int32 → Int64 → Int32 → Int32 → hM → Option (Unit × hM)) (hk131 : ∀ (x1 : Int32) (x2 : Int32) (x3 : Int32) (x4 : Int64) (x6 : Int32) (x7 : Int32) (m : hM), Rf vU G X 131 [(0, hA G 96), (1, .int x1), (2, .int x2), (3, .int x3), (4, .long x4), (6, .int x6), (7, .int x7)] [] m (k131 x1 x2 x3 x4 x6 x7 m)) (x1 : Int32) (x2 : Int32) (x3 : Int32) (x4 : Int64) (x6 : Int32) (x7 : Int32) (m : hM) : Rf vU G X 207 [(0, hA G 96), (1, .int x1), (2, .int x2), (3, .int x3), (4, .long x4), (6, .int x6), (7, .int x7)] [] m (f_X11_goesPaid_207 fu k131 x1 x2 x3 x4 x6 x7 m) := by
  unfold f_X11_goesPaid_207
  refine rf_iinc2 C (n := 210) (q := 6) (fun y8 => [(7, .int y8), (0, hA G 96), (1, .int x1), (2, .int x2), (3, .int x3), (4, .long x4), (6, .int x6)]) dX11_goesPaid_207 rfl rfl (by decide) (by decide) (fun _ => rfl) (fun y8 => ?_)
  refine rf_goto C (n := 131) dX11_goesPaid_210 (by decide) ?_
  exact rf_lv _ [1, 2, 3, 4, 5, 6, 0] rfl (hk131 _ _ _ _ _ _ _)
noncomputable def s_X11_goesPaid_131 (fu : Nat) (ih : Int32 → Int32 → Int32 → Int64 → Int32 → Int32 → hM → Option (Unit × hM)) (x1 : Int32) (x2 : Int32) (x3 : Int32) (x4 : Int64) (x6 : Int32) (x7 : Int32) (m : hM) : Option (Unit × hM) :=
  if (gI m 96 3) ≤ x7 then (
some ((), m)) else (
if x6 ≤ x1 then (
some ((), m)) else (
if x7 = x2 then (
f_X11_goesPaid_207 fu ih x1 x2 x3 x4 x6 x7 m) else (
hLet (((x4 - x4 / 512 * 512) * 8) + (Int32.toInt64 x7)) fun y9 =>
if hIn ((6 * x2) + x7) 36 then (
hBd (f_X11_placeAt fu (x1 + 1) x7 (x3 + (gI m 123 (Int32.toNatClampNeg ((6 * x2) + x7)))) m) fun y11 m12 =>
hBd (f_X11_cheaper fu y11 (((x4 / 512) * 512) + y9) m12) fun _ m13 =>
f_X11_goesPaid_207 fu ih x1 x2 x3 x4 x6 x7 m13) else none)))
noncomputable def f_X11_goesPaid_131 (fu : Nat) (n : Nat) : Int32 → Int32 → Int32 → Int64 → Int32 → Int32 → hM → Option (Unit × hM) :=
  Nat.rec (motive := fun _ => Int32 → Int32 → Int32 → Int64 → Int32 → Int32 → hM → Option (Unit × hM)) (fun _ _ _ _ _ _ _ => none) (fun _ ih => s_X11_goesPaid_131 fu ih) n
theorem f_X11_goesPaid_131_s (fu : Nat) (n : Nat) (x1 : Int32) (x2 : Int32) (x3 : Int32) (x4 : Int64) (x6 : Int32) (x7 : Int32) (m : hM) : f_X11_goesPaid_131 fu (n + 1) x1 x2 x3 x4 x6 x7 m = s_X11_goesPaid_131 fu (f_X11_goesPaid_131 fu n) x1 x2 x3 x4 x6 x7 m := rfl
set_option maxRecDepth 100000 in
set_option maxHeartbeats 4000000 in
theorem r_X11_goesPaid_131 {G : hG} {X : hX} (C : Cx G X 3 cX11_goesPaid 10 RX11 none) (K : Cr G X) (fu : Nat) (n : Nat) : ∀ (x1 : Int32) (x2 : Int32) (x3 : Int32) (x4 : Int64) (x6 : Int32) (x7 : Int32) (m : hM), Rf vU G X 131 [(0, hA G 96), (1, .int x1), (2, .int x2), (3, .int x3), (4, .long x4), (6, .int x6), (7, .int x7)] [] m (f_X11_goesPaid_131 fu n x1 x2 x3 x4 x6 x7 m) := by
  induction n with
  | zero => intros; exact rf_none
  | succ n ih =>
    intro x1 x2 x3 x4 x6 x7 m
    show Rf vU G X 131 [(0, hA G 96), (1, .int x1), (2, .int x2), (3, .int x3), (4, .long x4), (6, .int x6), (7, .int x7)] [] m (s_X11_goesPaid_131 fu (f_X11_goesPaid_131 fu n) x1 x2 x3 x4 x6 x7 m)
    unfold s_X11_goesPaid_131
    refine rf_iload C (n := 133) (q := 6) dX11_goesPaid_131 rfl rfl ?_
    refine rf_aload_n C (n := 134) (q := 0) dX11_goesPaid_133 rfl rfl rfl ?_
    refine rf_getI C (n := 137) fl_RX11_22 ly_96 rfl dX11_goesPaid_134 rfl ?_
    refine rf_icmp_ge C (tgt := 213) (n := 140) dX11_goesPaid_137 (by decide) rfl (fun h5 => ?_) (fun h5 => ?_)
    · exact rf_vret C K dX11_goesPaid_213
    · refine rf_iload_n C (n := 141) (q := 1) dX11_goesPaid_140 rfl rfl rfl ?_
      refine rf_iload C (n := 143) (q := 5) dX11_goesPaid_141 rfl rfl ?_
      refine rf_icmp_ge C (tgt := 213) (n := 146) dX11_goesPaid_143 (by decide) rfl (fun h6 => ?_) (fun h6 => ?_)
      · exact rf_vret C K dX11_goesPaid_213
      · refine rf_iload C (n := 148) (q := 6) dX11_goesPaid_146 rfl rfl ?_
        refine rf_iload_n C (n := 149) (q := 2) dX11_goesPaid_148 rfl rfl rfl ?_
        refine rf_icmp_eq C (tgt := 207) (n := 152) dX11_goesPaid_149 (by decide) rfl (fun h7 => ?_) (fun h7 => ?_)
        · exact rf_lv _ [0, 1, 2, 3, 4, 5, 6] rfl (r_X11_goesPaid_207 C K fu _ ih _ _ _ _ _ _ _)
        · refine rf_lload C (n := 154) (q := 4) dX11_goesPaid_152 rfl rfl ?_
          refine rf_ldc2 C (n := 157) dX11_goesPaid_154 rfl kl_RX11_382 ?_
          refine rf_lrem C (n := 158) dX11_goesPaid_157 rfl (by decide) ?_
          refine rf_ldc2 C (n := 161) dX11_goesPaid_158 rfl kl_RX11_311 ?_
          refine rf_lmul C (n := 162) dX11_goesPaid_161 rfl ?_
          refine rf_iload C (n := 164) (q := 6) dX11_goesPaid_162 rfl rfl ?_
          refine rf_i2l C (n := 165) dX11_goesPaid_164 rfl ?_
          refine rf_ladd C (n := 166) dX11_goesPaid_165 rfl ?_
          refine rf_letL (fun y9 => ?_)
          refine rf_lstore C (n := 168) [(8, .long y9), (0, hA G 96), (1, .int x1), (2, .int x2), (3, .int x3), (4, .long x4), (6, .int x6), (7, .int x7)] dX11_goesPaid_166 rfl (by decide) rfl ?_
          refine rf_aload_n C (n := 169) (q := 1) dX11_goesPaid_168 rfl rfl rfl ?_
          refine rf_iload_n C (n := 170) (q := 2) dX11_goesPaid_169 rfl rfl rfl ?_
          refine rf_iconst C (n := 171) (v := 1) dX11_goesPaid_170 rfl (by decide) ?_
          refine rf_iadd C (n := 172) dX11_goesPaid_171 rfl ?_
          refine rf_iload C (n := 174) (q := 7) dX11_goesPaid_172 rfl rfl ?_
          refine rf_iload_n C (n := 175) (q := 4) dX11_goesPaid_174 rfl rfl rfl ?_
          refine rf_aload_n C (n := 176) (q := 1) dX11_goesPaid_175 rfl rfl rfl ?_
          refine rf_getS C (n := 179) fl_RX11_335 ly_96 rfl dX11_goesPaid_176 rfl ?_
          refine rf_bipush C (n := 181) (v := 6) dX11_goesPaid_179 rfl (by decide) ?_
          refine rf_iload_n C (n := 182) (q := 3) dX11_goesPaid_181 rfl rfl rfl ?_
          refine rf_imul C (n := 183) dX11_goesPaid_182 rfl ?_
          refine rf_iload C (n := 185) (q := 7) dX11_goesPaid_183 rfl rfl ?_
          refine rf_iadd C (n := 186) dX11_goesPaid_185 rfl ?_
          refine rf_guard (fun h10 => ?_)
          refine rf_iald C (n := 187) ly_123 h10 rfl dX11_goesPaid_186 rfl ?_
          refine rf_iadd C (n := 188) dX11_goesPaid_187 rfl ?_
          refine rf_callSi C (n := 191) (c_X11_placeAt G fu _ _ _ _) sw_RX11_344 ⟨by decide, by decide⟩ rfl (Nat.le_of_ble_eq_true rfl) rfl dX11_goesPaid_188 rfl (fun y11 m12 => ?_)
          refine rf_lload C (n := 193) (q := 5) dX11_goesPaid_191 rfl rfl ?_
          refine rf_ldc2 C (n := 196) dX11_goesPaid_193 rfl kl_RX11_382 ?_
          refine rf_ldiv C (n := 197) dX11_goesPaid_196 rfl (by decide) ?_
          refine rf_ldc2 C (n := 200) dX11_goesPaid_197 rfl kl_RX11_382 ?_
          refine rf_lmul C (n := 201) dX11_goesPaid_200 rfl ?_
          refine rf_lload C (n := 203) (q := 0) dX11_goesPaid_201 rfl rfl ?_
          refine rf_ladd C (n := 204) dX11_goesPaid_203 rfl ?_
          refine rf_callVv C (n := 207) (c_X11_cheaper G fu _ _ _) mw_RX11_388 ly_96 rfl ⟨by decide, by decide⟩ rfl (Nat.le_of_ble_eq_true rfl) rfl dX11_goesPaid_204 rfl (fun _ m13 => ?_)
          exact rf_lv _ [1, 2, 3, 4, 5, 6, 7] rfl (r_X11_goesPaid_207 C K fu _ ih _ _ _ _ _ _ _)
noncomputable def f_X11_goesPaid_104 (fu : Nat) (x1 : Int32) (x4 : Int64) (m : hM) : Option (Unit × hM) :=
  hLet (sL m 96 45 x4) fun m17 =>
hLet (sI m17 96 46 x1) fun m18 =>
some ((), m18)
set_option maxRecDepth 100000 in
set_option maxHeartbeats 4000000 in
theorem r_X11_goesPaid_104 {G : hG} {X : hX} (C : Cx G X 3 cX11_goesPaid 10 RX11 none) (K : Cr G X) (fu : Nat) (x1 : Int32) (x4 : Int64) (m : hM) : Rf vU G X 104 [(0, hA G 96), (1, .int x1), (4, .long x4)] [] m (f_X11_goesPaid_104 fu x1 x4 m) := by
  unfold f_X11_goesPaid_104
  refine rf_aload_n C (n := 105) (q := 0) dX11_goesPaid_104 rfl rfl rfl ?_
  refine rf_lload C (n := 107) (q := 2) dX11_goesPaid_105 rfl rfl ?_
  refine rf_putL C (n := 110) pl_RX11_384 ly_96 rfl ⟨rfl, rfl⟩ dX11_goesPaid_107 rfl ?_
  refine rf_letM (fun m17 => ?_)
  refine rf_aload_n C (n := 111) (q := 0) dX11_goesPaid_110 rfl rfl rfl ?_
  refine rf_iload_n C (n := 112) (q := 1) dX11_goesPaid_111 rfl rfl rfl ?_
  refine rf_putI C (n := 115) pl_RX11_379 ly_96 rfl ⟨rfl, rfl⟩ dX11_goesPaid_112 rfl ?_
  refine rf_letM (fun m18 => ?_)
  exact rf_vret C K dX11_goesPaid_115
noncomputable def f_X11_goesPaid_66 (fu : Nat) (x1 : Int32) (x4 : Int64) (x7 : Int32) (s0 : Int32) (m : hM) : Option (Unit × hM) :=
  if ¬ x7 = 0 then (
f_X11_goesPaid_104 fu x1 x4 m) else (
if s0 = 0 then (
some ((), m)) else (
if x1 < (gI m 96 46) then (
f_X11_goesPaid_104 fu x1 x4 m) else (
if ¬ x1 = (gI m 96 46) then (
some ((), m)) else (
if 0 ≤ (lg_cmp x4 (gL m 96 45)) then (
some ((), m)) else (
f_X11_goesPaid_104 fu x1 x4 m)))))
set_option maxRecDepth 100000 in
set_option maxHeartbeats 4000000 in
theorem r_X11_goesPaid_66 {G : hG} {X : hX} (C : Cx G X 3 cX11_goesPaid 10 RX11 none) (K : Cr G X) (fu : Nat) (x1 : Int32) (x4 : Int64) (x7 : Int32) (s0 : Int32) (m : hM) : Rf vU G X 66 [(0, hA G 96), (1, .int x1), (4, .long x4), (7, .int x7)] [.int s0] m (f_X11_goesPaid_66 fu x1 x4 x7 s0 m) := by
  unfold f_X11_goesPaid_66
  refine rf_istore C (n := 68) [(8, .int s0), (0, hA G 96), (1, .int x1), (4, .long x4), (7, .int x7)] dX11_goesPaid_66 rfl (by decide) rfl ?_
  refine rf_iload C (n := 70) (q := 4) dX11_goesPaid_68 rfl rfl ?_
  refine rf_if_ne C (tgt := 104) (n := 73) dX11_goesPaid_70 (by decide) rfl (fun h16 => ?_) (fun h16 => ?_)
  · exact rf_lv _ [1, 2, 3] rfl (r_X11_goesPaid_104 C K fu _ _ _)
  · refine rf_iload C (n := 75) (q := 0) dX11_goesPaid_73 rfl rfl ?_
    refine rf_if_eq C (tgt := 115) (n := 78) dX11_goesPaid_75 (by decide) rfl (fun h19 => ?_) (fun h19 => ?_)
    · exact rf_vret C K dX11_goesPaid_115
    · refine rf_iload_n C (n := 79) (q := 2) dX11_goesPaid_78 rfl rfl rfl ?_
      refine rf_aload_n C (n := 80) (q := 1) dX11_goesPaid_79 rfl rfl rfl ?_
      refine rf_getI C (n := 83) fl_RX11_379 ly_96 rfl dX11_goesPaid_80 rfl ?_
      refine rf_icmp_lt C (tgt := 104) (n := 86) dX11_goesPaid_83 (by decide) rfl (fun h20 => ?_) (fun h20 => ?_)
      · exact rf_lv _ [1, 2, 3] rfl (r_X11_goesPaid_104 C K fu _ _ _)
      · refine rf_iload_n C (n := 87) (q := 2) dX11_goesPaid_86 rfl rfl rfl ?_
        refine rf_aload_n C (n := 88) (q := 1) dX11_goesPaid_87 rfl rfl rfl ?_
        refine rf_getI C (n := 91) fl_RX11_379 ly_96 rfl dX11_goesPaid_88 rfl ?_
        refine rf_icmp_ne C (tgt := 115) (n := 94) dX11_goesPaid_91 (by decide) rfl (fun h21 => ?_) (fun h21 => ?_)
        · exact rf_vret C K dX11_goesPaid_115
        · refine rf_lload C (n := 96) (q := 3) dX11_goesPaid_94 rfl rfl ?_
          refine rf_aload_n C (n := 97) (q := 1) dX11_goesPaid_96 rfl rfl rfl ?_
          refine rf_getL C (n := 100) fl_RX11_384 ly_96 rfl dX11_goesPaid_97 rfl ?_
          refine rf_lcmp C (n := 101) dX11_goesPaid_100 rfl ?_
          refine rf_if_ge C (tgt := 115) (n := 104) dX11_goesPaid_101 (by decide) rfl (fun h22 => ?_) (fun h22 => ?_)
          · exact rf_vret C K dX11_goesPaid_115
          · exact rf_lv _ [1, 2, 3] rfl (r_X11_goesPaid_104 C K fu _ _ _)
noncomputable def f_X11_goesPaid_65 (fu : Nat) (x1 : Int32) (x4 : Int64) (x7 : Int32) (m : hM) : Option (Unit × hM) :=
  f_X11_goesPaid_66 fu x1 x4 x7 0 m
set_option maxRecDepth 100000 in
set_option maxHeartbeats 4000000 in
theorem r_X11_goesPaid_65 {G : hG} {X : hX} (C : Cx G X 3 cX11_goesPaid 10 RX11 none) (K : Cr G X) (fu : Nat) (x1 : Int32) (x4 : Int64) (x7 : Int32) (m : hM) : Rf vU G X 65 [(0, hA G 96), (1, .int x1), (4, .long x4), (7, .int x7)] [] m (f_X11_goesPaid_65 fu x1 x4 x7 m) := by
  unfold f_X11_goesPaid_65
  refine rf_iconst C (n := 66) (v := 0) dX11_goesPaid_65 rfl (by decide) ?_
  exact rf_lv _ [0, 1, 2, 3] rfl (r_X11_goesPaid_66 C K fu _ _ _ _ _)
noncomputable def f_X11_goesPaid_34 (fu : Nat) (x1 : Int32) (x4 : Int64) (s0 : Int32) (m : hM) : Option (Unit × hM) :=
  if (gI m 96 46) < 0 then (
f_X11_goesPaid_65 fu x1 x4 s0 m) else (
if ¬ (lg_cmp (x4 / 512) ((gL m 96 45) / 512)) = 0 then (
f_X11_goesPaid_65 fu x1 x4 s0 m) else (
f_X11_goesPaid_66 fu x1 x4 s0 1 m))
set_option maxRecDepth 100000 in
set_option maxHeartbeats 4000000 in
theorem r_X11_goesPaid_34 {G : hG} {X : hX} (C : Cx G X 3 cX11_goesPaid 10 RX11 none) (K : Cr G X) (fu : Nat) (x1 : Int32) (x4 : Int64) (s0 : Int32) (m : hM) : Rf vU G X 34 [(0, hA G 96), (1, .int x1), (4, .long x4)] [.int s0] m (f_X11_goesPaid_34 fu x1 x4 s0 m) := by
  unfold f_X11_goesPaid_34
  refine rf_istore C (n := 36) [(7, .int s0), (0, hA G 96), (1, .int x1), (4, .long x4)] dX11_goesPaid_34 rfl (by decide) rfl ?_
  refine rf_aload_n C (n := 37) (q := 1) dX11_goesPaid_36 rfl rfl rfl ?_
  refine rf_getI C (n := 40) fl_RX11_379 ly_96 rfl dX11_goesPaid_37 rfl ?_
  refine rf_if_lt C (tgt := 65) (n := 43) dX11_goesPaid_40 (by decide) rfl (fun h15 => ?_) (fun h15 => ?_)
  · exact rf_lv _ [1, 2, 3, 0] rfl (r_X11_goesPaid_65 C K fu _ _ _ _)
  · refine rf_lload C (n := 45) (q := 3) dX11_goesPaid_43 rfl rfl ?_
    refine rf_ldc2 C (n := 48) dX11_goesPaid_45 rfl kl_RX11_382 ?_
    refine rf_ldiv C (n := 49) dX11_goesPaid_48 rfl (by decide) ?_
    refine rf_aload_n C (n := 50) (q := 1) dX11_goesPaid_49 rfl rfl rfl ?_
    refine rf_getL C (n := 53) fl_RX11_384 ly_96 rfl dX11_goesPaid_50 rfl ?_
    refine rf_ldc2 C (n := 56) dX11_goesPaid_53 rfl kl_RX11_382 ?_
    refine rf_ldiv C (n := 57) dX11_goesPaid_56 rfl (by decide) ?_
    refine rf_lcmp C (n := 58) dX11_goesPaid_57 rfl ?_
    refine rf_if_ne C (tgt := 65) (n := 61) dX11_goesPaid_58 (by decide) rfl (fun h23 => ?_) (fun h23 => ?_)
    · exact rf_lv _ [1, 2, 3, 0] rfl (r_X11_goesPaid_65 C K fu _ _ _ _)
    · refine rf_iconst C (n := 62) (v := 1) dX11_goesPaid_61 rfl (by decide) ?_
      refine rf_goto C (n := 66) dX11_goesPaid_62 (by decide) ?_
      exact rf_lv _ [1, 2, 3, 0] rfl (r_X11_goesPaid_66 C K fu _ _ _ _ _)
noncomputable def f_X11_goesPaid_29 (fu : Nat) (x1 : Int32) (x4 : Int64) (m : hM) : Option (Unit × hM) :=
  f_X11_goesPaid_34 fu x1 x4 1 m
set_option maxRecDepth 100000 in
set_option maxHeartbeats 4000000 in
theorem r_X11_goesPaid_29 {G : hG} {X : hX} (C : Cx G X 3 cX11_goesPaid 10 RX11 none) (K : Cr G X) (fu : Nat) (x1 : Int32) (x4 : Int64) (m : hM) : Rf vU G X 29 [(0, hA G 96), (1, .int x1), (4, .long x4)] [] m (f_X11_goesPaid_29 fu x1 x4 m) := by
  unfold f_X11_goesPaid_29
  refine rf_iconst C (n := 30) (v := 1) dX11_goesPaid_29 rfl (by decide) ?_
  refine rf_goto C (n := 34) dX11_goesPaid_30 (by decide) ?_
  exact rf_lv _ [0, 1, 2] rfl (r_X11_goesPaid_34 C K fu _ _ _ _)
noncomputable def f_X11_goesPaid (fu : Nat) (x1 : Int32) (x2 : Int32) (x3 : Int32) (x4 : Int64) (x6 : Int32) (m : hM) : Option (Unit × hM) :=
  if ¬ x3 = 0 then (
hBd (f_X11_placeAt fu x1 x2 x3 m) fun y2 m3 =>
hBd (f_X11_cheaper fu y2 x4 m3) fun _ m4 =>
f_X11_goesPaid_131 fu fu x1 x2 x3 x4 x6 0 m4) else (
if (gI m 96 46) < 0 then (
f_X11_goesPaid_29 fu x1 x4 m) else (
if 0 ≤ (lg_cmp (x4 / 512) ((gL m 96 45) / 512)) then (
f_X11_goesPaid_34 fu x1 x4 0 m) else (
f_X11_goesPaid_29 fu x1 x4 m)))
set_option maxRecDepth 100000 in
set_option maxHeartbeats 4000000 in
theorem c_X11_goesPaid (G : hG) (fu : Nat) (x1 : Int32) (x2 : Int32) (x3 : Int32) (x4 : Int64) (x6 : Int32) (m : hM) : Mt vU G 3 yX11_goesPaid cX11_goesPaid 10 none [hA G 96, .int x1, .int x2, .int x3, .long x4, .int x6] m (f_X11_goesPaid fu x1 x2 x3 x4 x6 m) := by
  refine mt_of (by decide +kernel) (Nat.le_of_ble_eq_true rfl) (fun X C K => ?_)
  have C : Cx G X 3 cX11_goesPaid 10 RX11 none := C
  show Rf vU G X 0 [(0, hA G 96), (1, .int x1), (2, .int x2), (3, .int x3), (4, .long x4), (6, .int x6)] [] m _
  unfold f_X11_goesPaid
  refine rf_iload_n C (n := 1) (q := 3) dX11_goesPaid_0 rfl rfl rfl ?_
  refine rf_if_ne C (tgt := 116) (n := 4) dX11_goesPaid_1 (by decide) rfl (fun h1 => ?_) (fun h1 => ?_)
  · refine rf_aload_n C (n := 117) (q := 0) dX11_goesPaid_116 rfl rfl rfl ?_
    refine rf_iload_n C (n := 118) (q := 1) dX11_goesPaid_117 rfl rfl rfl ?_
    refine rf_iload_n C (n := 119) (q := 2) dX11_goesPaid_118 rfl rfl rfl ?_
    refine rf_iload_n C (n := 120) (q := 3) dX11_goesPaid_119 rfl rfl rfl ?_
    refine rf_callSi C (n := 123) (c_X11_placeAt G fu _ _ _ _) sw_RX11_344 ⟨by decide, by decide⟩ rfl (Nat.le_of_ble_eq_true rfl) rfl dX11_goesPaid_120 rfl (fun y2 m3 => ?_)
    refine rf_lload C (n := 125) (q := 4) dX11_goesPaid_123 rfl rfl ?_
    refine rf_callVv C (n := 128) (c_X11_cheaper G fu _ _ _) mw_RX11_388 ly_96 rfl ⟨by decide, by decide⟩ rfl (Nat.le_of_ble_eq_true rfl) rfl dX11_goesPaid_125 rfl (fun _ m4 => ?_)
    refine rf_iconst C (n := 129) (v := 0) dX11_goesPaid_128 rfl (by decide) ?_
    refine rf_istore C (n := 131) [(7, .int 0), (0, hA G 96), (1, .int x1), (2, .int x2), (3, .int x3), (4, .long x4), (6, .int x6)] dX11_goesPaid_129 rfl (by decide) rfl ?_
    exact rf_lv _ [1, 2, 3, 4, 5, 6, 0] rfl (r_X11_goesPaid_131 C K fu fu _ _ _ _ _ _ _)
  · refine rf_aload_n C (n := 5) (q := 0) dX11_goesPaid_4 rfl rfl rfl ?_
    refine rf_getI C (n := 8) fl_RX11_379 ly_96 rfl dX11_goesPaid_5 rfl ?_
    refine rf_if_lt C (tgt := 29) (n := 11) dX11_goesPaid_8 (by decide) rfl (fun h14 => ?_) (fun h14 => ?_)
    · exact rf_lv _ [0, 1, 4] rfl (r_X11_goesPaid_29 C K fu _ _ _)
    · refine rf_lload C (n := 13) (q := 4) dX11_goesPaid_11 rfl rfl ?_
      refine rf_ldc2 C (n := 16) dX11_goesPaid_13 rfl kl_RX11_382 ?_
      refine rf_ldiv C (n := 17) dX11_goesPaid_16 rfl (by decide) ?_
      refine rf_aload_n C (n := 18) (q := 0) dX11_goesPaid_17 rfl rfl rfl ?_
      refine rf_getL C (n := 21) fl_RX11_384 ly_96 rfl dX11_goesPaid_18 rfl ?_
      refine rf_ldc2 C (n := 24) dX11_goesPaid_21 rfl kl_RX11_382 ?_
      refine rf_ldiv C (n := 25) dX11_goesPaid_24 rfl (by decide) ?_
      refine rf_lcmp C (n := 26) dX11_goesPaid_25 rfl ?_
      refine rf_if_ge C (tgt := 33) (n := 29) dX11_goesPaid_26 (by decide) rfl (fun h24 => ?_) (fun h24 => ?_)
      · refine rf_iconst C (n := 34) (v := 0) dX11_goesPaid_33 rfl (by decide) ?_
        exact rf_lv _ [0, 1, 4] rfl (r_X11_goesPaid_34 C K fu _ _ _ _)
      · exact rf_lv _ [0, 1, 4] rfl (r_X11_goesPaid_29 C K fu _ _ _)
noncomputable def f_X11_cheap_303 (fu : Nat) (m : hM) : Option (Int32 × hM) :=
  if 0 ≤ (gI m 96 46) then (
hLet (sI m 96 1 0) fun m28 =>
hBd (f_X11_enters fu (Int32.toInt64 (gI m28 96 46)) m28) fun _ m29 =>
hBd (f_X11_entersRoute fu (gI m29 96 46) (Int64.toInt32 ((gL m29 96 45) - (gL m29 96 45) / 512 * 512)) m29) fun _ m30 =>
some (Int64.toInt32 ((gL m30 96 45) / 512), m30)) else (
some ((-2), m))
set_option maxRecDepth 100000 in
set_option maxHeartbeats 4000000 in
theorem r_X11_cheap_303 {G : hG} {X : hX} (C : Cx G X 7 cX11_cheap 12 RX11 (some .int)) (K : Cr G X) (fu : Nat) (m : hM) : Rf vI G X 303 [(0, hA G 96)] [] m (f_X11_cheap_303 fu m) := by
  unfold f_X11_cheap_303
  refine rf_aload_n C (n := 304) (q := 0) dX11_cheap_303 rfl rfl rfl ?_
  refine rf_getI C (n := 307) fl_RX11_379 ly_96 rfl dX11_cheap_304 rfl ?_
  refine rf_if_ge C (tgt := 313) (n := 310) dX11_cheap_307 (by decide) rfl (fun h27 => ?_) (fun h27 => ?_)
  · refine rf_aload_n C (n := 314) (q := 0) dX11_cheap_313 rfl rfl rfl ?_
    refine rf_iconst C (n := 315) (v := 0) dX11_cheap_314 rfl (by decide) ?_
    refine rf_putI C (n := 318) pl_RX11_11 ly_96 rfl ⟨rfl, rfl⟩ dX11_cheap_315 rfl ?_
    refine rf_letM (fun m28 => ?_)
    refine rf_aload_n C (n := 319) (q := 0) dX11_cheap_318 rfl rfl rfl ?_
    refine rf_aload_n C (n := 320) (q := 0) dX11_cheap_319 rfl rfl rfl ?_
    refine rf_getI C (n := 323) fl_RX11_379 ly_96 rfl dX11_cheap_320 rfl ?_
    refine rf_i2l C (n := 324) dX11_cheap_323 rfl ?_
    refine rf_callVv C (n := 327) (c_X11_enters G fu _ _) mw_RX11_18 ly_96 rfl ⟨by decide, by decide⟩ rfl (Nat.le_of_ble_eq_true rfl) rfl dX11_cheap_324 rfl (fun _ m29 => ?_)
    refine rf_aload_n C (n := 328) (q := 0) dX11_cheap_327 rfl rfl rfl ?_
    refine rf_aload_n C (n := 329) (q := 0) dX11_cheap_328 rfl rfl rfl ?_
    refine rf_getI C (n := 332) fl_RX11_379 ly_96 rfl dX11_cheap_329 rfl ?_
    refine rf_aload_n C (n := 333) (q := 0) dX11_cheap_332 rfl rfl rfl ?_
    refine rf_getL C (n := 336) fl_RX11_384 ly_96 rfl dX11_cheap_333 rfl ?_
    refine rf_ldc2 C (n := 339) dX11_cheap_336 rfl kl_RX11_382 ?_
    refine rf_lrem C (n := 340) dX11_cheap_339 rfl (by decide) ?_
    refine rf_l2i C (n := 341) dX11_cheap_340 rfl ?_
    refine rf_callVv C (n := 344) (c_X11_entersRoute G fu _ _ _) mw_RX11_370 ly_96 rfl ⟨by decide, by decide⟩ rfl (Nat.le_of_ble_eq_true rfl) rfl dX11_cheap_341 rfl (fun _ m30 => ?_)
    refine rf_aload_n C (n := 345) (q := 0) dX11_cheap_344 rfl rfl rfl ?_
    refine rf_getL C (n := 348) fl_RX11_384 ly_96 rfl dX11_cheap_345 rfl ?_
    refine rf_ldc2 C (n := 351) dX11_cheap_348 rfl kl_RX11_382 ?_
    refine rf_ldiv C (n := 352) dX11_cheap_351 rfl (by decide) ?_
    refine rf_l2i C (n := 353) dX11_cheap_352 rfl ?_
    exact rf_iret C K dX11_cheap_353
  · refine rf_bipush C (n := 312) (v := (-2)) dX11_cheap_310 rfl (by decide) ?_
    exact rf_iret C K dX11_cheap_312
noncomputable def f_X11_cheap_277 (fu : Nat) (k95 : Int32 → Int32 → Int32 → Int32 → hM → Option (Int32 × hM)) (x1 : Int32) (x3 : Int32) (x4 : Int32) (x5 : Int32) (m : hM) : Option (Int32 × hM) :=
  if hAr LY[gR m 96 43]? 3 3072 = true then (
if hAr LY[gR m 96 44]? 3 3072 = true then (
hLet (sR m 96 43 (gR m 96 44)) fun m37 =>
hLet (sR m37 96 44 (gR m 96 43)) fun m38 =>
hLet (x5 + 1) fun y39 =>
k95 x1 x3 x4 y39 m38) else none) else none
set_option maxRecDepth 100000 in
set_option maxHeartbeats 4000000 in
theorem r_X11_cheap_277 {G : hG} {X : hX} (C : Cx G X 7 cX11_cheap 12 RX11 (some .int)) (K : Cr G X) (fu : Nat) (k95 : Int32 → Int32 → Int32 → Int32 → hM → Option (Int32 × hM)) (hk95 : ∀ (x1 : Int32) (x3 : Int32) (x4 : Int32) (x5 : Int32) (m : hM), Rf vI G X 95 [(0, hA G 96), (1, .int x1), (3, .int x3), (4, .int x4), (5, .int x5)] [] m (k95 x1 x3 x4 x5 m)) (x1 : Int32) (x3 : Int32) (x4 : Int32) (x5 : Int32) (m : hM) : Rf vI G X 277 [(0, hA G 96), (1, .int x1), (3, .int x3), (4, .int x4), (5, .int x5)] [] m (f_X11_cheap_277 fu k95 x1 x3 x4 x5 m) := by
  unfold f_X11_cheap_277
  refine rf_aload_n C (n := 278) (q := 0) dX11_cheap_277 rfl rfl rfl ?_
  refine rf_guard (fun h35 => ?_)
  replace h35 := hAr_l h35
  refine rf_getR C (n := 281) fl_RX11_394 ly_96 rfl dX11_cheap_278 rfl ?_
  refine rf_astore C (n := 283) [(6, hA G (gR m 96 43)), (0, hA G 96), (1, .int x1), (3, .int x3), (4, .int x4), (5, .int x5)] dX11_cheap_281 rfl (by decide) rfl ?_
  refine rf_aload_n C (n := 284) (q := 1) dX11_cheap_283 rfl rfl rfl ?_
  refine rf_aload_n C (n := 285) (q := 1) dX11_cheap_284 rfl rfl rfl ?_
  refine rf_guard (fun h36 => ?_)
  replace h36 := hAr_l h36
  refine rf_getR C (n := 288) fl_RX11_374 ly_96 rfl dX11_cheap_285 rfl ?_
  refine rf_putR C (n := 291) pl_RX11_394 ly_96 rfl ⟨rfl, rfl⟩ dX11_cheap_288 rfl ?_
  refine rf_letM (fun m37 => ?_)
  refine rf_aload_n C (n := 292) (q := 1) dX11_cheap_291 rfl rfl rfl ?_
  refine rf_aload C (n := 294) (q := 0) dX11_cheap_292 rfl rfl ?_
  refine rf_putR C (n := 297) pl_RX11_374 ly_96 rfl ⟨rfl, rfl⟩ dX11_cheap_294 rfl ?_
  refine rf_letM (fun m38 => ?_)
  refine rf_iinc2 C (n := 300) (q := 5) (fun y39 => [(5, .int y39), (6, hA G (gR m 96 43)), (0, hA G 96), (1, .int x1), (3, .int x3), (4, .int x4)]) dX11_cheap_297 rfl rfl (by decide) (by decide) (fun _ => rfl) (fun y39 => ?_)
  refine rf_goto C (n := 95) dX11_cheap_300 (by decide) ?_
  exact rf_lv _ [2, 3, 4, 5, 0] rfl (hk95 _ _ _ _ _)
noncomputable def f_X11_cheap_271 (fu : Nat) (k95 : Int32 → Int32 → Int32 → Int32 → hM → Option (Int32 × hM)) (k121 : Int32 → Int32 → Int32 → Int32 → Int32 → hM → Option (Int32 × hM)) (x1 : Int32) (x3 : Int32) (x4 : Int32) (x5 : Int32) (x6 : Int32) (m : hM) : Option (Int32 × hM) :=
  hLet (x6 + 1) fun y41 =>
k121 x1 x3 x4 x5 y41 m
set_option maxRecDepth 100000 in
set_option maxHeartbeats 4000000 in
theorem r_X11_cheap_271 {G : hG} {X : hX} (C : Cx G X 7 cX11_cheap 12 RX11 (some .int)) (K : Cr G X) (fu : Nat) (k95 : Int32 → Int32 → Int32 → Int32 → hM → Option (Int32 × hM)) (hk95 : ∀ (x1 : Int32) (x3 : Int32) (x4 : Int32) (x5 : Int32) (m : hM), Rf vI G X 95 [(0, hA G 96), (1, .int x1), (3, .int x3), (4, .int x4), (5, .int x5)] [] m (k95 x1 x3 x4 x5 m)) (k121 : Int32 → Int32 → Int32 → Int32 → Int32 → hM → Option (Int32 × hM)) (hk121 : ∀ (x1 : Int32) (x3 : Int32) (x4 : Int32) (x5 : Int32) (x6 : Int32) (m : hM), Rf vI G X 121 [(0, hA G 96), (1, .int x1), (3, .int x3), (4, .int x4), (5, .int x5), (6, .int x6)] [] m (k121 x1 x3 x4 x5 x6 m)) (x1 : Int32) (x3 : Int32) (x4 : Int32) (x5 : Int32) (x6 : Int32) (m : hM) : Rf vI G X 271 [(0, hA G 96), (1, .int x1), (3, .int x3), (4, .int x4), (5, .int x5), (6, .int x6)] [] m (f_X11_cheap_271 fu k95 k121 x1 x3 x4 x5 x6 m) := by
  unfold f_X11_cheap_271
  refine rf_iinc2 C (n := 274) (q := 5) (fun y41 => [(6, .int y41), (0, hA G 96), (1, .int x1), (3, .int x3), (4, .int x4), (5, .int x5)]) dX11_cheap_271 rfl rfl (by decide) (by decide) (fun _ => rfl) (fun y41 => ?_)
  refine rf_goto C (n := 121) dX11_cheap_274 (by decide) ?_
  exact rf_lv _ [1, 2, 3, 4, 5, 0] rfl (hk121 _ _ _ _ _ _)
noncomputable def f_X11_cheap_265 (fu : Nat) (k95 : Int32 → Int32 → Int32 → Int32 → hM → Option (Int32 × hM)) (k121 : Int32 → Int32 → Int32 → Int32 → Int32 → hM → Option (Int32 × hM)) (k130 : Int32 → Int32 → Int32 → Int32 → Int32 → Int32 → hM → Option (Int32 × hM)) (x1 : Int32) (x3 : Int32) (x4 : Int32) (x5 : Int32) (x6 : Int32) (x7 : Int32) (m : hM) : Option (Int32 × hM) :=
  hLet (x7 + 1) fun y46 =>
k130 x1 x3 x4 x5 x6 y46 m
set_option maxRecDepth 100000 in
set_option maxHeartbeats 4000000 in
theorem r_X11_cheap_265 {G : hG} {X : hX} (C : Cx G X 7 cX11_cheap 12 RX11 (some .int)) (K : Cr G X) (fu : Nat) (k95 : Int32 → Int32 → Int32 → Int32 → hM → Option (Int32 × hM)) (hk95 : ∀ (x1 : Int32) (x3 : Int32) (x4 : Int32) (x5 : Int32) (m : hM), Rf vI G X 95 [(0, hA G 96), (1, .int x1), (3, .int x3), (4, .int x4), (5, .int x5)] [] m (k95 x1 x3 x4 x5 m)) (k121 : Int32 → Int32 → Int32 → Int32 → Int32 → hM → Option (Int32 × hM)) (hk121 : ∀ (x1 : Int32) (x3 : Int32) (x4 : Int32) (x5 : Int32) (x6 : Int32) (m : hM), Rf vI G X 121 [(0, hA G 96), (1, .int x1), (3, .int x3), (4, .int x4), (5, .int x5), (6, .int x6)] [] m (k121 x1 x3 x4 x5 x6 m)) (k130 : Int32 → Int32 → Int32 → Int32 → Int32 → Int32 → hM → Option (Int32 × hM)) (hk130 : ∀ (x1 : Int32) (x3 : Int32) (x4 : Int32) (x5 : Int32) (x6 : Int32) (x7 : Int32) (m : hM), Rf vI G X 130 [(0, hA G 96), (1, .int x1), (3, .int x3), (4, .int x4), (5, .int x5), (6, .int x6), (7, .int x7)] [] m (k130 x1 x3 x4 x5 x6 x7 m)) (x1 : Int32) (x3 : Int32) (x4 : Int32) (x5 : Int32) (x6 : Int32) (x7 : Int32) (m : hM) : Rf vI G X 265 [(0, hA G 96), (1, .int x1), (3, .int x3), (4, .int x4), (5, .int x5), (6, .int x6), (7, .int x7)] [] m (f_X11_cheap_265 fu k95 k121 k130 x1 x3 x4 x5 x6 x7 m) := by
  unfold f_X11_cheap_265
  refine rf_iinc2 C (n := 268) (q := 6) (fun y46 => [(7, .int y46), (0, hA G 96), (1, .int x1), (3, .int x3), (4, .int x4), (5, .int x5), (6, .int x6)]) dX11_cheap_265 rfl rfl (by decide) (by decide) (fun _ => rfl) (fun y46 => ?_)
  refine rf_goto C (n := 130) dX11_cheap_268 (by decide) ?_
  exact rf_lv _ [1, 2, 3, 4, 5, 6, 0] rfl (hk130 _ _ _ _ _ _ _)
noncomputable def f_X11_cheap_259 (fu : Nat) (k95 : Int32 → Int32 → Int32 → Int32 → hM → Option (Int32 × hM)) (k121 : Int32 → Int32 → Int32 → Int32 → Int32 → hM → Option (Int32 × hM)) (k130 : Int32 → Int32 → Int32 → Int32 → Int32 → Int32 → hM → Option (Int32 × hM)) (k179 : Int32 → Int32 → Int32 → Int32 → Int32 → Int32 → Int32 → Int32 → hM → Option (Int32 × hM)) (x1 : Int32) (x3 : Int32) (x4 : Int32) (x5 : Int32) (x6 : Int32) (x7 : Int32) (x8 : Int32) (x9 : Int32) (m : hM) : Option (Int32 × hM) :=
  hLet (x9 + 1) fun y55 =>
k179 x1 x3 x4 x5 x6 x7 x8 y55 m
set_option maxRecDepth 100000 in
set_option maxHeartbeats 4000000 in
theorem r_X11_cheap_259 {G : hG} {X : hX} (C : Cx G X 7 cX11_cheap 12 RX11 (some .int)) (K : Cr G X) (fu : Nat) (k95 : Int32 → Int32 → Int32 → Int32 → hM → Option (Int32 × hM)) (hk95 : ∀ (x1 : Int32) (x3 : Int32) (x4 : Int32) (x5 : Int32) (m : hM), Rf vI G X 95 [(0, hA G 96), (1, .int x1), (3, .int x3), (4, .int x4), (5, .int x5)] [] m (k95 x1 x3 x4 x5 m)) (k121 : Int32 → Int32 → Int32 → Int32 → Int32 → hM → Option (Int32 × hM)) (hk121 : ∀ (x1 : Int32) (x3 : Int32) (x4 : Int32) (x5 : Int32) (x6 : Int32) (m : hM), Rf vI G X 121 [(0, hA G 96), (1, .int x1), (3, .int x3), (4, .int x4), (5, .int x5), (6, .int x6)] [] m (k121 x1 x3 x4 x5 x6 m)) (k130 : Int32 → Int32 → Int32 → Int32 → Int32 → Int32 → hM → Option (Int32 × hM)) (hk130 : ∀ (x1 : Int32) (x3 : Int32) (x4 : Int32) (x5 : Int32) (x6 : Int32) (x7 : Int32) (m : hM), Rf vI G X 130 [(0, hA G 96), (1, .int x1), (3, .int x3), (4, .int x4), (5, .int x5), (6, .int x6), (7, .int x7)] [] m (k130 x1 x3 x4 x5 x6 x7 m)) (k179 : Int32 → Int32 → Int32 → Int32 → Int32 → Int32 → Int32 → Int32 → hM → Option (Int32 × hM)) (hk179 : ∀ (x1 : Int32) (x3 : Int32) (x4 : Int32) (x5 : Int32) (x6 : Int32) (x7 : Int32) (x8 : Int32) (x9 : Int32) (m : hM), Rf vI G X 179 [(0, hA G 96), (1, .int x1), (3, .int x3), (4, .int x4), (5, .int x5), (6, .int x6), (7, .int x7), (8, .int x8), (9, .int x9)] [] m (k179 x1 x3 x4 x5 x6 x7 x8 x9 m)) (x1 : Int32) (x3 : Int32) (x4 : Int32) (x5 : Int32) (x6 : Int32) (x7 : Int32) (x8 : Int32) (x9 : Int32) (m : hM) : Rf vI G X 259 [(0, hA G 96), (1, .int x1), (3, .int x3), (4, .int x4), (5, .int x5), (6, .int x6), (7, .int x7), (8, .int x8), (9, .int x9)] [] m (f_X11_cheap_259 fu k95 k121 k130 k179 x1 x3 x4 x5 x6 x7 x8 x9 m) := by
  unfold f_X11_cheap_259
  refine rf_iinc2 C (n := 262) (q := 8) (fun y55 => [(9, .int y55), (0, hA G 96), (1, .int x1), (3, .int x3), (4, .int x4), (5, .int x5), (6, .int x6), (7, .int x7), (8, .int x8)]) dX11_cheap_259 rfl rfl (by decide) (by decide) (fun _ => rfl) (fun y55 => ?_)
  refine rf_goto C (n := 179) dX11_cheap_262 (by decide) ?_
  exact rf_lv _ [1, 2, 3, 4, 5, 6, 7, 8, 0] rfl (hk179 _ _ _ _ _ _ _ _ _)
noncomputable def s_X11_cheap_179 (fu : Nat) (k95 : Int32 → Int32 → Int32 → Int32 → hM → Option (Int32 × hM)) (k121 : Int32 → Int32 → Int32 → Int32 → Int32 → hM → Option (Int32 × hM)) (k130 : Int32 → Int32 → Int32 → Int32 → Int32 → Int32 → hM → Option (Int32 × hM)) (ih : Int32 → Int32 → Int32 → Int32 → Int32 → Int32 → Int32 → Int32 → hM → Option (Int32 × hM)) (x1 : Int32) (x3 : Int32) (x4 : Int32) (x5 : Int32) (x6 : Int32) (x7 : Int32) (x8 : Int32) (x9 : Int32) (m : hM) : Option (Int32 × hM) :=
  if 128 ≤ x9 then (
f_X11_cheap_265 fu k95 k121 k130 x1 x3 x4 x5 x6 x7 m) else (
if hAr LY[gR m 96 43]? 3 3072 = true then (
hBd (f_X11_placeAt fu x6 x7 x9 m) fun y48 m49 =>
if hIn y48 3072 then (
hLet (gL m49 (gR m 96 43) (Int32.toNatClampNeg y48)) fun y51 =>
if 0 ≤ (lg_cmp y51 0) then (
hBd (f_X11_goesPaid fu x6 x7 x9 y51 x3 m49) fun _ m53 =>
if x8 = 0 then (
f_X11_cheap_259 fu k95 k121 k130 ih x1 x3 x4 x5 x6 x7 x8 x9 m53) else (
if hIn x7 6 then (
hBd (f_X11_goesPaid fu x6 x7 (x9 - 1) (y51 + ((Int32.toInt64 (gI m53 101 (Int32.toNatClampNeg x7))) * 512)) x3 m53) fun _ m57 =>
f_X11_cheap_259 fu k95 k121 k130 ih x1 x3 x4 x5 x6 x7 x8 x9 m57) else none)) else (
f_X11_cheap_259 fu k95 k121 k130 ih x1 x3 x4 x5 x6 x7 x8 x9 m49)) else none) else none)
noncomputable def f_X11_cheap_179 (fu : Nat) (k95 : Int32 → Int32 → Int32 → Int32 → hM → Option (Int32 × hM)) (k121 : Int32 → Int32 → Int32 → Int32 → Int32 → hM → Option (Int32 × hM)) (k130 : Int32 → Int32 → Int32 → Int32 → Int32 → Int32 → hM → Option (Int32 × hM)) (n : Nat) : Int32 → Int32 → Int32 → Int32 → Int32 → Int32 → Int32 → Int32 → hM → Option (Int32 × hM) :=
  Nat.rec (motive := fun _ => Int32 → Int32 → Int32 → Int32 → Int32 → Int32 → Int32 → Int32 → hM → Option (Int32 × hM)) (fun _ _ _ _ _ _ _ _ _ => none) (fun _ ih => s_X11_cheap_179 fu k95 k121 k130 ih) n
theorem f_X11_cheap_179_s (fu : Nat) (k95 : Int32 → Int32 → Int32 → Int32 → hM → Option (Int32 × hM)) (k121 : Int32 → Int32 → Int32 → Int32 → Int32 → hM → Option (Int32 × hM)) (k130 : Int32 → Int32 → Int32 → Int32 → Int32 → Int32 → hM → Option (Int32 × hM)) (n : Nat) (x1 : Int32) (x3 : Int32) (x4 : Int32) (x5 : Int32) (x6 : Int32) (x7 : Int32) (x8 : Int32) (x9 : Int32) (m : hM) : f_X11_cheap_179 fu k95 k121 k130 (n + 1) x1 x3 x4 x5 x6 x7 x8 x9 m = s_X11_cheap_179 fu k95 k121 k130 (f_X11_cheap_179 fu k95 k121 k130 n) x1 x3 x4 x5 x6 x7 x8 x9 m := rfl
set_option maxRecDepth 100000 in
set_option maxHeartbeats 4000000 in
theorem r_X11_cheap_179 {G : hG} {X : hX} (C : Cx G X 7 cX11_cheap 12 RX11 (some .int)) (K : Cr G X) (fu : Nat) (k95 : Int32 → Int32 → Int32 → Int32 → hM → Option (Int32 × hM)) (hk95 : ∀ (x1 : Int32) (x3 : Int32) (x4 : Int32) (x5 : Int32) (m : hM), Rf vI G X 95 [(0, hA G 96), (1, .int x1), (3, .int x3), (4, .int x4), (5, .int x5)] [] m (k95 x1 x3 x4 x5 m)) (k121 : Int32 → Int32 → Int32 → Int32 → Int32 → hM → Option (Int32 × hM)) (hk121 : ∀ (x1 : Int32) (x3 : Int32) (x4 : Int32) (x5 : Int32) (x6 : Int32) (m : hM), Rf vI G X 121 [(0, hA G 96), (1, .int x1), (3, .int x3), (4, .int x4), (5, .int x5), (6, .int x6)] [] m (k121 x1 x3 x4 x5 x6 m)) (k130 : Int32 → Int32 → Int32 → Int32 → Int32 → Int32 → hM → Option (Int32 × hM)) (hk130 : ∀ (x1 : Int32) (x3 : Int32) (x4 : Int32) (x5 : Int32) (x6 : Int32) (x7 : Int32) (m : hM), Rf vI G X 130 [(0, hA G 96), (1, .int x1), (3, .int x3), (4, .int x4), (5, .int x5), (6, .int x6), (7, .int x7)] [] m (k130 x1 x3 x4 x5 x6 x7 m)) (n : Nat) : ∀ (x1 : Int32) (x3 : Int32) (x4 : Int32) (x5 : Int32) (x6 : Int32) (x7 : Int32) (x8 : Int32) (x9 : Int32) (m : hM), Rf vI G X 179 [(0, hA G 96), (1, .int x1), (3, .int x3), (4, .int x4), (5, .int x5), (6, .int x6), (7, .int x7), (8, .int x8), (9, .int x9)] [] m (f_X11_cheap_179 fu k95 k121 k130 n x1 x3 x4 x5 x6 x7 x8 x9 m) := by
  induction n with
  | zero => intros; exact rf_none
  | succ n ih =>
    intro x1 x3 x4 x5 x6 x7 x8 x9 m
    show Rf vI G X 179 [(0, hA G 96), (1, .int x1), (3, .int x3), (4, .int x4), (5, .int x5), (6, .int x6), (7, .int x7), (8, .int x8), (9, .int x9)] [] m (s_X11_cheap_179 fu k95 k121 k130 (f_X11_cheap_179 fu k95 k121 k130 n) x1 x3 x4 x5 x6 x7 x8 x9 m)
    unfold s_X11_cheap_179
    refine rf_iload C (n := 181) (q := 8) dX11_cheap_179 rfl rfl ?_
    refine rf_sipush C (n := 184) (v := 128) dX11_cheap_181 rfl (by decide) ?_
    refine rf_icmp_ge C (tgt := 265) (n := 187) dX11_cheap_184 (by decide) rfl (fun h45 => ?_) (fun h45 => ?_)
    · exact rf_lv _ [0, 1, 2, 3, 4, 5, 6] rfl (r_X11_cheap_265 C K fu _ hk95 _ hk121 _ hk130 _ _ _ _ _ _ _)
    · refine rf_aload_n C (n := 188) (q := 0) dX11_cheap_187 rfl rfl rfl ?_
      refine rf_guard (fun h47 => ?_)
      replace h47 := hAr_l h47
      refine rf_getR C (n := 191) fl_RX11_394 ly_96 rfl dX11_cheap_188 rfl ?_
      refine rf_iload C (n := 193) (q := 5) dX11_cheap_191 rfl rfl ?_
      refine rf_iload C (n := 195) (q := 6) dX11_cheap_193 rfl rfl ?_
      refine rf_iload C (n := 197) (q := 8) dX11_cheap_195 rfl rfl ?_
      refine rf_callSi C (n := 200) (c_X11_placeAt G fu _ _ _ _) sw_RX11_344 ⟨by decide, by decide⟩ rfl (Nat.le_of_ble_eq_true rfl) rfl dX11_cheap_197 rfl (fun y48 m49 => ?_)
      refine rf_guard (fun h50 => ?_)
      refine rf_lald C (n := 201) h47 h50 rfl dX11_cheap_200 rfl ?_
      refine rf_letL (fun y51 => ?_)
      refine rf_lstore C (n := 203) [(10, .long y51), (0, hA G 96), (1, .int x1), (3, .int x3), (4, .int x4), (5, .int x5), (6, .int x6), (7, .int x7), (8, .int x8), (9, .int x9)] dX11_cheap_201 rfl (by decide) rfl ?_
      refine rf_lload C (n := 205) (q := 0) dX11_cheap_203 rfl rfl ?_
      refine rf_lconst C (n := 206) (v := 0) dX11_cheap_205 rfl (by decide) ?_
      refine rf_lcmp C (n := 207) dX11_cheap_206 rfl ?_
      refine rf_if_ge C (tgt := 213) (n := 210) dX11_cheap_207 (by decide) rfl (fun h52 => ?_) (fun h52 => ?_)
      · refine rf_aload_n C (n := 214) (q := 1) dX11_cheap_213 rfl rfl rfl ?_
        refine rf_iload C (n := 216) (q := 6) dX11_cheap_214 rfl rfl ?_
        refine rf_iload C (n := 218) (q := 7) dX11_cheap_216 rfl rfl ?_
        refine rf_iload C (n := 220) (q := 9) dX11_cheap_218 rfl rfl ?_
        refine rf_lload C (n := 222) (q := 0) dX11_cheap_220 rfl rfl ?_
        refine rf_iload_n C (n := 223) (q := 3) dX11_cheap_222 rfl rfl rfl ?_
        refine rf_callVv C (n := 226) (c_X11_goesPaid G fu _ _ _ _ _ _) mw_RX11_401 ly_96 rfl ⟨by decide, by decide⟩ rfl (Nat.le_of_ble_eq_true rfl) rfl dX11_cheap_223 rfl (fun _ m53 => ?_)
        refine rf_iload C (n := 228) (q := 8) dX11_cheap_226 rfl rfl ?_
        refine rf_if_eq C (tgt := 259) (n := 231) dX11_cheap_228 (by decide) rfl (fun h54 => ?_) (fun h54 => ?_)
        · exact rf_lv _ [1, 2, 3, 4, 5, 6, 7, 8, 9] rfl (r_X11_cheap_259 C K fu _ hk95 _ hk121 _ hk130 _ ih _ _ _ _ _ _ _ _ _)
        · refine rf_aload_n C (n := 232) (q := 1) dX11_cheap_231 rfl rfl rfl ?_
          refine rf_iload C (n := 234) (q := 6) dX11_cheap_232 rfl rfl ?_
          refine rf_iload C (n := 236) (q := 7) dX11_cheap_234 rfl rfl ?_
          refine rf_iload C (n := 238) (q := 9) dX11_cheap_236 rfl rfl ?_
          refine rf_iconst C (n := 239) (v := 1) dX11_cheap_238 rfl (by decide) ?_
          refine rf_isub C (n := 240) dX11_cheap_239 rfl ?_
          refine rf_lload C (n := 242) (q := 0) dX11_cheap_240 rfl rfl ?_
          refine rf_aload_n C (n := 243) (q := 1) dX11_cheap_242 rfl rfl rfl ?_
          refine rf_getS C (n := 246) fl_RX11_41 ly_96 rfl dX11_cheap_243 rfl ?_
          refine rf_iload C (n := 248) (q := 7) dX11_cheap_246 rfl rfl ?_
          refine rf_guard (fun h56 => ?_)
          refine rf_iald C (n := 249) ly_101 h56 rfl dX11_cheap_248 rfl ?_
          refine rf_i2l C (n := 250) dX11_cheap_249 rfl ?_
          refine rf_ldc2 C (n := 253) dX11_cheap_250 rfl kl_RX11_382 ?_
          refine rf_lmul C (n := 254) dX11_cheap_253 rfl ?_
          refine rf_ladd C (n := 255) dX11_cheap_254 rfl ?_
          refine rf_iload_n C (n := 256) (q := 3) dX11_cheap_255 rfl rfl rfl ?_
          refine rf_callVv C (n := 259) (c_X11_goesPaid G fu _ _ _ _ _ _) mw_RX11_401 ly_96 rfl ⟨by decide, by decide⟩ rfl (Nat.le_of_ble_eq_true rfl) rfl dX11_cheap_256 rfl (fun _ m57 => ?_)
          exact rf_lv _ [1, 2, 3, 4, 5, 6, 7, 8, 9] rfl (r_X11_cheap_259 C K fu _ hk95 _ hk121 _ hk130 _ ih _ _ _ _ _ _ _ _ _)
      · refine rf_goto C (n := 259) dX11_cheap_210 (by decide) ?_
        exact rf_lv _ [1, 2, 3, 4, 5, 6, 7, 8, 9] rfl (r_X11_cheap_259 C K fu _ hk95 _ hk121 _ hk130 _ ih _ _ _ _ _ _ _ _ _)
noncomputable def f_X11_cheap_174 (fu : Nat) (k95 : Int32 → Int32 → Int32 → Int32 → hM → Option (Int32 × hM)) (k121 : Int32 → Int32 → Int32 → Int32 → Int32 → hM → Option (Int32 × hM)) (k130 : Int32 → Int32 → Int32 → Int32 → Int32 → Int32 → hM → Option (Int32 × hM)) (x1 : Int32) (x3 : Int32) (x4 : Int32) (x5 : Int32) (x6 : Int32) (x7 : Int32) (s0 : Int32) (m : hM) : Option (Int32 × hM) :=
  f_X11_cheap_179 fu k95 k121 k130 fu x1 x3 x4 x5 x6 x7 s0 1 m
set_option maxRecDepth 100000 in
set_option maxHeartbeats 4000000 in
theorem r_X11_cheap_174 {G : hG} {X : hX} (C : Cx G X 7 cX11_cheap 12 RX11 (some .int)) (K : Cr G X) (fu : Nat) (k95 : Int32 → Int32 → Int32 → Int32 → hM → Option (Int32 × hM)) (hk95 : ∀ (x1 : Int32) (x3 : Int32) (x4 : Int32) (x5 : Int32) (m : hM), Rf vI G X 95 [(0, hA G 96), (1, .int x1), (3, .int x3), (4, .int x4), (5, .int x5)] [] m (k95 x1 x3 x4 x5 m)) (k121 : Int32 → Int32 → Int32 → Int32 → Int32 → hM → Option (Int32 × hM)) (hk121 : ∀ (x1 : Int32) (x3 : Int32) (x4 : Int32) (x5 : Int32) (x6 : Int32) (m : hM), Rf vI G X 121 [(0, hA G 96), (1, .int x1), (3, .int x3), (4, .int x4), (5, .int x5), (6, .int x6)] [] m (k121 x1 x3 x4 x5 x6 m)) (k130 : Int32 → Int32 → Int32 → Int32 → Int32 → Int32 → hM → Option (Int32 × hM)) (hk130 : ∀ (x1 : Int32) (x3 : Int32) (x4 : Int32) (x5 : Int32) (x6 : Int32) (x7 : Int32) (m : hM), Rf vI G X 130 [(0, hA G 96), (1, .int x1), (3, .int x3), (4, .int x4), (5, .int x5), (6, .int x6), (7, .int x7)] [] m (k130 x1 x3 x4 x5 x6 x7 m)) (x1 : Int32) (x3 : Int32) (x4 : Int32) (x5 : Int32) (x6 : Int32) (x7 : Int32) (s0 : Int32) (m : hM) : Rf vI G X 174 [(0, hA G 96), (1, .int x1), (3, .int x3), (4, .int x4), (5, .int x5), (6, .int x6), (7, .int x7)] [.int s0] m (f_X11_cheap_174 fu k95 k121 k130 x1 x3 x4 x5 x6 x7 s0 m) := by
  unfold f_X11_cheap_174
  refine rf_istore C (n := 176) [(8, .int s0), (0, hA G 96), (1, .int x1), (3, .int x3), (4, .int x4), (5, .int x5), (6, .int x6), (7, .int x7)] dX11_cheap_174 rfl (by decide) rfl ?_
  refine rf_iconst C (n := 177) (v := 1) dX11_cheap_176 rfl (by decide) ?_
  refine rf_istore C (n := 179) [(9, .int 1), (8, .int s0), (0, hA G 96), (1, .int x1), (3, .int x3), (4, .int x4), (5, .int x5), (6, .int x6), (7, .int x7)] dX11_cheap_177 rfl (by decide) rfl ?_
  exact rf_lv _ [2, 3, 4, 5, 6, 7, 8, 1, 0] rfl (r_X11_cheap_179 C K fu _ hk95 _ hk121 _ hk130 fu _ _ _ _ _ _ _ _ _)
noncomputable def f_X11_cheap_173 (fu : Nat) (k95 : Int32 → Int32 → Int32 → Int32 → hM → Option (Int32 × hM)) (k121 : Int32 → Int32 → Int32 → Int32 → Int32 → hM → Option (Int32 × hM)) (k130 : Int32 → Int32 → Int32 → Int32 → Int32 → Int32 → hM → Option (Int32 × hM)) (x1 : Int32) (x3 : Int32) (x4 : Int32) (x5 : Int32) (x6 : Int32) (x7 : Int32) (m : hM) : Option (Int32 × hM) :=
  f_X11_cheap_174 fu k95 k121 k130 x1 x3 x4 x5 x6 x7 0 m
set_option maxRecDepth 100000 in
set_option maxHeartbeats 4000000 in
theorem r_X11_cheap_173 {G : hG} {X : hX} (C : Cx G X 7 cX11_cheap 12 RX11 (some .int)) (K : Cr G X) (fu : Nat) (k95 : Int32 → Int32 → Int32 → Int32 → hM → Option (Int32 × hM)) (hk95 : ∀ (x1 : Int32) (x3 : Int32) (x4 : Int32) (x5 : Int32) (m : hM), Rf vI G X 95 [(0, hA G 96), (1, .int x1), (3, .int x3), (4, .int x4), (5, .int x5)] [] m (k95 x1 x3 x4 x5 m)) (k121 : Int32 → Int32 → Int32 → Int32 → Int32 → hM → Option (Int32 × hM)) (hk121 : ∀ (x1 : Int32) (x3 : Int32) (x4 : Int32) (x5 : Int32) (x6 : Int32) (m : hM), Rf vI G X 121 [(0, hA G 96), (1, .int x1), (3, .int x3), (4, .int x4), (5, .int x5), (6, .int x6)] [] m (k121 x1 x3 x4 x5 x6 m)) (k130 : Int32 → Int32 → Int32 → Int32 → Int32 → Int32 → hM → Option (Int32 × hM)) (hk130 : ∀ (x1 : Int32) (x3 : Int32) (x4 : Int32) (x5 : Int32) (x6 : Int32) (x7 : Int32) (m : hM), Rf vI G X 130 [(0, hA G 96), (1, .int x1), (3, .int x3), (4, .int x4), (5, .int x5), (6, .int x6), (7, .int x7)] [] m (k130 x1 x3 x4 x5 x6 x7 m)) (x1 : Int32) (x3 : Int32) (x4 : Int32) (x5 : Int32) (x6 : Int32) (x7 : Int32) (m : hM) : Rf vI G X 173 [(0, hA G 96), (1, .int x1), (3, .int x3), (4, .int x4), (5, .int x5), (6, .int x6), (7, .int x7)] [] m (f_X11_cheap_173 fu k95 k121 k130 x1 x3 x4 x5 x6 x7 m) := by
  unfold f_X11_cheap_173
  refine rf_iconst C (n := 174) (v := 0) dX11_cheap_173 rfl (by decide) ?_
  exact rf_lv _ [0, 1, 2, 3, 4, 5, 6] rfl (r_X11_cheap_174 C K fu _ hk95 _ hk121 _ hk130 _ _ _ _ _ _ _ _)
noncomputable def s_X11_cheap_130 (fu : Nat) (k95 : Int32 → Int32 → Int32 → Int32 → hM → Option (Int32 × hM)) (k121 : Int32 → Int32 → Int32 → Int32 → Int32 → hM → Option (Int32 × hM)) (ih : Int32 → Int32 → Int32 → Int32 → Int32 → Int32 → hM → Option (Int32 × hM)) (x1 : Int32) (x3 : Int32) (x4 : Int32) (x5 : Int32) (x6 : Int32) (x7 : Int32) (m : hM) : Option (Int32 × hM) :=
  if (gI m 96 3) ≤ x7 then (
f_X11_cheap_271 fu k95 k121 x1 x3 x4 x5 x6 m) else (
hBd (f_X11_isOpen fu x7 x5 m) fun y42 m43 =>
if y42 = 0 then (
f_X11_cheap_173 fu k95 k121 ih x1 x3 x4 x5 x6 x7 m43) else (
if hIn x7 6 then (
if hIn x1 8 then (
hBd (f_X11_has fu (gI m43 103 (Int32.toNatClampNeg x7)) (gI m43 108 (Int32.toNatClampNeg x1)) m43) fun y60 m61 =>
if y60 = 0 then (
f_X11_cheap_173 fu k95 k121 ih x1 x3 x4 x5 x6 x7 m61) else (
f_X11_cheap_174 fu k95 k121 ih x1 x3 x4 x5 x6 x7 1 m61)) else none) else none))
noncomputable def f_X11_cheap_130 (fu : Nat) (k95 : Int32 → Int32 → Int32 → Int32 → hM → Option (Int32 × hM)) (k121 : Int32 → Int32 → Int32 → Int32 → Int32 → hM → Option (Int32 × hM)) (n : Nat) : Int32 → Int32 → Int32 → Int32 → Int32 → Int32 → hM → Option (Int32 × hM) :=
  Nat.rec (motive := fun _ => Int32 → Int32 → Int32 → Int32 → Int32 → Int32 → hM → Option (Int32 × hM)) (fun _ _ _ _ _ _ _ => none) (fun _ ih => s_X11_cheap_130 fu k95 k121 ih) n
theorem f_X11_cheap_130_s (fu : Nat) (k95 : Int32 → Int32 → Int32 → Int32 → hM → Option (Int32 × hM)) (k121 : Int32 → Int32 → Int32 → Int32 → Int32 → hM → Option (Int32 × hM)) (n : Nat) (x1 : Int32) (x3 : Int32) (x4 : Int32) (x5 : Int32) (x6 : Int32) (x7 : Int32) (m : hM) : f_X11_cheap_130 fu k95 k121 (n + 1) x1 x3 x4 x5 x6 x7 m = s_X11_cheap_130 fu k95 k121 (f_X11_cheap_130 fu k95 k121 n) x1 x3 x4 x5 x6 x7 m := rfl
set_option maxRecDepth 100000 in
set_option maxHeartbeats 4000000 in
theorem r_X11_cheap_130 {G : hG} {X : hX} (C : Cx G X 7 cX11_cheap 12 RX11 (some .int)) (K : Cr G X) (fu : Nat) (k95 : Int32 → Int32 → Int32 → Int32 → hM → Option (Int32 × hM)) (hk95 : ∀ (x1 : Int32) (x3 : Int32) (x4 : Int32) (x5 : Int32) (m : hM), Rf vI G X 95 [(0, hA G 96), (1, .int x1), (3, .int x3), (4, .int x4), (5, .int x5)] [] m (k95 x1 x3 x4 x5 m)) (k121 : Int32 → Int32 → Int32 → Int32 → Int32 → hM → Option (Int32 × hM)) (hk121 : ∀ (x1 : Int32) (x3 : Int32) (x4 : Int32) (x5 : Int32) (x6 : Int32) (m : hM), Rf vI G X 121 [(0, hA G 96), (1, .int x1), (3, .int x3), (4, .int x4), (5, .int x5), (6, .int x6)] [] m (k121 x1 x3 x4 x5 x6 m)) (n : Nat) : ∀ (x1 : Int32) (x3 : Int32) (x4 : Int32) (x5 : Int32) (x6 : Int32) (x7 : Int32) (m : hM), Rf vI G X 130 [(0, hA G 96), (1, .int x1), (3, .int x3), (4, .int x4), (5, .int x5), (6, .int x6), (7, .int x7)] [] m (f_X11_cheap_130 fu k95 k121 n x1 x3 x4 x5 x6 x7 m) := by
  induction n with
  | zero => intros; exact rf_none
  | succ n ih =>
    intro x1 x3 x4 x5 x6 x7 m
    show Rf vI G X 130 [(0, hA G 96), (1, .int x1), (3, .int x3), (4, .int x4), (5, .int x5), (6, .int x6), (7, .int x7)] [] m (s_X11_cheap_130 fu k95 k121 (f_X11_cheap_130 fu k95 k121 n) x1 x3 x4 x5 x6 x7 m)
    unfold s_X11_cheap_130
    refine rf_iload C (n := 132) (q := 6) dX11_cheap_130 rfl rfl ?_
    refine rf_aload_n C (n := 133) (q := 0) dX11_cheap_132 rfl rfl rfl ?_
    refine rf_getI C (n := 136) fl_RX11_22 ly_96 rfl dX11_cheap_133 rfl ?_
    refine rf_icmp_ge C (tgt := 271) (n := 139) dX11_cheap_136 (by decide) rfl (fun h40 => ?_) (fun h40 => ?_)
    · exact rf_lv _ [0, 1, 2, 3, 4, 5] rfl (r_X11_cheap_271 C K fu _ hk95 _ hk121 _ _ _ _ _ _)
    · refine rf_aload_n C (n := 140) (q := 0) dX11_cheap_139 rfl rfl rfl ?_
      refine rf_iload C (n := 142) (q := 6) dX11_cheap_140 rfl rfl ?_
      refine rf_iload C (n := 144) (q := 4) dX11_cheap_142 rfl rfl ?_
      refine rf_callVi C (n := 147) (c_X11_isOpen G fu _ _ _) mw_RX11_120 ly_96 rfl ⟨by decide, by decide⟩ rfl (Nat.le_of_ble_eq_true rfl) rfl dX11_cheap_144 rfl (fun y42 m43 => ?_)
      refine rf_if_eq C (tgt := 173) (n := 150) dX11_cheap_147 (by decide) rfl (fun h44 => ?_) (fun h44 => ?_)
      · exact rf_lv _ [0, 1, 2, 3, 4, 5, 6] rfl (r_X11_cheap_173 C K fu _ hk95 _ hk121 _ ih _ _ _ _ _ _ _)
      · refine rf_aload_n C (n := 151) (q := 0) dX11_cheap_150 rfl rfl rfl ?_
        refine rf_getS C (n := 154) fl_RX11_47 ly_96 rfl dX11_cheap_151 rfl ?_
        refine rf_iload C (n := 156) (q := 6) dX11_cheap_154 rfl rfl ?_
        refine rf_guard (fun h58 => ?_)
        refine rf_iald C (n := 157) ly_103 h58 rfl dX11_cheap_156 rfl ?_
        refine rf_aload_n C (n := 158) (q := 0) dX11_cheap_157 rfl rfl rfl ?_
        refine rf_getS C (n := 161) fl_RX11_154 ly_96 rfl dX11_cheap_158 rfl ?_
        refine rf_iload_n C (n := 162) (q := 1) dX11_cheap_161 rfl rfl rfl ?_
        refine rf_guard (fun h59 => ?_)
        refine rf_iald C (n := 163) ly_108 h59 rfl dX11_cheap_162 rfl ?_
        refine rf_callSi C (n := 166) (c_X11_has G fu _ _ _) sw_RX11_137 ⟨by decide, by decide⟩ rfl (Nat.le_of_ble_eq_true rfl) rfl dX11_cheap_163 rfl (fun y60 m61 => ?_)
        refine rf_if_eq C (tgt := 173) (n := 169) dX11_cheap_166 (by decide) rfl (fun h62 => ?_) (fun h62 => ?_)
        · exact rf_lv _ [0, 1, 2, 3, 4, 5, 6] rfl (r_X11_cheap_173 C K fu _ hk95 _ hk121 _ ih _ _ _ _ _ _ _)
        · refine rf_iconst C (n := 170) (v := 1) dX11_cheap_169 rfl (by decide) ?_
          refine rf_goto C (n := 174) dX11_cheap_170 (by decide) ?_
          exact rf_lv _ [0, 1, 2, 3, 4, 5, 6] rfl (r_X11_cheap_174 C K fu _ hk95 _ hk121 _ ih _ _ _ _ _ _ _ _)
noncomputable def s_X11_cheap_121 (fu : Nat) (k95 : Int32 → Int32 → Int32 → Int32 → hM → Option (Int32 × hM)) (ih : Int32 → Int32 → Int32 → Int32 → Int32 → hM → Option (Int32 × hM)) (x1 : Int32) (x3 : Int32) (x4 : Int32) (x5 : Int32) (x6 : Int32) (m : hM) : Option (Int32 × hM) :=
  if x3 < x6 then (
f_X11_cheap_277 fu k95 x1 x3 x4 x5 m) else (
f_X11_cheap_130 fu k95 ih fu x1 x3 x4 x5 x6 0 m)
noncomputable def f_X11_cheap_121 (fu : Nat) (k95 : Int32 → Int32 → Int32 → Int32 → hM → Option (Int32 × hM)) (n : Nat) : Int32 → Int32 → Int32 → Int32 → Int32 → hM → Option (Int32 × hM) :=
  Nat.rec (motive := fun _ => Int32 → Int32 → Int32 → Int32 → Int32 → hM → Option (Int32 × hM)) (fun _ _ _ _ _ _ => none) (fun _ ih => s_X11_cheap_121 fu k95 ih) n
theorem f_X11_cheap_121_s (fu : Nat) (k95 : Int32 → Int32 → Int32 → Int32 → hM → Option (Int32 × hM)) (n : Nat) (x1 : Int32) (x3 : Int32) (x4 : Int32) (x5 : Int32) (x6 : Int32) (m : hM) : f_X11_cheap_121 fu k95 (n + 1) x1 x3 x4 x5 x6 m = s_X11_cheap_121 fu k95 (f_X11_cheap_121 fu k95 n) x1 x3 x4 x5 x6 m := rfl
set_option maxRecDepth 100000 in
set_option maxHeartbeats 4000000 in
theorem r_X11_cheap_121 {G : hG} {X : hX} (C : Cx G X 7 cX11_cheap 12 RX11 (some .int)) (K : Cr G X) (fu : Nat) (k95 : Int32 → Int32 → Int32 → Int32 → hM → Option (Int32 × hM)) (hk95 : ∀ (x1 : Int32) (x3 : Int32) (x4 : Int32) (x5 : Int32) (m : hM), Rf vI G X 95 [(0, hA G 96), (1, .int x1), (3, .int x3), (4, .int x4), (5, .int x5)] [] m (k95 x1 x3 x4 x5 m)) (n : Nat) : ∀ (x1 : Int32) (x3 : Int32) (x4 : Int32) (x5 : Int32) (x6 : Int32) (m : hM), Rf vI G X 121 [(0, hA G 96), (1, .int x1), (3, .int x3), (4, .int x4), (5, .int x5), (6, .int x6)] [] m (f_X11_cheap_121 fu k95 n x1 x3 x4 x5 x6 m) := by
  induction n with
  | zero => intros; exact rf_none
  | succ n ih =>
    intro x1 x3 x4 x5 x6 m
    show Rf vI G X 121 [(0, hA G 96), (1, .int x1), (3, .int x3), (4, .int x4), (5, .int x5), (6, .int x6)] [] m (s_X11_cheap_121 fu k95 (f_X11_cheap_121 fu k95 n) x1 x3 x4 x5 x6 m)
    unfold s_X11_cheap_121
    refine rf_iload C (n := 123) (q := 5) dX11_cheap_121 rfl rfl ?_
    refine rf_iload_n C (n := 124) (q := 2) dX11_cheap_123 rfl rfl rfl ?_
    refine rf_icmp_gt C (tgt := 277) (n := 127) dX11_cheap_124 (by decide) rfl (fun h34 => ?_) (fun h34 => ?_)
    · exact rf_lv _ [0, 1, 2, 3, 4] rfl (r_X11_cheap_277 C K fu _ hk95 _ _ _ _ _)
    · refine rf_iconst C (n := 128) (v := 0) dX11_cheap_127 rfl (by decide) ?_
      refine rf_istore C (n := 130) [(7, .int 0), (0, hA G 96), (1, .int x1), (3, .int x3), (4, .int x4), (5, .int x5), (6, .int x6)] dX11_cheap_128 rfl (by decide) rfl ?_
      exact rf_lv _ [1, 2, 3, 4, 5, 6, 0] rfl (r_X11_cheap_130 C K fu _ hk95 _ ih fu _ _ _ _ _ _ _)
noncomputable def s_X11_cheap_95 (fu : Nat) (ih : Int32 → Int32 → Int32 → Int32 → hM → Option (Int32 × hM)) (x1 : Int32) (x3 : Int32) (x4 : Int32) (x5 : Int32) (m : hM) : Option (Int32 × hM) :=
  if x4 ≤ x5 then (
f_X11_cheap_303 fu m) else (
if hAr LY[gR m 96 44]? 3 3072 = true then (
hBd (f_X11_emptiesPaid fu (gR m 96 44) m) fun _ m32 =>
hBd (f_X11_losesAll fu (x5 + 1) m32) fun _ m33 =>
f_X11_cheap_121 fu ih fu x1 x3 x4 x5 0 m33) else none)
noncomputable def f_X11_cheap_95 (fu : Nat) (n : Nat) : Int32 → Int32 → Int32 → Int32 → hM → Option (Int32 × hM) :=
  Nat.rec (motive := fun _ => Int32 → Int32 → Int32 → Int32 → hM → Option (Int32 × hM)) (fun _ _ _ _ _ => none) (fun _ ih => s_X11_cheap_95 fu ih) n
theorem f_X11_cheap_95_s (fu : Nat) (n : Nat) (x1 : Int32) (x3 : Int32) (x4 : Int32) (x5 : Int32) (m : hM) : f_X11_cheap_95 fu (n + 1) x1 x3 x4 x5 m = s_X11_cheap_95 fu (f_X11_cheap_95 fu n) x1 x3 x4 x5 m := rfl
set_option maxRecDepth 100000 in
set_option maxHeartbeats 4000000 in
theorem r_X11_cheap_95 {G : hG} {X : hX} (C : Cx G X 7 cX11_cheap 12 RX11 (some .int)) (K : Cr G X) (fu : Nat) (n : Nat) : ∀ (x1 : Int32) (x3 : Int32) (x4 : Int32) (x5 : Int32) (m : hM), Rf vI G X 95 [(0, hA G 96), (1, .int x1), (3, .int x3), (4, .int x4), (5, .int x5)] [] m (f_X11_cheap_95 fu n x1 x3 x4 x5 m) := by
  induction n with
  | zero => intros; exact rf_none
  | succ n ih =>
    intro x1 x3 x4 x5 m
    show Rf vI G X 95 [(0, hA G 96), (1, .int x1), (3, .int x3), (4, .int x4), (5, .int x5)] [] m (s_X11_cheap_95 fu (f_X11_cheap_95 fu n) x1 x3 x4 x5 m)
    unfold s_X11_cheap_95
    refine rf_iload C (n := 97) (q := 4) dX11_cheap_95 rfl rfl ?_
    refine rf_iload C (n := 99) (q := 3) dX11_cheap_97 rfl rfl ?_
    refine rf_icmp_ge C (tgt := 303) (n := 102) dX11_cheap_99 (by decide) rfl (fun h26 => ?_) (fun h26 => ?_)
    · exact rf_lv _ [0] rfl (r_X11_cheap_303 C K fu _)
    · refine rf_aload_n C (n := 103) (q := 0) dX11_cheap_102 rfl rfl rfl ?_
      refine rf_aload_n C (n := 104) (q := 0) dX11_cheap_103 rfl rfl rfl ?_
      refine rf_guard (fun h31 => ?_)
      replace h31 := hAr_l h31
      refine rf_getR C (n := 107) fl_RX11_374 ly_96 rfl dX11_cheap_104 rfl ?_
      refine rf_callVv C (n := 110) (c_X11_emptiesPaid G fu _ _) mw_RX11_397 ly_96 rfl ⟨by decide, by decide⟩ rfl (Nat.le_of_ble_eq_true rfl) rfl dX11_cheap_107 rfl (fun _ m32 => ?_)
      refine rf_aload_n C (n := 111) (q := 0) dX11_cheap_110 rfl rfl rfl ?_
      refine rf_iload C (n := 113) (q := 4) dX11_cheap_111 rfl rfl ?_
      refine rf_iconst C (n := 114) (v := 1) dX11_cheap_113 rfl (by decide) ?_
      refine rf_iadd C (n := 115) dX11_cheap_114 rfl ?_
      refine rf_callVv C (n := 118) (c_X11_losesAll G fu _ _) mw_RX11_353 ly_96 rfl ⟨by decide, by decide⟩ rfl (Nat.le_of_ble_eq_true rfl) rfl dX11_cheap_115 rfl (fun _ m33 => ?_)
      refine rf_iconst C (n := 119) (v := 0) dX11_cheap_118 rfl (by decide) ?_
      refine rf_istore C (n := 121) [(6, .int 0), (0, hA G 96), (1, .int x1), (3, .int x3), (4, .int x4), (5, .int x5)] dX11_cheap_119 rfl (by decide) rfl ?_
      exact rf_lv _ [1, 2, 3, 4, 5, 0] rfl (r_X11_cheap_121 C K fu _ ih fu _ _ _ _ _ _)
noncomputable def f_X11_cheap (fu : Nat) (x1 : Int32) (x2 : Int32) (x3 : Int32) (x4 : Int32) (m : hM) : Option (Int32 × hM) :=
  hLet (sI m 96 0 0) fun m1 =>
hBd (f_X11_isPiece fu x1 m1) fun y2 m3 =>
if y2 = 0 then (
some ((-1), m3)) else (
hBd (f_X11_isHour fu x2 m3) fun y5 m6 =>
if y5 = 0 then (
some ((-1), m6)) else (
hBd (f_X11_in fu (Int32.toInt64 x3) 0 2 m6) fun y8 m9 =>
if y8 = 0 then (
some ((-1), m9)) else (
hBd (f_J9_min_7cf53 fu 2399 (x2 + 400) m9) fun y11 m12 =>
hBd (f_X11_in fu (Int32.toInt64 x4) (Int32.toInt64 x2) (Int32.toInt64 y11) m12) fun y13 m14 =>
if ¬ y13 = 0 then (
if hAr LY[gR m14 96 43]? 3 3072 = true then (
hBd (f_X11_emptiesPaid fu (gR m14 96 43) m14) fun _ m17 =>
if hAr LY[gR m17 96 43]? 3 3072 = true then (
if hIn x1 8 then (
if hIn x1 8 then (
hBd (f_X11_placeAt fu 0 (gI m17 111 (Int32.toNatClampNeg x1)) (gI m17 109 (Int32.toNatClampNeg x1)) m17) fun y21 m22 =>
if hIn y21 3072 then (
hLet (sL m22 (gR m17 96 43) (Int32.toNatClampNeg y21) 0) fun m24 =>
hLet (sI m24 96 46 (-1)) fun m25 =>
f_X11_cheap_95 fu fu x1 x3 x4 x2 m25) else none) else none) else none) else none) else none) else (
some ((-1), m14)))))
set_option maxRecDepth 100000 in
set_option maxHeartbeats 4000000 in
theorem c_X11_cheap (G : hG) (fu : Nat) (x1 : Int32) (x2 : Int32) (x3 : Int32) (x4 : Int32) (m : hM) : Mt vI G 7 yX11_cheap cX11_cheap 12 (some .int) [hA G 96, .int x1, .int x2, .int x3, .int x4] m (f_X11_cheap fu x1 x2 x3 x4 m) := by
  refine mt_of (by decide +kernel) (Nat.le_of_ble_eq_true rfl) (fun X C K => ?_)
  have C : Cx G X 7 cX11_cheap 12 RX11 (some .int) := C
  show Rf vI G X 0 [(0, hA G 96), (1, .int x1), (2, .int x2), (3, .int x3), (4, .int x4)] [] m _
  unfold f_X11_cheap
  refine rf_aload_n C (n := 1) (q := 0) dX11_cheap_0 rfl rfl rfl ?_
  refine rf_iconst C (n := 2) (v := 0) dX11_cheap_1 rfl (by decide) ?_
  refine rf_putI C (n := 5) pl_RX11_3 ly_96 rfl ⟨rfl, rfl⟩ dX11_cheap_2 rfl ?_
  refine rf_letM (fun m1 => ?_)
  refine rf_aload_n C (n := 6) (q := 0) dX11_cheap_5 rfl rfl rfl ?_
  refine rf_iload_n C (n := 7) (q := 1) dX11_cheap_6 rfl rfl rfl ?_
  refine rf_callVi C (n := 10) (c_X11_isPiece G fu _ _) mw_RX11_256 ly_96 rfl ⟨by decide, by decide⟩ rfl (Nat.le_of_ble_eq_true rfl) rfl dX11_cheap_7 rfl (fun y2 m3 => ?_)
  refine rf_if_eq C (tgt := 55) (n := 13) dX11_cheap_10 (by decide) rfl (fun h4 => ?_) (fun h4 => ?_)
  · refine rf_iconst C (n := 56) (v := (-1)) dX11_cheap_55 rfl (by decide) ?_
    exact rf_iret C K dX11_cheap_56
  · refine rf_iload_n C (n := 14) (q := 2) dX11_cheap_13 rfl rfl rfl ?_
    refine rf_callSi C (n := 17) (c_X11_isHour G fu _ _) sw_RX11_81 ⟨by decide, by decide⟩ rfl (Nat.le_of_ble_eq_true rfl) rfl dX11_cheap_14 rfl (fun y5 m6 => ?_)
    refine rf_if_eq C (tgt := 55) (n := 20) dX11_cheap_17 (by decide) rfl (fun h7 => ?_) (fun h7 => ?_)
    · refine rf_iconst C (n := 56) (v := (-1)) dX11_cheap_55 rfl (by decide) ?_
      exact rf_iret C K dX11_cheap_56
    · refine rf_iload_n C (n := 21) (q := 3) dX11_cheap_20 rfl rfl rfl ?_
      refine rf_i2l C (n := 22) dX11_cheap_21 rfl ?_
      refine rf_lconst C (n := 23) (v := 0) dX11_cheap_22 rfl (by decide) ?_
      refine rf_ldc2 C (n := 26) dX11_cheap_23 rfl kl_RX11_392 ?_
      refine rf_callSi C (n := 29) (c_X11_in G fu _ _ _ _) sw_RX11_25 ⟨by decide, by decide⟩ rfl (Nat.le_of_ble_eq_true rfl) rfl dX11_cheap_26 rfl (fun y8 m9 => ?_)
      refine rf_if_eq C (tgt := 55) (n := 32) dX11_cheap_29 (by decide) rfl (fun h10 => ?_) (fun h10 => ?_)
      · refine rf_iconst C (n := 56) (v := (-1)) dX11_cheap_55 rfl (by decide) ?_
        exact rf_iret C K dX11_cheap_56
      · refine rf_iload C (n := 34) (q := 4) dX11_cheap_32 rfl rfl ?_
        refine rf_i2l C (n := 35) dX11_cheap_34 rfl ?_
        refine rf_iload_n C (n := 36) (q := 2) dX11_cheap_35 rfl rfl rfl ?_
        refine rf_i2l C (n := 37) dX11_cheap_36 rfl ?_
        refine rf_sipush C (n := 40) (v := 2399) dX11_cheap_37 rfl (by decide) ?_
        refine rf_iload_n C (n := 41) (q := 2) dX11_cheap_40 rfl rfl rfl ?_
        refine rf_sipush C (n := 44) (v := 400) dX11_cheap_41 rfl (by decide) ?_
        refine rf_iadd C (n := 45) dX11_cheap_44 rfl ?_
        refine rf_callSi C (n := 48) (c_J9_min_7cf53 G fu _ _ _) sw_RX11_95 ⟨by decide, by decide⟩ rfl (Nat.le_of_ble_eq_true rfl) rfl dX11_cheap_45 rfl (fun y11 m12 => ?_)
        refine rf_i2l C (n := 49) dX11_cheap_48 rfl ?_
        refine rf_callSi C (n := 52) (c_X11_in G fu _ _ _ _) sw_RX11_25 ⟨by decide, by decide⟩ rfl (Nat.le_of_ble_eq_true rfl) rfl dX11_cheap_49 rfl (fun y13 m14 => ?_)
        refine rf_if_ne C (tgt := 57) (n := 55) dX11_cheap_52 (by decide) rfl (fun h15 => ?_) (fun h15 => ?_)
        · refine rf_aload_n C (n := 58) (q := 0) dX11_cheap_57 rfl rfl rfl ?_
          refine rf_aload_n C (n := 59) (q := 0) dX11_cheap_58 rfl rfl rfl ?_
          refine rf_guard (fun h16 => ?_)
          replace h16 := hAr_l h16
          refine rf_getR C (n := 62) fl_RX11_394 ly_96 rfl dX11_cheap_59 rfl ?_
          refine rf_callVv C (n := 65) (c_X11_emptiesPaid G fu _ _) mw_RX11_397 ly_96 rfl ⟨by decide, by decide⟩ rfl (Nat.le_of_ble_eq_true rfl) rfl dX11_cheap_62 rfl (fun _ m17 => ?_)
          refine rf_aload_n C (n := 66) (q := 0) dX11_cheap_65 rfl rfl rfl ?_
          refine rf_guard (fun h18 => ?_)
          replace h18 := hAr_l h18
          refine rf_getR C (n := 69) fl_RX11_394 ly_96 rfl dX11_cheap_66 rfl ?_
          refine rf_iconst C (n := 70) (v := 0) dX11_cheap_69 rfl (by decide) ?_
          refine rf_aload_n C (n := 71) (q := 0) dX11_cheap_70 rfl rfl rfl ?_
          refine rf_getS C (n := 74) fl_RX11_143 ly_96 rfl dX11_cheap_71 rfl ?_
          refine rf_iload_n C (n := 75) (q := 1) dX11_cheap_74 rfl rfl rfl ?_
          refine rf_guard (fun h19 => ?_)
          refine rf_iald C (n := 76) ly_111 h19 rfl dX11_cheap_75 rfl ?_
          refine rf_aload_n C (n := 77) (q := 0) dX11_cheap_76 rfl rfl rfl ?_
          refine rf_getS C (n := 80) fl_RX11_146 ly_96 rfl dX11_cheap_77 rfl ?_
          refine rf_iload_n C (n := 81) (q := 1) dX11_cheap_80 rfl rfl rfl ?_
          refine rf_guard (fun h20 => ?_)
          refine rf_iald C (n := 82) ly_109 h20 rfl dX11_cheap_81 rfl ?_
          refine rf_callSi C (n := 85) (c_X11_placeAt G fu _ _ _ _) sw_RX11_344 ⟨by decide, by decide⟩ rfl (Nat.le_of_ble_eq_true rfl) rfl dX11_cheap_82 rfl (fun y21 m22 => ?_)
          refine rf_lconst C (n := 86) (v := 0) dX11_cheap_85 rfl (by decide) ?_
          refine rf_guard (fun h23 => ?_)
          refine rf_last C (n := 87) h18 h23 rfl dX11_cheap_86 rfl ?_
          refine rf_letM (fun m24 => ?_)
          refine rf_aload_n C (n := 88) (q := 0) dX11_cheap_87 rfl rfl rfl ?_
          refine rf_iconst C (n := 89) (v := (-1)) dX11_cheap_88 rfl (by decide) ?_
          refine rf_putI C (n := 92) pl_RX11_379 ly_96 rfl ⟨rfl, rfl⟩ dX11_cheap_89 rfl ?_
          refine rf_letM (fun m25 => ?_)
          refine rf_iload_n C (n := 93) (q := 2) dX11_cheap_92 rfl rfl rfl ?_
          refine rf_istore C (n := 95) [(5, .int x2), (0, hA G 96), (1, .int x1), (2, .int x2), (3, .int x3), (4, .int x4)] dX11_cheap_93 rfl (by decide) rfl ?_
          exact rf_lv _ [1, 2, 4, 5, 0] rfl (r_X11_cheap_95 C K fu fu _ _ _ _ _)
        · refine rf_iconst C (n := 56) (v := (-1)) dX11_cheap_55 rfl (by decide) ?_
          exact rf_iret C K dX11_cheap_56
