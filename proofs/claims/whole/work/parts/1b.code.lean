theorem dX3_takeBack_0 : decode cX3_takeBack 0 = .ok (.iconst 0, 1) := by decide +kernel
theorem dX3_takeBack_1 : decode cX3_takeBack 1 = .ok (.istore_n 3, 1) := by decide +kernel
theorem dX3_takeBack_2 : decode cX3_takeBack 2 = .ok (.iload_n 3, 1) := by decide +kernel
theorem dX3_takeBack_3 : decode cX3_takeBack 3 = .ok (.aload_n 0, 1) := by decide +kernel
theorem dX3_takeBack_4 : decode cX3_takeBack 4 = .ok (.getfield 24, 3) := by decide +kernel
theorem dX3_takeBack_7 : decode cX3_takeBack 7 = .ok (.if_icmp .ge 40, 3) := by decide +kernel
theorem dX3_takeBack_10 : decode cX3_takeBack 10 = .ok (.iload_n 2, 1) := by decide +kernel
theorem dX3_takeBack_11 : decode cX3_takeBack 11 = .ok (.iload_n 3, 1) := by decide +kernel
theorem dX3_takeBack_12 : decode cX3_takeBack 12 = .ok (.ishr, 1) := by decide +kernel
theorem dX3_takeBack_13 : decode cX3_takeBack 13 = .ok (.iconst 1, 1) := by decide +kernel
theorem dX3_takeBack_14 : decode cX3_takeBack 14 = .ok (.iand, 1) := by decide +kernel
theorem dX3_takeBack_15 : decode cX3_takeBack 15 = .ok (.iconst 1, 1) := by decide +kernel
theorem dX3_takeBack_16 : decode cX3_takeBack 16 = .ok (.if_icmp .ne 25, 3) := by decide +kernel
theorem dX3_takeBack_19 : decode cX3_takeBack 19 = .ok (.aload_n 1, 1) := by decide +kernel
theorem dX3_takeBack_20 : decode cX3_takeBack 20 = .ok (.aload_n 0, 1) := by decide +kernel
theorem dX3_takeBack_21 : decode cX3_takeBack 21 = .ok (.getfield 9, 3) := by decide +kernel
theorem dX3_takeBack_24 : decode cX3_takeBack 24 = .ok (.iload_n 3, 1) := by decide +kernel
theorem dX3_takeBack_25 : decode cX3_takeBack 25 = .ok (.iaload, 1) := by decide +kernel
theorem dX3_takeBack_26 : decode cX3_takeBack 26 = .ok (.aload_n 0, 1) := by decide +kernel
theorem dX3_takeBack_27 : decode cX3_takeBack 27 = .ok (.getfield 15, 3) := by decide +kernel
theorem dX3_takeBack_30 : decode cX3_takeBack 30 = .ok (.iload_n 3, 1) := by decide +kernel
theorem dX3_takeBack_31 : decode cX3_takeBack 31 = .ok (.iaload, 1) := by decide +kernel
theorem dX3_takeBack_32 : decode cX3_takeBack 32 = .ok (.aload_n 0, 1) := by decide +kernel
theorem dX3_takeBack_33 : decode cX3_takeBack 33 = .ok (.getfield 21, 3) := by decide +kernel
theorem dX3_takeBack_36 : decode cX3_takeBack 36 = .ok (.iload_n 3, 1) := by decide +kernel
theorem dX3_takeBack_37 : decode cX3_takeBack 37 = .ok (.iaload, 1) := by decide +kernel
theorem dX3_takeBack_38 : decode cX3_takeBack 38 = .ok (.invokevirtual 39, 3) := by decide +kernel
theorem dX3_takeBack_41 : decode cX3_takeBack 41 = .ok (.iinc 3 1, 3) := by decide +kernel
theorem dX3_takeBack_44 : decode cX3_takeBack 44 = .ok (.goto (-42), 3) := by decide +kernel
theorem dX3_takeBack_47 : decode cX3_takeBack 47 = .ok (.return_, 1) := by decide +kernel
theorem dX4_has_0 : decode cX4_has 0 = .ok (.iload_n 1, 1) := by decide +kernel
theorem dX4_has_1 : decode cX4_has 1 = .ok (.ifCond .lt 15, 3) := by decide +kernel
theorem dX4_has_4 : decode cX4_has 4 = .ok (.iload_n 1, 1) := by decide +kernel
theorem dX4_has_5 : decode cX4_has 5 = .ok (.aload_n 0, 1) := by decide +kernel
theorem dX4_has_6 : decode cX4_has 6 = .ok (.getfield 30, 3) := by decide +kernel
theorem dX4_has_9 : decode cX4_has 9 = .ok (.if_icmp .ge 7, 3) := by decide +kernel
theorem dX4_has_12 : decode cX4_has 12 = .ok (.iconst 1, 1) := by decide +kernel
theorem dX4_has_13 : decode cX4_has 13 = .ok (.goto 4, 3) := by decide +kernel
theorem dX4_has_16 : decode cX4_has 16 = .ok (.iconst 0, 1) := by decide +kernel
theorem dX4_has_17 : decode cX4_has 17 = .ok (.ireturn, 1) := by decide +kernel
theorem dX4_all_0 : decode cX4_all 0 = .ok (.iconst 1, 1) := by decide +kernel
theorem dX4_all_1 : decode cX4_all 1 = .ok (.aload_n 0, 1) := by decide +kernel
theorem dX4_all_2 : decode cX4_all 2 = .ok (.getfield 30, 3) := by decide +kernel
theorem dX4_all_5 : decode cX4_all 5 = .ok (.ishl, 1) := by decide +kernel
theorem dX4_all_6 : decode cX4_all 6 = .ok (.iconst 1, 1) := by decide +kernel
theorem dX4_all_7 : decode cX4_all 7 = .ok (.isub, 1) := by decide +kernel
theorem dX4_all_8 : decode cX4_all 8 = .ok (.ireturn, 1) := by decide +kernel
theorem dX5_take_0 : decode cX5_take 0 = .ok (.aload_n 1, 1) := by decide +kernel
theorem dX5_take_1 : decode cX5_take 1 = .ok (.iconst 0, 1) := by decide +kernel
theorem dX5_take_2 : decode cX5_take 2 = .ok (.aload_n 0, 1) := by decide +kernel
theorem dX5_take_3 : decode cX5_take 3 = .ok (.getfield 9, 3) := by decide +kernel
theorem dX5_take_6 : decode cX5_take 6 = .ok (.iconst 0, 1) := by decide +kernel
theorem dX5_take_7 : decode cX5_take 7 = .ok (.iload_n 2, 1) := by decide +kernel
theorem dX5_take_8 : decode cX5_take 8 = .ok (.invokestatic 25, 3) := by decide +kernel
theorem dX5_take_11 : decode cX5_take 11 = .ok (.aload_n 0, 1) := by decide +kernel
theorem dX5_take_12 : decode cX5_take 12 = .ok (.iload_n 2, 1) := by decide +kernel
theorem dX5_take_13 : decode cX5_take 13 = .ok (.putfield 15, 3) := by decide +kernel
theorem dX5_take_16 : decode cX5_take 16 = .ok (.return_, 1) := by decide +kernel
theorem dX5_push_0 : decode cX5_push 0 = .ok (.aload_n 0, 1) := by decide +kernel
theorem dX5_push_1 : decode cX5_push 1 = .ok (.getfield 22, 3) := by decide +kernel
theorem dX5_push_4 : decode cX5_push 4 = .ok (.aload_n 0, 1) := by decide +kernel
theorem dX5_push_5 : decode cX5_push 5 = .ok (.getfield 19, 3) := by decide +kernel
theorem dX5_push_8 : decode cX5_push 8 = .ok (.arraylength, 1) := by decide +kernel
theorem dX5_push_9 : decode cX5_push 9 = .ok (.if_icmp .ge 23, 3) := by decide +kernel
theorem dX5_push_12 : decode cX5_push 12 = .ok (.aload_n 0, 1) := by decide +kernel
theorem dX5_push_13 : decode cX5_push 13 = .ok (.getfield 19, 3) := by decide +kernel
theorem dX5_push_16 : decode cX5_push 16 = .ok (.aload_n 0, 1) := by decide +kernel
theorem dX5_push_17 : decode cX5_push 17 = .ok (.getfield 22, 3) := by decide +kernel
theorem dX5_push_20 : decode cX5_push 20 = .ok (.iload_n 1, 1) := by decide +kernel
theorem dX5_push_21 : decode cX5_push 21 = .ok (.iastore, 1) := by decide +kernel
theorem dX5_push_22 : decode cX5_push 22 = .ok (.aload_n 0, 1) := by decide +kernel
theorem dX5_push_23 : decode cX5_push 23 = .ok (.dup, 1) := by decide +kernel
theorem dX5_push_24 : decode cX5_push 24 = .ok (.getfield 22, 3) := by decide +kernel
theorem dX5_push_27 : decode cX5_push 27 = .ok (.iconst 1, 1) := by decide +kernel
theorem dX5_push_28 : decode cX5_push 28 = .ok (.iadd, 1) := by decide +kernel
theorem dX5_push_29 : decode cX5_push 29 = .ok (.putfield 22, 3) := by decide +kernel
theorem dX5_push_32 : decode cX5_push 32 = .ok (.return_, 1) := by decide +kernel
theorem dX5_pop_0 : decode cX5_pop 0 = .ok (.aload_n 0, 1) := by decide +kernel
theorem dX5_pop_1 : decode cX5_pop 1 = .ok (.getfield 22, 3) := by decide +kernel
theorem dX5_pop_4 : decode cX5_pop 4 = .ok (.ifCond .ne 5, 3) := by decide +kernel
theorem dX5_pop_7 : decode cX5_pop 7 = .ok (.iconst 0, 1) := by decide +kernel
theorem dX5_pop_8 : decode cX5_pop 8 = .ok (.ireturn, 1) := by decide +kernel
theorem dX5_pop_9 : decode cX5_pop 9 = .ok (.aload_n 0, 1) := by decide +kernel
theorem dX5_pop_10 : decode cX5_pop 10 = .ok (.dup, 1) := by decide +kernel
theorem dX5_pop_11 : decode cX5_pop 11 = .ok (.getfield 22, 3) := by decide +kernel
theorem dX5_pop_14 : decode cX5_pop 14 = .ok (.iconst 1, 1) := by decide +kernel
theorem dX5_pop_15 : decode cX5_pop 15 = .ok (.isub, 1) := by decide +kernel
theorem dX5_pop_16 : decode cX5_pop 16 = .ok (.putfield 22, 3) := by decide +kernel
theorem dX5_pop_19 : decode cX5_pop 19 = .ok (.aload_n 0, 1) := by decide +kernel
theorem dX5_pop_20 : decode cX5_pop 20 = .ok (.getfield 19, 3) := by decide +kernel
theorem dX5_pop_23 : decode cX5_pop 23 = .ok (.aload_n 0, 1) := by decide +kernel
theorem dX5_pop_24 : decode cX5_pop 24 = .ok (.getfield 22, 3) := by decide +kernel
theorem dX5_pop_27 : decode cX5_pop 27 = .ok (.iaload, 1) := by decide +kernel
theorem dX5_pop_28 : decode cX5_pop 28 = .ok (.ireturn, 1) := by decide +kernel
theorem dX5_joined_0 : decode cX5_joined 0 = .ok (.iload_n 0, 1) := by decide +kernel
theorem dX5_joined_1 : decode cX5_joined 1 = .ok (.lookupswitch 136 #[(38, 81), (43, 128), (45, 132), (60, 95), (61, 117), (62, 106), (124, 67)], 67) := by decide +kernel
theorem dX5_joined_68 : decode cX5_joined 68 = .ok (.iload_n 1, 1) := by decide +kernel
theorem dX5_joined_69 : decode cX5_joined 69 = .ok (.ifCond .ne 7, 3) := by decide +kernel
theorem dX5_joined_72 : decode cX5_joined 72 = .ok (.iload_n 2, 1) := by decide +kernel
theorem dX5_joined_73 : decode cX5_joined 73 = .ok (.ifCond .eq 7, 3) := by decide +kernel
theorem dX5_joined_76 : decode cX5_joined 76 = .ok (.iconst 1, 1) := by decide +kernel
theorem dX5_joined_77 : decode cX5_joined 77 = .ok (.goto 4, 3) := by decide +kernel
theorem dX5_joined_80 : decode cX5_joined 80 = .ok (.iconst 0, 1) := by decide +kernel
theorem dX5_joined_81 : decode cX5_joined 81 = .ok (.ireturn, 1) := by decide +kernel
theorem dX5_joined_82 : decode cX5_joined 82 = .ok (.iload_n 1, 1) := by decide +kernel
theorem dX5_joined_83 : decode cX5_joined 83 = .ok (.ifCond .eq 11, 3) := by decide +kernel
theorem dX5_joined_86 : decode cX5_joined 86 = .ok (.iload_n 2, 1) := by decide +kernel
theorem dX5_joined_87 : decode cX5_joined 87 = .ok (.ifCond .eq 7, 3) := by decide +kernel
theorem dX5_joined_90 : decode cX5_joined 90 = .ok (.iconst 1, 1) := by decide +kernel
theorem dX5_joined_91 : decode cX5_joined 91 = .ok (.goto 4, 3) := by decide +kernel
theorem dX5_joined_94 : decode cX5_joined 94 = .ok (.iconst 0, 1) := by decide +kernel
theorem dX5_joined_95 : decode cX5_joined 95 = .ok (.ireturn, 1) := by decide +kernel
theorem dX5_joined_96 : decode cX5_joined 96 = .ok (.iload_n 1, 1) := by decide +kernel
theorem dX5_joined_97 : decode cX5_joined 97 = .ok (.iload_n 2, 1) := by decide +kernel
theorem dX5_joined_98 : decode cX5_joined 98 = .ok (.if_icmp .ge 7, 3) := by decide +kernel
theorem dX5_joined_101 : decode cX5_joined 101 = .ok (.iconst 1, 1) := by decide +kernel
theorem dX5_joined_102 : decode cX5_joined 102 = .ok (.goto 4, 3) := by decide +kernel
theorem dX5_joined_105 : decode cX5_joined 105 = .ok (.iconst 0, 1) := by decide +kernel
theorem dX5_joined_106 : decode cX5_joined 106 = .ok (.ireturn, 1) := by decide +kernel
theorem dX5_joined_107 : decode cX5_joined 107 = .ok (.iload_n 1, 1) := by decide +kernel
theorem dX5_joined_108 : decode cX5_joined 108 = .ok (.iload_n 2, 1) := by decide +kernel
theorem dX5_joined_109 : decode cX5_joined 109 = .ok (.if_icmp .le 7, 3) := by decide +kernel
theorem dX5_joined_112 : decode cX5_joined 112 = .ok (.iconst 1, 1) := by decide +kernel
theorem dX5_joined_113 : decode cX5_joined 113 = .ok (.goto 4, 3) := by decide +kernel
theorem dX5_joined_116 : decode cX5_joined 116 = .ok (.iconst 0, 1) := by decide +kernel
theorem dX5_joined_117 : decode cX5_joined 117 = .ok (.ireturn, 1) := by decide +kernel
theorem dX5_joined_118 : decode cX5_joined 118 = .ok (.iload_n 1, 1) := by decide +kernel
theorem dX5_joined_119 : decode cX5_joined 119 = .ok (.iload_n 2, 1) := by decide +kernel
theorem dX5_joined_120 : decode cX5_joined 120 = .ok (.if_icmp .ne 7, 3) := by decide +kernel
theorem dX5_joined_123 : decode cX5_joined 123 = .ok (.iconst 1, 1) := by decide +kernel
theorem dX5_joined_124 : decode cX5_joined 124 = .ok (.goto 4, 3) := by decide +kernel
theorem dX5_joined_127 : decode cX5_joined 127 = .ok (.iconst 0, 1) := by decide +kernel
theorem dX5_joined_128 : decode cX5_joined 128 = .ok (.ireturn, 1) := by decide +kernel
theorem dX5_joined_129 : decode cX5_joined 129 = .ok (.iload_n 1, 1) := by decide +kernel
theorem dX5_joined_130 : decode cX5_joined 130 = .ok (.iload_n 2, 1) := by decide +kernel
theorem dX5_joined_131 : decode cX5_joined 131 = .ok (.iadd, 1) := by decide +kernel
theorem dX5_joined_132 : decode cX5_joined 132 = .ok (.ireturn, 1) := by decide +kernel
theorem dX5_joined_133 : decode cX5_joined 133 = .ok (.iload_n 1, 1) := by decide +kernel
theorem dX5_joined_134 : decode cX5_joined 134 = .ok (.iload_n 2, 1) := by decide +kernel
theorem dX5_joined_135 : decode cX5_joined 135 = .ok (.isub, 1) := by decide +kernel
theorem dX5_joined_136 : decode cX5_joined 136 = .ok (.ireturn, 1) := by decide +kernel
theorem dX5_joined_137 : decode cX5_joined 137 = .ok (.iload_n 1, 1) := by decide +kernel
theorem dX5_joined_138 : decode cX5_joined 138 = .ok (.iload_n 2, 1) := by decide +kernel
theorem dX5_joined_139 : decode cX5_joined 139 = .ok (.imul, 1) := by decide +kernel
theorem dX5_joined_140 : decode cX5_joined 140 = .ok (.ireturn, 1) := by decide +kernel
theorem dX5_apply_0 : decode cX5_apply 0 = .ok (.aload_n 0, 1) := by decide +kernel
theorem dX5_apply_1 : decode cX5_apply 1 = .ok (.invokevirtual 31, 3) := by decide +kernel
theorem dX5_apply_4 : decode cX5_apply 4 = .ok (.istore_n 2, 1) := by decide +kernel
theorem dX5_apply_5 : decode cX5_apply 5 = .ok (.iload_n 1, 1) := by decide +kernel
theorem dX5_apply_6 : decode cX5_apply 6 = .ok (.bipush 33, 2) := by decide +kernel
theorem dX5_apply_8 : decode cX5_apply 8 = .ok (.if_icmp .ne 19, 3) := by decide +kernel
theorem dX5_apply_11 : decode cX5_apply 11 = .ok (.aload_n 0, 1) := by decide +kernel
theorem dX5_apply_12 : decode cX5_apply 12 = .ok (.iload_n 2, 1) := by decide +kernel
theorem dX5_apply_13 : decode cX5_apply 13 = .ok (.ifCond .ne 7, 3) := by decide +kernel
theorem dX5_apply_16 : decode cX5_apply 16 = .ok (.iconst 1, 1) := by decide +kernel
theorem dX5_apply_17 : decode cX5_apply 17 = .ok (.goto 4, 3) := by decide +kernel
theorem dX5_apply_20 : decode cX5_apply 20 = .ok (.iconst 0, 1) := by decide +kernel
theorem dX5_apply_21 : decode cX5_apply 21 = .ok (.invokevirtual 35, 3) := by decide +kernel
theorem dX5_apply_24 : decode cX5_apply 24 = .ok (.goto 31, 3) := by decide +kernel
theorem dX5_apply_27 : decode cX5_apply 27 = .ok (.iload_n 1, 1) := by decide +kernel
theorem dX5_apply_28 : decode cX5_apply 28 = .ok (.bipush 126, 2) := by decide +kernel
theorem dX5_apply_30 : decode cX5_apply 30 = .ok (.if_icmp .ne 12, 3) := by decide +kernel
theorem dX5_apply_33 : decode cX5_apply 33 = .ok (.aload_n 0, 1) := by decide +kernel
theorem dX5_apply_34 : decode cX5_apply 34 = .ok (.iload_n 2, 1) := by decide +kernel
theorem dX5_apply_35 : decode cX5_apply 35 = .ok (.ineg, 1) := by decide +kernel
theorem dX5_apply_36 : decode cX5_apply 36 = .ok (.invokevirtual 35, 3) := by decide +kernel
theorem dX5_apply_39 : decode cX5_apply 39 = .ok (.goto 16, 3) := by decide +kernel
theorem dX5_apply_42 : decode cX5_apply 42 = .ok (.aload_n 0, 1) := by decide +kernel
theorem dX5_apply_43 : decode cX5_apply 43 = .ok (.iload_n 1, 1) := by decide +kernel
theorem dX5_apply_44 : decode cX5_apply 44 = .ok (.aload_n 0, 1) := by decide +kernel
theorem dX5_apply_45 : decode cX5_apply 45 = .ok (.invokevirtual 31, 3) := by decide +kernel
theorem dX5_apply_48 : decode cX5_apply 48 = .ok (.iload_n 2, 1) := by decide +kernel
theorem dX5_apply_49 : decode cX5_apply 49 = .ok (.invokestatic 39, 3) := by decide +kernel
theorem dX5_apply_52 : decode cX5_apply 52 = .ok (.invokevirtual 35, 3) := by decide +kernel
theorem dX5_apply_55 : decode cX5_apply 55 = .ok (.return_, 1) := by decide +kernel
theorem dX6_putPending_0 : decode cX6_putPending 0 = .ok (.aload_n 0, 1) := by decide +kernel
theorem dX6_putPending_1 : decode cX6_putPending 1 = .ok (.getfield 22, 3) := by decide +kernel
theorem dX6_putPending_4 : decode cX6_putPending 4 = .ok (.aload_n 0, 1) := by decide +kernel
theorem dX6_putPending_5 : decode cX6_putPending 5 = .ok (.getfield 19, 3) := by decide +kernel
theorem dX6_putPending_8 : decode cX6_putPending 8 = .ok (.arraylength, 1) := by decide +kernel
theorem dX6_putPending_9 : decode cX6_putPending 9 = .ok (.if_icmp .ge 23, 3) := by decide +kernel
theorem dX6_putPending_12 : decode cX6_putPending 12 = .ok (.aload_n 0, 1) := by decide +kernel
theorem dX6_putPending_13 : decode cX6_putPending 13 = .ok (.getfield 19, 3) := by decide +kernel
theorem dX6_putPending_16 : decode cX6_putPending 16 = .ok (.aload_n 0, 1) := by decide +kernel
theorem dX6_putPending_17 : decode cX6_putPending 17 = .ok (.getfield 22, 3) := by decide +kernel
theorem dX6_putPending_20 : decode cX6_putPending 20 = .ok (.iload_n 1, 1) := by decide +kernel
theorem dX6_putPending_21 : decode cX6_putPending 21 = .ok (.iastore, 1) := by decide +kernel
theorem dX6_putPending_22 : decode cX6_putPending 22 = .ok (.aload_n 0, 1) := by decide +kernel
theorem dX6_putPending_23 : decode cX6_putPending 23 = .ok (.dup, 1) := by decide +kernel
theorem dX6_putPending_24 : decode cX6_putPending 24 = .ok (.getfield 22, 3) := by decide +kernel
theorem dX6_putPending_27 : decode cX6_putPending 27 = .ok (.iconst 1, 1) := by decide +kernel
theorem dX6_putPending_28 : decode cX6_putPending 28 = .ok (.iadd, 1) := by decide +kernel
theorem dX6_putPending_29 : decode cX6_putPending 29 = .ok (.putfield 22, 3) := by decide +kernel
theorem dX6_putPending_32 : decode cX6_putPending 32 = .ok (.return_, 1) := by decide +kernel
theorem dX6_takeBracket_0 : decode cX6_takeBracket 0 = .ok (.aload_n 0, 1) := by decide +kernel
theorem dX6_takeBracket_1 : decode cX6_takeBracket 1 = .ok (.getfield 25, 3) := by decide +kernel
theorem dX6_takeBracket_4 : decode cX6_takeBracket 4 = .ok (.iconst 5, 1) := by decide +kernel
theorem dX6_takeBracket_5 : decode cX6_takeBracket 5 = .ok (.if_icmp .ne 5, 3) := by decide +kernel
theorem dX6_takeBracket_8 : decode cX6_takeBracket 8 = .ok (.iconst 0, 1) := by decide +kernel
theorem dX6_takeBracket_9 : decode cX6_takeBracket 9 = .ok (.ireturn, 1) := by decide +kernel
theorem dX6_takeBracket_10 : decode cX6_takeBracket 10 = .ok (.aload_n 0, 1) := by decide +kernel
theorem dX6_takeBracket_11 : decode cX6_takeBracket 11 = .ok (.dup, 1) := by decide +kernel
theorem dX6_takeBracket_12 : decode cX6_takeBracket 12 = .ok (.getfield 25, 3) := by decide +kernel
theorem dX6_takeBracket_15 : decode cX6_takeBracket 15 = .ok (.iconst 1, 1) := by decide +kernel
theorem dX6_takeBracket_16 : decode cX6_takeBracket 16 = .ok (.iadd, 1) := by decide +kernel
theorem dX6_takeBracket_17 : decode cX6_takeBracket 17 = .ok (.putfield 25, 3) := by decide +kernel
theorem dX6_takeBracket_20 : decode cX6_takeBracket 20 = .ok (.aload_n 0, 1) := by decide +kernel
theorem dX6_takeBracket_21 : decode cX6_takeBracket 21 = .ok (.getfield 28, 3) := by decide +kernel
theorem dX6_takeBracket_24 : decode cX6_takeBracket 24 = .ok (.aload_n 0, 1) := by decide +kernel
theorem dX6_takeBracket_25 : decode cX6_takeBracket 25 = .ok (.getfield 25, 3) := by decide +kernel
theorem dX6_takeBracket_28 : decode cX6_takeBracket 28 = .ok (.iconst 0, 1) := by decide +kernel
theorem dX6_takeBracket_29 : decode cX6_takeBracket 29 = .ok (.bastore, 1) := by decide +kernel
theorem dX6_takeBracket_30 : decode cX6_takeBracket 30 = .ok (.aload_n 0, 1) := by decide +kernel
theorem dX6_takeBracket_31 : decode cX6_takeBracket 31 = .ok (.bipush 40, 2) := by decide +kernel
theorem dX6_takeBracket_33 : decode cX6_takeBracket 33 = .ok (.invokevirtual 56, 3) := by decide +kernel
theorem dX6_takeBracket_36 : decode cX6_takeBracket 36 = .ok (.iconst 1, 1) := by decide +kernel
theorem dX6_takeBracket_37 : decode cX6_takeBracket 37 = .ok (.ireturn, 1) := by decide +kernel
theorem dX6_levelOf_0 : decode cX6_levelOf 0 = .ok (.iload_n 0, 1) := by decide +kernel
theorem dX6_levelOf_1 : decode cX6_levelOf 1 = .ok (.lookupswitch 104 #[(33, 101), (38, 93), (42, 99), (43, 97), (45, 97), (60, 95), (61, 95), (62, 95), (124, 91), (126, 101)], 91) := by decide +kernel
theorem dX6_levelOf_92 : decode cX6_levelOf 92 = .ok (.iconst 1, 1) := by decide +kernel
theorem dX6_levelOf_93 : decode cX6_levelOf 93 = .ok (.ireturn, 1) := by decide +kernel
theorem dX6_levelOf_94 : decode cX6_levelOf 94 = .ok (.iconst 2, 1) := by decide +kernel
theorem dX6_levelOf_95 : decode cX6_levelOf 95 = .ok (.ireturn, 1) := by decide +kernel
theorem dX6_levelOf_96 : decode cX6_levelOf 96 = .ok (.iconst 3, 1) := by decide +kernel
theorem dX6_levelOf_97 : decode cX6_levelOf 97 = .ok (.ireturn, 1) := by decide +kernel
theorem dX6_levelOf_98 : decode cX6_levelOf 98 = .ok (.iconst 4, 1) := by decide +kernel
theorem dX6_levelOf_99 : decode cX6_levelOf 99 = .ok (.ireturn, 1) := by decide +kernel
theorem dX6_levelOf_100 : decode cX6_levelOf 100 = .ok (.iconst 5, 1) := by decide +kernel
theorem dX6_levelOf_101 : decode cX6_levelOf 101 = .ok (.ireturn, 1) := by decide +kernel
theorem dX6_levelOf_102 : decode cX6_levelOf 102 = .ok (.bipush 6, 2) := by decide +kernel
theorem dX6_levelOf_104 : decode cX6_levelOf 104 = .ok (.ireturn, 1) := by decide +kernel
theorem dX6_levelOf_105 : decode cX6_levelOf 105 = .ok (.iconst 0, 1) := by decide +kernel
theorem dX6_levelOf_106 : decode cX6_levelOf 106 = .ok (.ireturn, 1) := by decide +kernel
theorem dX6_putCode_0 : decode cX6_putCode 0 = .ok (.aload_n 0, 1) := by decide +kernel
theorem dX6_putCode_1 : decode cX6_putCode 1 = .ok (.getfield 15, 3) := by decide +kernel
theorem dX6_putCode_4 : decode cX6_putCode 4 = .ok (.aload_n 0, 1) := by decide +kernel
theorem dX6_putCode_5 : decode cX6_putCode 5 = .ok (.getfield 9, 3) := by decide +kernel
theorem dX6_putCode_8 : decode cX6_putCode 8 = .ok (.arraylength, 1) := by decide +kernel
theorem dX6_putCode_9 : decode cX6_putCode 9 = .ok (.if_icmp .ge 23, 3) := by decide +kernel
theorem dX6_putCode_12 : decode cX6_putCode 12 = .ok (.aload_n 0, 1) := by decide +kernel
theorem dX6_putCode_13 : decode cX6_putCode 13 = .ok (.getfield 9, 3) := by decide +kernel
theorem dX6_putCode_16 : decode cX6_putCode 16 = .ok (.aload_n 0, 1) := by decide +kernel
theorem dX6_putCode_17 : decode cX6_putCode 17 = .ok (.getfield 15, 3) := by decide +kernel
theorem dX6_putCode_20 : decode cX6_putCode 20 = .ok (.iload_n 1, 1) := by decide +kernel
theorem dX6_putCode_21 : decode cX6_putCode 21 = .ok (.iastore, 1) := by decide +kernel
theorem dX6_putCode_22 : decode cX6_putCode 22 = .ok (.aload_n 0, 1) := by decide +kernel
theorem dX6_putCode_23 : decode cX6_putCode 23 = .ok (.dup, 1) := by decide +kernel
theorem dX6_putCode_24 : decode cX6_putCode 24 = .ok (.getfield 15, 3) := by decide +kernel
theorem dX6_putCode_27 : decode cX6_putCode 27 = .ok (.iconst 1, 1) := by decide +kernel
theorem dX6_putCode_28 : decode cX6_putCode 28 = .ok (.iadd, 1) := by decide +kernel
theorem dX6_putCode_29 : decode cX6_putCode 29 = .ok (.putfield 15, 3) := by decide +kernel
theorem dX6_putCode_32 : decode cX6_putCode 32 = .ok (.return_, 1) := by decide +kernel
theorem dX6_closeDownTo_0 : decode cX6_closeDownTo 0 = .ok (.aload_n 0, 1) := by decide +kernel
theorem dX6_closeDownTo_1 : decode cX6_closeDownTo 1 = .ok (.getfield 22, 3) := by decide +kernel
theorem dX6_closeDownTo_4 : decode cX6_closeDownTo 4 = .ok (.iconst 1, 1) := by decide +kernel
theorem dX6_closeDownTo_5 : decode cX6_closeDownTo 5 = .ok (.isub, 1) := by decide +kernel
theorem dX6_closeDownTo_6 : decode cX6_closeDownTo 6 = .ok (.istore_n 2, 1) := by decide +kernel
theorem dX6_closeDownTo_7 : decode cX6_closeDownTo 7 = .ok (.iload_n 2, 1) := by decide +kernel
theorem dX6_closeDownTo_8 : decode cX6_closeDownTo 8 = .ok (.ifCond .lt 53, 3) := by decide +kernel
theorem dX6_closeDownTo_11 : decode cX6_closeDownTo 11 = .ok (.aload_n 0, 1) := by decide +kernel
theorem dX6_closeDownTo_12 : decode cX6_closeDownTo 12 = .ok (.getfield 19, 3) := by decide +kernel
theorem dX6_closeDownTo_15 : decode cX6_closeDownTo 15 = .ok (.iload_n 2, 1) := by decide +kernel
theorem dX6_closeDownTo_16 : decode cX6_closeDownTo 16 = .ok (.iaload, 1) := by decide +kernel
theorem dX6_closeDownTo_17 : decode cX6_closeDownTo 17 = .ok (.bipush 40, 2) := by decide +kernel
theorem dX6_closeDownTo_19 : decode cX6_closeDownTo 19 = .ok (.if_icmp .eq 16, 3) := by decide +kernel
theorem dX6_closeDownTo_22 : decode cX6_closeDownTo 22 = .ok (.aload_n 0, 1) := by decide +kernel
theorem dX6_closeDownTo_23 : decode cX6_closeDownTo 23 = .ok (.getfield 19, 3) := by decide +kernel
theorem dX6_closeDownTo_26 : decode cX6_closeDownTo 26 = .ok (.iload_n 2, 1) := by decide +kernel
theorem dX6_closeDownTo_27 : decode cX6_closeDownTo 27 = .ok (.iaload, 1) := by decide +kernel
theorem dX6_closeDownTo_28 : decode cX6_closeDownTo 28 = .ok (.invokestatic 83, 3) := by decide +kernel
theorem dX6_closeDownTo_31 : decode cX6_closeDownTo 31 = .ok (.iload_n 1, 1) := by decide +kernel
theorem dX6_closeDownTo_32 : decode cX6_closeDownTo 32 = .ok (.if_icmp .ge 4, 3) := by decide +kernel
theorem dX6_closeDownTo_35 : decode cX6_closeDownTo 35 = .ok (.return_, 1) := by decide +kernel
theorem dX6_closeDownTo_36 : decode cX6_closeDownTo 36 = .ok (.aload_n 0, 1) := by decide +kernel
theorem dX6_closeDownTo_37 : decode cX6_closeDownTo 37 = .ok (.sipush 2000, 3) := by decide +kernel
theorem dX6_closeDownTo_40 : decode cX6_closeDownTo 40 = .ok (.aload_n 0, 1) := by decide +kernel
theorem dX6_closeDownTo_41 : decode cX6_closeDownTo 41 = .ok (.getfield 19, 3) := by decide +kernel
theorem dX6_closeDownTo_44 : decode cX6_closeDownTo 44 = .ok (.iload_n 2, 1) := by decide +kernel
theorem dX6_closeDownTo_45 : decode cX6_closeDownTo 45 = .ok (.iaload, 1) := by decide +kernel
theorem dX6_closeDownTo_46 : decode cX6_closeDownTo 46 = .ok (.iadd, 1) := by decide +kernel
theorem dX6_closeDownTo_47 : decode cX6_closeDownTo 47 = .ok (.invokevirtual 66, 3) := by decide +kernel
theorem dX6_closeDownTo_50 : decode cX6_closeDownTo 50 = .ok (.aload_n 0, 1) := by decide +kernel
theorem dX6_closeDownTo_51 : decode cX6_closeDownTo 51 = .ok (.iload_n 2, 1) := by decide +kernel
theorem dX6_closeDownTo_52 : decode cX6_closeDownTo 52 = .ok (.putfield 22, 3) := by decide +kernel
theorem dX6_closeDownTo_55 : decode cX6_closeDownTo 55 = .ok (.iinc 2 (-1), 3) := by decide +kernel
theorem dX6_closeDownTo_58 : decode cX6_closeDownTo 58 = .ok (.goto (-51), 3) := by decide +kernel
theorem dX6_closeDownTo_61 : decode cX6_closeDownTo 61 = .ok (.return_, 1) := by decide +kernel
theorem dX6_isDigit_0 : decode cX6_isDigit 0 = .ok (.iload_n 0, 1) := by decide +kernel
theorem dX6_isDigit_1 : decode cX6_isDigit 1 = .ok (.bipush 48, 2) := by decide +kernel
theorem dX6_isDigit_3 : decode cX6_isDigit 3 = .ok (.if_icmp .lt 13, 3) := by decide +kernel
theorem dX6_isDigit_6 : decode cX6_isDigit 6 = .ok (.iload_n 0, 1) := by decide +kernel
theorem dX6_isDigit_7 : decode cX6_isDigit 7 = .ok (.bipush 57, 2) := by decide +kernel
theorem dX6_isDigit_9 : decode cX6_isDigit 9 = .ok (.if_icmp .gt 7, 3) := by decide +kernel
theorem dX6_isDigit_12 : decode cX6_isDigit 12 = .ok (.iconst 1, 1) := by decide +kernel
theorem dX6_isDigit_13 : decode cX6_isDigit 13 = .ok (.goto 4, 3) := by decide +kernel
theorem dX6_isDigit_16 : decode cX6_isDigit 16 = .ok (.iconst 0, 1) := by decide +kernel
theorem dX6_isDigit_17 : decode cX6_isDigit 17 = .ok (.ireturn, 1) := by decide +kernel
theorem dX6_takeClosing_0 : decode cX6_takeClosing 0 = .ok (.aload_n 0, 1) := by decide +kernel
theorem dX6_takeClosing_1 : decode cX6_takeClosing 1 = .ok (.getfield 25, 3) := by decide +kernel
theorem dX6_takeClosing_4 : decode cX6_takeClosing 4 = .ok (.ifCond .ne 5, 3) := by decide +kernel
theorem dX6_takeClosing_7 : decode cX6_takeClosing 7 = .ok (.iconst 0, 1) := by decide +kernel
theorem dX6_takeClosing_8 : decode cX6_takeClosing 8 = .ok (.ireturn, 1) := by decide +kernel
theorem dX6_takeClosing_9 : decode cX6_takeClosing 9 = .ok (.aload_n 0, 1) := by decide +kernel
theorem dX6_takeClosing_10 : decode cX6_takeClosing 10 = .ok (.iconst 0, 1) := by decide +kernel
theorem dX6_takeClosing_11 : decode cX6_takeClosing 11 = .ok (.invokevirtual 52, 3) := by decide +kernel
theorem dX6_takeClosing_14 : decode cX6_takeClosing 14 = .ok (.aload_n 0, 1) := by decide +kernel
theorem dX6_takeClosing_15 : decode cX6_takeClosing 15 = .ok (.aload_n 0, 1) := by decide +kernel
theorem dX6_takeClosing_16 : decode cX6_takeClosing 16 = .ok (.getfield 22, 3) := by decide +kernel
theorem dX6_takeClosing_19 : decode cX6_takeClosing 19 = .ok (.ifCond .le 12, 3) := by decide +kernel
theorem dX6_takeClosing_22 : decode cX6_takeClosing 22 = .ok (.aload_n 0, 1) := by decide +kernel
theorem dX6_takeClosing_23 : decode cX6_takeClosing 23 = .ok (.getfield 22, 3) := by decide +kernel
theorem dX6_takeClosing_26 : decode cX6_takeClosing 26 = .ok (.iconst 1, 1) := by decide +kernel
theorem dX6_takeClosing_27 : decode cX6_takeClosing 27 = .ok (.isub, 1) := by decide +kernel
theorem dX6_takeClosing_28 : decode cX6_takeClosing 28 = .ok (.goto 4, 3) := by decide +kernel
theorem dX6_takeClosing_31 : decode cX6_takeClosing 31 = .ok (.iconst 0, 1) := by decide +kernel
theorem dX6_takeClosing_32 : decode cX6_takeClosing 32 = .ok (.putfield 22, 3) := by decide +kernel
theorem dX6_takeClosing_35 : decode cX6_takeClosing 35 = .ok (.aload_n 0, 1) := by decide +kernel
theorem dX6_takeClosing_36 : decode cX6_takeClosing 36 = .ok (.dup, 1) := by decide +kernel
theorem dX6_takeClosing_37 : decode cX6_takeClosing 37 = .ok (.getfield 25, 3) := by decide +kernel
theorem dX6_takeClosing_40 : decode cX6_takeClosing 40 = .ok (.iconst 1, 1) := by decide +kernel
theorem dX6_takeClosing_41 : decode cX6_takeClosing 41 = .ok (.isub, 1) := by decide +kernel
theorem dX6_takeClosing_42 : decode cX6_takeClosing 42 = .ok (.putfield 25, 3) := by decide +kernel
theorem dX6_takeClosing_45 : decode cX6_takeClosing 45 = .ok (.iconst 1, 1) := by decide +kernel
theorem dX6_takeClosing_46 : decode cX6_takeClosing 46 = .ok (.ireturn, 1) := by decide +kernel
theorem dX6_takeDigit_0 : decode cX6_takeDigit 0 = .ok (.aload_n 0, 1) := by decide +kernel
theorem dX6_takeDigit_1 : decode cX6_takeDigit 1 = .ok (.getfield 36, 3) := by decide +kernel
theorem dX6_takeDigit_4 : decode cX6_takeDigit 4 = .ok (.ifCond .eq 18, 3) := by decide +kernel
theorem dX6_takeDigit_7 : decode cX6_takeDigit 7 = .ok (.aload_n 0, 1) := by decide +kernel
theorem dX6_takeDigit_8 : decode cX6_takeDigit 8 = .ok (.getfield 36, 3) := by decide +kernel
theorem dX6_takeDigit_11 : decode cX6_takeDigit 11 = .ok (.iconst 3, 1) := by decide +kernel
theorem dX6_takeDigit_12 : decode cX6_takeDigit 12 = .ok (.if_icmp .eq 10, 3) := by decide +kernel
theorem dX6_takeDigit_15 : decode cX6_takeDigit 15 = .ok (.aload_n 0, 1) := by decide +kernel
theorem dX6_takeDigit_16 : decode cX6_takeDigit 16 = .ok (.getfield 15, 3) := by decide +kernel
theorem dX6_takeDigit_19 : decode cX6_takeDigit 19 = .ok (.ifCond .ne 5, 3) := by decide +kernel
theorem dX6_takeDigit_22 : decode cX6_takeDigit 22 = .ok (.iconst 0, 1) := by decide +kernel
theorem dX6_takeDigit_23 : decode cX6_takeDigit 23 = .ok (.ireturn, 1) := by decide +kernel
theorem dX6_takeDigit_24 : decode cX6_takeDigit 24 = .ok (.aload_n 0, 1) := by decide +kernel
theorem dX6_takeDigit_25 : decode cX6_takeDigit 25 = .ok (.getfield 9, 3) := by decide +kernel
theorem dX6_takeDigit_28 : decode cX6_takeDigit 28 = .ok (.aload_n 0, 1) := by decide +kernel
theorem dX6_takeDigit_29 : decode cX6_takeDigit 29 = .ok (.getfield 15, 3) := by decide +kernel
theorem dX6_takeDigit_32 : decode cX6_takeDigit 32 = .ok (.iconst 1, 1) := by decide +kernel
theorem dX6_takeDigit_33 : decode cX6_takeDigit 33 = .ok (.isub, 1) := by decide +kernel
theorem dX6_takeDigit_34 : decode cX6_takeDigit 34 = .ok (.aload_n 0, 1) := by decide +kernel
theorem dX6_takeDigit_35 : decode cX6_takeDigit 35 = .ok (.getfield 9, 3) := by decide +kernel
theorem dX6_takeDigit_38 : decode cX6_takeDigit 38 = .ok (.aload_n 0, 1) := by decide +kernel
theorem dX6_takeDigit_39 : decode cX6_takeDigit 39 = .ok (.getfield 15, 3) := by decide +kernel
theorem dX6_takeDigit_42 : decode cX6_takeDigit 42 = .ok (.iconst 1, 1) := by decide +kernel
theorem dX6_takeDigit_43 : decode cX6_takeDigit 43 = .ok (.isub, 1) := by decide +kernel
theorem dX6_takeDigit_44 : decode cX6_takeDigit 44 = .ok (.iaload, 1) := by decide +kernel
theorem dX6_takeDigit_45 : decode cX6_takeDigit 45 = .ok (.bipush 10, 2) := by decide +kernel
theorem dX6_takeDigit_47 : decode cX6_takeDigit 47 = .ok (.imul, 1) := by decide +kernel
theorem dX6_takeDigit_48 : decode cX6_takeDigit 48 = .ok (.iload_n 1, 1) := by decide +kernel
theorem dX6_takeDigit_49 : decode cX6_takeDigit 49 = .ok (.bipush 48, 2) := by decide +kernel
theorem dX6_takeDigit_51 : decode cX6_takeDigit 51 = .ok (.isub, 1) := by decide +kernel
theorem dX6_takeDigit_52 : decode cX6_takeDigit 52 = .ok (.iadd, 1) := by decide +kernel
theorem dX6_takeDigit_53 : decode cX6_takeDigit 53 = .ok (.iastore, 1) := by decide +kernel
theorem dX6_takeDigit_54 : decode cX6_takeDigit 54 = .ok (.aload_n 0, 1) := by decide +kernel
theorem dX6_takeDigit_55 : decode cX6_takeDigit 55 = .ok (.dup, 1) := by decide +kernel
theorem dX6_takeDigit_56 : decode cX6_takeDigit 56 = .ok (.getfield 36, 3) := by decide +kernel
theorem dX6_takeDigit_59 : decode cX6_takeDigit 59 = .ok (.iconst 1, 1) := by decide +kernel
theorem dX6_takeDigit_60 : decode cX6_takeDigit 60 = .ok (.iadd, 1) := by decide +kernel
theorem dX6_takeDigit_61 : decode cX6_takeDigit 61 = .ok (.putfield 36, 3) := by decide +kernel
theorem dX6_takeDigit_64 : decode cX6_takeDigit 64 = .ok (.iconst 1, 1) := by decide +kernel
theorem dX6_takeDigit_65 : decode cX6_takeDigit 65 = .ok (.ireturn, 1) := by decide +kernel
theorem dX6_takeBehindThing_0 : decode cX6_takeBehindThing 0 = .ok (.iload_n 1, 1) := by decide +kernel
theorem dX6_takeBehindThing_1 : decode cX6_takeBehindThing 1 = .ok (.invokestatic 63, 3) := by decide +kernel
theorem dX6_takeBehindThing_4 : decode cX6_takeBehindThing 4 = .ok (.ifCond .eq 9, 3) := by decide +kernel
theorem dX6_takeBehindThing_7 : decode cX6_takeBehindThing 7 = .ok (.aload_n 0, 1) := by decide +kernel
theorem dX6_takeBehindThing_8 : decode cX6_takeBehindThing 8 = .ok (.iload_n 1, 1) := by decide +kernel
theorem dX6_takeBehindThing_9 : decode cX6_takeBehindThing 9 = .ok (.invokevirtual 77, 3) := by decide +kernel
theorem dX6_takeBehindThing_12 : decode cX6_takeBehindThing 12 = .ok (.ireturn, 1) := by decide +kernel
theorem dX6_takeBehindThing_13 : decode cX6_takeBehindThing 13 = .ok (.aload_n 0, 1) := by decide +kernel
theorem dX6_takeBehindThing_14 : decode cX6_takeBehindThing 14 = .ok (.iconst 0, 1) := by decide +kernel
theorem dX6_takeBehindThing_15 : decode cX6_takeBehindThing 15 = .ok (.putfield 36, 3) := by decide +kernel
theorem dX6_takeBehindThing_18 : decode cX6_takeBehindThing 18 = .ok (.iload_n 1, 1) := by decide +kernel
theorem dX6_takeBehindThing_19 : decode cX6_takeBehindThing 19 = .ok (.bipush 41, 2) := by decide +kernel
theorem dX6_takeBehindThing_21 : decode cX6_takeBehindThing 21 = .ok (.if_icmp .ne 8, 3) := by decide +kernel
theorem dX6_takeBehindThing_24 : decode cX6_takeBehindThing 24 = .ok (.aload_n 0, 1) := by decide +kernel
theorem dX6_takeBehindThing_25 : decode cX6_takeBehindThing 25 = .ok (.invokevirtual 80, 3) := by decide +kernel
theorem dX6_takeBehindThing_28 : decode cX6_takeBehindThing 28 = .ok (.ireturn, 1) := by decide +kernel
theorem dX6_takeBehindThing_29 : decode cX6_takeBehindThing 29 = .ok (.iload_n 1, 1) := by decide +kernel
theorem dX6_takeBehindThing_30 : decode cX6_takeBehindThing 30 = .ok (.invokestatic 83, 3) := by decide +kernel
theorem dX6_takeBehindThing_33 : decode cX6_takeBehindThing 33 = .ok (.istore_n 2, 1) := by decide +kernel
theorem dX6_takeBehindThing_34 : decode cX6_takeBehindThing 34 = .ok (.iload_n 2, 1) := by decide +kernel
theorem dX6_takeBehindThing_35 : decode cX6_takeBehindThing 35 = .ok (.iconst 3, 1) := by decide +kernel
theorem dX6_takeBehindThing_36 : decode cX6_takeBehindThing 36 = .ok (.if_icmp .ne 7, 3) := by decide +kernel
theorem dX6_takeBehindThing_39 : decode cX6_takeBehindThing 39 = .ok (.iconst 1, 1) := by decide +kernel
theorem dX6_takeBehindThing_40 : decode cX6_takeBehindThing 40 = .ok (.goto 4, 3) := by decide +kernel
theorem dX6_takeBehindThing_43 : decode cX6_takeBehindThing 43 = .ok (.iconst 0, 1) := by decide +kernel
theorem dX6_takeBehindThing_44 : decode cX6_takeBehindThing 44 = .ok (.istore_n 3, 1) := by decide +kernel
theorem dX6_takeBehindThing_45 : decode cX6_takeBehindThing 45 = .ok (.iload_n 2, 1) := by decide +kernel
theorem dX6_takeBehindThing_46 : decode cX6_takeBehindThing 46 = .ok (.ifCond .eq 25, 3) := by decide +kernel
theorem dX6_takeBehindThing_49 : decode cX6_takeBehindThing 49 = .ok (.iload_n 2, 1) := by decide +kernel
theorem dX6_takeBehindThing_50 : decode cX6_takeBehindThing 50 = .ok (.bipush 6, 2) := by decide +kernel
theorem dX6_takeBehindThing_52 : decode cX6_takeBehindThing 52 = .ok (.if_icmp .eq 19, 3) := by decide +kernel
theorem dX6_takeBehindThing_55 : decode cX6_takeBehindThing 55 = .ok (.iload_n 3, 1) := by decide +kernel
theorem dX6_takeBehindThing_56 : decode cX6_takeBehindThing 56 = .ok (.ifCond .eq 17, 3) := by decide +kernel
theorem dX6_takeBehindThing_59 : decode cX6_takeBehindThing 59 = .ok (.aload_n 0, 1) := by decide +kernel
theorem dX6_takeBehindThing_60 : decode cX6_takeBehindThing 60 = .ok (.getfield 28, 3) := by decide +kernel
theorem dX6_takeBehindThing_63 : decode cX6_takeBehindThing 63 = .ok (.aload_n 0, 1) := by decide +kernel
theorem dX6_takeBehindThing_64 : decode cX6_takeBehindThing 64 = .ok (.getfield 25, 3) := by decide +kernel
theorem dX6_takeBehindThing_67 : decode cX6_takeBehindThing 67 = .ok (.baload, 1) := by decide +kernel
theorem dX6_takeBehindThing_68 : decode cX6_takeBehindThing 68 = .ok (.ifCond .eq 5, 3) := by decide +kernel
theorem dX6_takeBehindThing_71 : decode cX6_takeBehindThing 71 = .ok (.iconst 0, 1) := by decide +kernel
theorem dX6_takeBehindThing_72 : decode cX6_takeBehindThing 72 = .ok (.ireturn, 1) := by decide +kernel
theorem dX6_takeBehindThing_73 : decode cX6_takeBehindThing 73 = .ok (.iload_n 2, 1) := by decide +kernel
theorem dX6_takeBehindThing_74 : decode cX6_takeBehindThing 74 = .ok (.iconst 3, 1) := by decide +kernel
theorem dX6_takeBehindThing_75 : decode cX6_takeBehindThing 75 = .ok (.if_icmp .gt 13, 3) := by decide +kernel
theorem dX6_takeBehindThing_78 : decode cX6_takeBehindThing 78 = .ok (.aload_n 0, 1) := by decide +kernel
theorem dX6_takeBehindThing_79 : decode cX6_takeBehindThing 79 = .ok (.getfield 28, 3) := by decide +kernel
theorem dX6_takeBehindThing_82 : decode cX6_takeBehindThing 82 = .ok (.aload_n 0, 1) := by decide +kernel
theorem dX6_takeBehindThing_83 : decode cX6_takeBehindThing 83 = .ok (.getfield 25, 3) := by decide +kernel
theorem dX6_takeBehindThing_86 : decode cX6_takeBehindThing 86 = .ok (.iload_n 3, 1) := by decide +kernel
theorem dX6_takeBehindThing_87 : decode cX6_takeBehindThing 87 = .ok (.bastore, 1) := by decide +kernel
theorem dX6_takeBehindThing_88 : decode cX6_takeBehindThing 88 = .ok (.aload_n 0, 1) := by decide +kernel
theorem dX6_takeBehindThing_89 : decode cX6_takeBehindThing 89 = .ok (.iload_n 2, 1) := by decide +kernel
theorem dX6_takeBehindThing_90 : decode cX6_takeBehindThing 90 = .ok (.invokevirtual 52, 3) := by decide +kernel
theorem dX6_takeBehindThing_93 : decode cX6_takeBehindThing 93 = .ok (.aload_n 0, 1) := by decide +kernel
theorem dX6_takeBehindThing_94 : decode cX6_takeBehindThing 94 = .ok (.iload_n 1, 1) := by decide +kernel
theorem dX6_takeBehindThing_95 : decode cX6_takeBehindThing 95 = .ok (.invokevirtual 56, 3) := by decide +kernel
theorem dX6_takeBehindThing_98 : decode cX6_takeBehindThing 98 = .ok (.aload_n 0, 1) := by decide +kernel
theorem dX6_takeBehindThing_99 : decode cX6_takeBehindThing 99 = .ok (.iconst 1, 1) := by decide +kernel
theorem dX6_takeBehindThing_100 : decode cX6_takeBehindThing 100 = .ok (.putfield 32, 3) := by decide +kernel
theorem dX6_takeBehindThing_103 : decode cX6_takeBehindThing 103 = .ok (.iconst 1, 1) := by decide +kernel
theorem dX6_takeBehindThing_104 : decode cX6_takeBehindThing 104 = .ok (.ireturn, 1) := by decide +kernel
theorem dX7_startPiece_0 : decode cX7_startPiece 0 = .ok (.aload_n 0, 1) := by decide +kernel
theorem dX7_startPiece_1 : decode cX7_startPiece 1 = .ok (.dup, 1) := by decide +kernel
theorem dX7_startPiece_2 : decode cX7_startPiece 2 = .ok (.getfield 15, 3) := by decide +kernel
theorem dX7_startPiece_5 : decode cX7_startPiece 5 = .ok (.iconst 1, 1) := by decide +kernel
theorem dX7_startPiece_6 : decode cX7_startPiece 6 = .ok (.iload_n 2, 1) := by decide +kernel
theorem dX7_startPiece_7 : decode cX7_startPiece 7 = .ok (.ishl, 1) := by decide +kernel
theorem dX7_startPiece_8 : decode cX7_startPiece 8 = .ok (.iconst (-1), 1) := by decide +kernel
theorem dX7_startPiece_9 : decode cX7_startPiece 9 = .ok (.ixor, 1) := by decide +kernel
theorem dX7_startPiece_10 : decode cX7_startPiece 10 = .ok (.iand, 1) := by decide +kernel
theorem dX7_startPiece_11 : decode cX7_startPiece 11 = .ok (.putfield 15, 3) := by decide +kernel
theorem dX7_startPiece_14 : decode cX7_startPiece 14 = .ok (.aload_n 0, 1) := by decide +kernel
theorem dX7_startPiece_15 : decode cX7_startPiece 15 = .ok (.dup, 1) := by decide +kernel
theorem dX7_startPiece_16 : decode cX7_startPiece 16 = .ok (.getfield 18, 3) := by decide +kernel
theorem dX7_startPiece_19 : decode cX7_startPiece 19 = .ok (.iconst 1, 1) := by decide +kernel
theorem dX7_startPiece_20 : decode cX7_startPiece 20 = .ok (.iload_n 2, 1) := by decide +kernel
theorem dX7_startPiece_21 : decode cX7_startPiece 21 = .ok (.ishl, 1) := by decide +kernel
theorem dX7_startPiece_22 : decode cX7_startPiece 22 = .ok (.iconst (-1), 1) := by decide +kernel
theorem dX7_startPiece_23 : decode cX7_startPiece 23 = .ok (.ixor, 1) := by decide +kernel
theorem dX7_startPiece_24 : decode cX7_startPiece 24 = .ok (.iand, 1) := by decide +kernel
theorem dX7_startPiece_25 : decode cX7_startPiece 25 = .ok (.putfield 18, 3) := by decide +kernel
theorem dX7_startPiece_28 : decode cX7_startPiece 28 = .ok (.aload_n 0, 1) := by decide +kernel
theorem dX7_startPiece_29 : decode cX7_startPiece 29 = .ok (.getfield 21, 3) := by decide +kernel
theorem dX7_startPiece_32 : decode cX7_startPiece 32 = .ok (.iload_n 2, 1) := by decide +kernel
theorem dX7_startPiece_33 : decode cX7_startPiece 33 = .ok (.aload_n 1, 1) := by decide +kernel
theorem dX7_startPiece_34 : decode cX7_startPiece 34 = .ok (.getfield 52, 3) := by decide +kernel
theorem dX7_startPiece_37 : decode cX7_startPiece 37 = .ok (.iload_n 2, 1) := by decide +kernel
theorem dX7_startPiece_38 : decode cX7_startPiece 38 = .ok (.iaload, 1) := by decide +kernel
theorem dX7_startPiece_39 : decode cX7_startPiece 39 = .ok (.iastore, 1) := by decide +kernel
theorem dX7_startPiece_40 : decode cX7_startPiece 40 = .ok (.aload_n 0, 1) := by decide +kernel
theorem dX7_startPiece_41 : decode cX7_startPiece 41 = .ok (.getfield 25, 3) := by decide +kernel
theorem dX7_startPiece_44 : decode cX7_startPiece 44 = .ok (.iload_n 2, 1) := by decide +kernel
theorem dX7_startPiece_45 : decode cX7_startPiece 45 = .ok (.aload_n 1, 1) := by decide +kernel
theorem dX7_startPiece_46 : decode cX7_startPiece 46 = .ok (.getfield 57, 3) := by decide +kernel
theorem dX7_startPiece_49 : decode cX7_startPiece 49 = .ok (.iload_n 2, 1) := by decide +kernel
theorem dX7_startPiece_50 : decode cX7_startPiece 50 = .ok (.iaload, 1) := by decide +kernel
theorem dX7_startPiece_51 : decode cX7_startPiece 51 = .ok (.iastore, 1) := by decide +kernel
theorem dX7_startPiece_52 : decode cX7_startPiece 52 = .ok (.aload_n 0, 1) := by decide +kernel
theorem dX7_startPiece_53 : decode cX7_startPiece 53 = .ok (.getfield 28, 3) := by decide +kernel
theorem dX7_startPiece_56 : decode cX7_startPiece 56 = .ok (.iload_n 2, 1) := by decide +kernel
theorem dX7_startPiece_57 : decode cX7_startPiece 57 = .ok (.iconst 0, 1) := by decide +kernel
theorem dX7_startPiece_58 : decode cX7_startPiece 58 = .ok (.iastore, 1) := by decide +kernel
theorem dX7_startPiece_59 : decode cX7_startPiece 59 = .ok (.aload_n 0, 1) := by decide +kernel
theorem dX7_startPiece_60 : decode cX7_startPiece 60 = .ok (.getfield 31, 3) := by decide +kernel
theorem dX7_startPiece_63 : decode cX7_startPiece 63 = .ok (.iload_n 2, 1) := by decide +kernel
theorem dX7_startPiece_64 : decode cX7_startPiece 64 = .ok (.iconst (-1), 1) := by decide +kernel
theorem dX7_startPiece_65 : decode cX7_startPiece 65 = .ok (.iastore, 1) := by decide +kernel
theorem dX7_startPiece_66 : decode cX7_startPiece 66 = .ok (.aload_n 0, 1) := by decide +kernel
theorem dX7_startPiece_67 : decode cX7_startPiece 67 = .ok (.getfield 34, 3) := by decide +kernel
theorem dX7_startPiece_70 : decode cX7_startPiece 70 = .ok (.iload_n 2, 1) := by decide +kernel
theorem dX7_startPiece_71 : decode cX7_startPiece 71 = .ok (.iconst 0, 1) := by decide +kernel
theorem dX7_startPiece_72 : decode cX7_startPiece 72 = .ok (.iastore, 1) := by decide +kernel
theorem dX7_startPiece_73 : decode cX7_startPiece 73 = .ok (.aload_n 0, 1) := by decide +kernel
theorem dX7_startPiece_74 : decode cX7_startPiece 74 = .ok (.getfield 37, 3) := by decide +kernel
theorem dX7_startPiece_77 : decode cX7_startPiece 77 = .ok (.iload_n 2, 1) := by decide +kernel
theorem dX7_startPiece_78 : decode cX7_startPiece 78 = .ok (.iconst 0, 1) := by decide +kernel
theorem dX7_startPiece_79 : decode cX7_startPiece 79 = .ok (.iastore, 1) := by decide +kernel
theorem dX7_startPiece_80 : decode cX7_startPiece 80 = .ok (.aload_n 0, 1) := by decide +kernel
theorem dX7_startPiece_81 : decode cX7_startPiece 81 = .ok (.getfield 40, 3) := by decide +kernel
theorem dX7_startPiece_84 : decode cX7_startPiece 84 = .ok (.iload_n 2, 1) := by decide +kernel
theorem dX7_startPiece_85 : decode cX7_startPiece 85 = .ok (.iconst 0, 1) := by decide +kernel
theorem dX7_startPiece_86 : decode cX7_startPiece 86 = .ok (.iastore, 1) := by decide +kernel
theorem dX7_startPiece_87 : decode cX7_startPiece 87 = .ok (.return_, 1) := by decide +kernel
theorem dX7_startAll_0 : decode cX7_startAll 0 = .ok (.aload_n 0, 1) := by decide +kernel
theorem dX7_startAll_1 : decode cX7_startAll 1 = .ok (.iload_n 2, 1) := by decide +kernel
theorem dX7_startAll_2 : decode cX7_startAll 2 = .ok (.putfield 9, 3) := by decide +kernel
theorem dX7_startAll_5 : decode cX7_startAll 5 = .ok (.iconst 0, 1) := by decide +kernel
theorem dX7_startAll_6 : decode cX7_startAll 6 = .ok (.istore_n 3, 1) := by decide +kernel
theorem dX7_startAll_7 : decode cX7_startAll 7 = .ok (.iload_n 3, 1) := by decide +kernel
theorem dX7_startAll_8 : decode cX7_startAll 8 = .ok (.aload_n 1, 1) := by decide +kernel
theorem dX7_startAll_9 : decode cX7_startAll 9 = .ok (.getfield 60, 3) := by decide +kernel
theorem dX7_startAll_12 : decode cX7_startAll 12 = .ok (.if_icmp .ge 15, 3) := by decide +kernel
theorem dX7_startAll_15 : decode cX7_startAll 15 = .ok (.aload_n 0, 1) := by decide +kernel
theorem dX7_startAll_16 : decode cX7_startAll 16 = .ok (.aload_n 1, 1) := by decide +kernel
theorem dX7_startAll_17 : decode cX7_startAll 17 = .ok (.iload_n 3, 1) := by decide +kernel
theorem dX7_startAll_18 : decode cX7_startAll 18 = .ok (.invokevirtual 63, 3) := by decide +kernel
theorem dX7_startAll_21 : decode cX7_startAll 21 = .ok (.iinc 3 1, 3) := by decide +kernel
theorem dX7_startAll_24 : decode cX7_startAll 24 = .ok (.goto (-17), 3) := by decide +kernel
theorem dX7_startAll_27 : decode cX7_startAll 27 = .ok (.aload_n 0, 1) := by decide +kernel
theorem dX7_startAll_28 : decode cX7_startAll 28 = .ok (.iconst 0, 1) := by decide +kernel
theorem dX7_startAll_29 : decode cX7_startAll 29 = .ok (.putfield 43, 3) := by decide +kernel
theorem dX7_startAll_32 : decode cX7_startAll 32 = .ok (.aload_n 0, 1) := by decide +kernel
theorem dX7_startAll_33 : decode cX7_startAll 33 = .ok (.iconst 0, 1) := by decide +kernel
theorem dX7_startAll_34 : decode cX7_startAll 34 = .ok (.putfield 49, 3) := by decide +kernel
theorem dX7_startAll_37 : decode cX7_startAll 37 = .ok (.return_, 1) := by decide +kernel
theorem dX7_copyFrom_0 : decode cX7_copyFrom 0 = .ok (.aload_n 0, 1) := by decide +kernel
theorem dX7_copyFrom_1 : decode cX7_copyFrom 1 = .ok (.aload_n 1, 1) := by decide +kernel
theorem dX7_copyFrom_2 : decode cX7_copyFrom 2 = .ok (.getfield 9, 3) := by decide +kernel
theorem dX7_copyFrom_5 : decode cX7_copyFrom 5 = .ok (.putfield 9, 3) := by decide +kernel
theorem dX7_copyFrom_8 : decode cX7_copyFrom 8 = .ok (.aload_n 0, 1) := by decide +kernel
theorem dX7_copyFrom_9 : decode cX7_copyFrom 9 = .ok (.aload_n 1, 1) := by decide +kernel
theorem dX7_copyFrom_10 : decode cX7_copyFrom 10 = .ok (.getfield 15, 3) := by decide +kernel
theorem dX7_copyFrom_13 : decode cX7_copyFrom 13 = .ok (.putfield 15, 3) := by decide +kernel
theorem dX7_copyFrom_16 : decode cX7_copyFrom 16 = .ok (.aload_n 0, 1) := by decide +kernel
theorem dX7_copyFrom_17 : decode cX7_copyFrom 17 = .ok (.aload_n 1, 1) := by decide +kernel
theorem dX7_copyFrom_18 : decode cX7_copyFrom 18 = .ok (.getfield 18, 3) := by decide +kernel
theorem dX7_copyFrom_21 : decode cX7_copyFrom 21 = .ok (.putfield 18, 3) := by decide +kernel
theorem dX7_copyFrom_24 : decode cX7_copyFrom 24 = .ok (.aload_n 1, 1) := by decide +kernel
theorem dX7_copyFrom_25 : decode cX7_copyFrom 25 = .ok (.getfield 21, 3) := by decide +kernel
theorem dX7_copyFrom_28 : decode cX7_copyFrom 28 = .ok (.iconst 0, 1) := by decide +kernel
theorem dX7_copyFrom_29 : decode cX7_copyFrom 29 = .ok (.aload_n 0, 1) := by decide +kernel
theorem dX7_copyFrom_30 : decode cX7_copyFrom 30 = .ok (.getfield 21, 3) := by decide +kernel
theorem dX7_copyFrom_33 : decode cX7_copyFrom 33 = .ok (.iconst 0, 1) := by decide +kernel
theorem dX7_copyFrom_34 : decode cX7_copyFrom 34 = .ok (.bipush 8, 2) := by decide +kernel
theorem dX7_copyFrom_36 : decode cX7_copyFrom 36 = .ok (.invokestatic 67, 3) := by decide +kernel
theorem dX7_copyFrom_39 : decode cX7_copyFrom 39 = .ok (.aload_n 1, 1) := by decide +kernel
theorem dX7_copyFrom_40 : decode cX7_copyFrom 40 = .ok (.getfield 25, 3) := by decide +kernel
theorem dX7_copyFrom_43 : decode cX7_copyFrom 43 = .ok (.iconst 0, 1) := by decide +kernel
theorem dX7_copyFrom_44 : decode cX7_copyFrom 44 = .ok (.aload_n 0, 1) := by decide +kernel
theorem dX7_copyFrom_45 : decode cX7_copyFrom 45 = .ok (.getfield 25, 3) := by decide +kernel
theorem dX7_copyFrom_48 : decode cX7_copyFrom 48 = .ok (.iconst 0, 1) := by decide +kernel
theorem dX7_copyFrom_49 : decode cX7_copyFrom 49 = .ok (.bipush 8, 2) := by decide +kernel
theorem dX7_copyFrom_51 : decode cX7_copyFrom 51 = .ok (.invokestatic 67, 3) := by decide +kernel
theorem dX7_copyFrom_54 : decode cX7_copyFrom 54 = .ok (.aload_n 1, 1) := by decide +kernel
theorem dX7_copyFrom_55 : decode cX7_copyFrom 55 = .ok (.getfield 28, 3) := by decide +kernel
theorem dX7_copyFrom_58 : decode cX7_copyFrom 58 = .ok (.iconst 0, 1) := by decide +kernel
theorem dX7_copyFrom_59 : decode cX7_copyFrom 59 = .ok (.aload_n 0, 1) := by decide +kernel
theorem dX7_copyFrom_60 : decode cX7_copyFrom 60 = .ok (.getfield 28, 3) := by decide +kernel
theorem dX7_copyFrom_63 : decode cX7_copyFrom 63 = .ok (.iconst 0, 1) := by decide +kernel
theorem dX7_copyFrom_64 : decode cX7_copyFrom 64 = .ok (.bipush 8, 2) := by decide +kernel
theorem dX7_copyFrom_66 : decode cX7_copyFrom 66 = .ok (.invokestatic 67, 3) := by decide +kernel
theorem dX7_copyFrom_69 : decode cX7_copyFrom 69 = .ok (.aload_n 1, 1) := by decide +kernel
theorem dX7_copyFrom_70 : decode cX7_copyFrom 70 = .ok (.getfield 31, 3) := by decide +kernel
theorem dX7_copyFrom_73 : decode cX7_copyFrom 73 = .ok (.iconst 0, 1) := by decide +kernel
theorem dX7_copyFrom_74 : decode cX7_copyFrom 74 = .ok (.aload_n 0, 1) := by decide +kernel
theorem dX7_copyFrom_75 : decode cX7_copyFrom 75 = .ok (.getfield 31, 3) := by decide +kernel
theorem dX7_copyFrom_78 : decode cX7_copyFrom 78 = .ok (.iconst 0, 1) := by decide +kernel
theorem dX7_copyFrom_79 : decode cX7_copyFrom 79 = .ok (.bipush 8, 2) := by decide +kernel
theorem dX7_copyFrom_81 : decode cX7_copyFrom 81 = .ok (.invokestatic 67, 3) := by decide +kernel
theorem dX7_copyFrom_84 : decode cX7_copyFrom 84 = .ok (.aload_n 1, 1) := by decide +kernel
theorem dX7_copyFrom_85 : decode cX7_copyFrom 85 = .ok (.getfield 34, 3) := by decide +kernel
theorem dX7_copyFrom_88 : decode cX7_copyFrom 88 = .ok (.iconst 0, 1) := by decide +kernel
theorem dX7_copyFrom_89 : decode cX7_copyFrom 89 = .ok (.aload_n 0, 1) := by decide +kernel
theorem dX7_copyFrom_90 : decode cX7_copyFrom 90 = .ok (.getfield 34, 3) := by decide +kernel
theorem dX7_copyFrom_93 : decode cX7_copyFrom 93 = .ok (.iconst 0, 1) := by decide +kernel
theorem dX7_copyFrom_94 : decode cX7_copyFrom 94 = .ok (.bipush 8, 2) := by decide +kernel
theorem dX7_copyFrom_96 : decode cX7_copyFrom 96 = .ok (.invokestatic 67, 3) := by decide +kernel
theorem dX7_copyFrom_99 : decode cX7_copyFrom 99 = .ok (.aload_n 1, 1) := by decide +kernel
theorem dX7_copyFrom_100 : decode cX7_copyFrom 100 = .ok (.getfield 37, 3) := by decide +kernel
theorem dX7_copyFrom_103 : decode cX7_copyFrom 103 = .ok (.iconst 0, 1) := by decide +kernel
theorem dX7_copyFrom_104 : decode cX7_copyFrom 104 = .ok (.aload_n 0, 1) := by decide +kernel
theorem dX7_copyFrom_105 : decode cX7_copyFrom 105 = .ok (.getfield 37, 3) := by decide +kernel
theorem dX7_copyFrom_108 : decode cX7_copyFrom 108 = .ok (.iconst 0, 1) := by decide +kernel
theorem dX7_copyFrom_109 : decode cX7_copyFrom 109 = .ok (.bipush 8, 2) := by decide +kernel
theorem dX7_copyFrom_111 : decode cX7_copyFrom 111 = .ok (.invokestatic 67, 3) := by decide +kernel
theorem dX7_copyFrom_114 : decode cX7_copyFrom 114 = .ok (.aload_n 1, 1) := by decide +kernel
theorem dX7_copyFrom_115 : decode cX7_copyFrom 115 = .ok (.getfield 40, 3) := by decide +kernel
theorem dX7_copyFrom_118 : decode cX7_copyFrom 118 = .ok (.iconst 0, 1) := by decide +kernel
theorem dX7_copyFrom_119 : decode cX7_copyFrom 119 = .ok (.aload_n 0, 1) := by decide +kernel
theorem dX7_copyFrom_120 : decode cX7_copyFrom 120 = .ok (.getfield 40, 3) := by decide +kernel
theorem dX7_copyFrom_123 : decode cX7_copyFrom 123 = .ok (.iconst 0, 1) := by decide +kernel
theorem dX7_copyFrom_124 : decode cX7_copyFrom 124 = .ok (.bipush 8, 2) := by decide +kernel
theorem dX7_copyFrom_126 : decode cX7_copyFrom 126 = .ok (.invokestatic 67, 3) := by decide +kernel
theorem dX7_copyFrom_129 : decode cX7_copyFrom 129 = .ok (.aload_n 0, 1) := by decide +kernel
theorem dX7_copyFrom_130 : decode cX7_copyFrom 130 = .ok (.aload_n 1, 1) := by decide +kernel
theorem dX7_copyFrom_131 : decode cX7_copyFrom 131 = .ok (.getfield 43, 3) := by decide +kernel
theorem dX7_copyFrom_134 : decode cX7_copyFrom 134 = .ok (.putfield 43, 3) := by decide +kernel
theorem dX7_copyFrom_137 : decode cX7_copyFrom 137 = .ok (.aload_n 1, 1) := by decide +kernel
theorem dX7_copyFrom_138 : decode cX7_copyFrom 138 = .ok (.getfield 46, 3) := by decide +kernel
theorem dX7_copyFrom_141 : decode cX7_copyFrom 141 = .ok (.iconst 0, 1) := by decide +kernel
theorem dX7_copyFrom_142 : decode cX7_copyFrom 142 = .ok (.aload_n 0, 1) := by decide +kernel
theorem dX7_copyFrom_143 : decode cX7_copyFrom 143 = .ok (.getfield 46, 3) := by decide +kernel
theorem dX7_copyFrom_146 : decode cX7_copyFrom 146 = .ok (.iconst 0, 1) := by decide +kernel
theorem dX7_copyFrom_147 : decode cX7_copyFrom 147 = .ok (.bipush 60, 2) := by decide +kernel
theorem dX7_copyFrom_149 : decode cX7_copyFrom 149 = .ok (.invokestatic 67, 3) := by decide +kernel
theorem dX7_copyFrom_152 : decode cX7_copyFrom 152 = .ok (.aload_n 0, 1) := by decide +kernel
theorem dX7_copyFrom_153 : decode cX7_copyFrom 153 = .ok (.aload_n 1, 1) := by decide +kernel
theorem dX7_copyFrom_154 : decode cX7_copyFrom 154 = .ok (.getfield 49, 3) := by decide +kernel
theorem dX7_copyFrom_157 : decode cX7_copyFrom 157 = .ok (.putfield 49, 3) := by decide +kernel
theorem dX7_copyFrom_160 : decode cX7_copyFrom 160 = .ok (.return_, 1) := by decide +kernel
theorem dX7_allHandings_0 : decode cX7_allHandings 0 = .ok (.iconst 0, 1) := by decide +kernel
theorem dX7_allHandings_1 : decode cX7_allHandings 1 = .ok (.istore_n 1, 1) := by decide +kernel
theorem dX7_allHandings_2 : decode cX7_allHandings 2 = .ok (.iconst 0, 1) := by decide +kernel
theorem dX7_allHandings_3 : decode cX7_allHandings 3 = .ok (.istore_n 2, 1) := by decide +kernel
theorem dX7_allHandings_4 : decode cX7_allHandings 4 = .ok (.iload_n 2, 1) := by decide +kernel
theorem dX7_allHandings_5 : decode cX7_allHandings 5 = .ok (.bipush 8, 2) := by decide +kernel
theorem dX7_allHandings_7 : decode cX7_allHandings 7 = .ok (.if_icmp .ge 18, 3) := by decide +kernel
theorem dX7_allHandings_10 : decode cX7_allHandings 10 = .ok (.iload_n 1, 1) := by decide +kernel
theorem dX7_allHandings_11 : decode cX7_allHandings 11 = .ok (.aload_n 0, 1) := by decide +kernel
theorem dX7_allHandings_12 : decode cX7_allHandings 12 = .ok (.getfield 37, 3) := by decide +kernel
theorem dX7_allHandings_15 : decode cX7_allHandings 15 = .ok (.iload_n 2, 1) := by decide +kernel
theorem dX7_allHandings_16 : decode cX7_allHandings 16 = .ok (.iaload, 1) := by decide +kernel
theorem dX7_allHandings_17 : decode cX7_allHandings 17 = .ok (.iadd, 1) := by decide +kernel
theorem dX7_allHandings_18 : decode cX7_allHandings 18 = .ok (.istore_n 1, 1) := by decide +kernel
theorem dX7_allHandings_19 : decode cX7_allHandings 19 = .ok (.iinc 2 1, 3) := by decide +kernel
theorem dX7_allHandings_22 : decode cX7_allHandings 22 = .ok (.goto (-18), 3) := by decide +kernel
theorem dX7_allHandings_25 : decode cX7_allHandings 25 = .ok (.iload_n 1, 1) := by decide +kernel
theorem dX7_allHandings_26 : decode cX7_allHandings 26 = .ok (.ireturn, 1) := by decide +kernel
noncomputable def f_X3_takeBack_41 (fu : Nat) (k2 : Int32 → Int32 → hM → Option (Unit × hM)) (x2 : Int32) (x3 : Int32) (m : hM) : Option (Unit × hM) :=
  hLet (x3 + 1) fun y3 =>
k2 x2 y3 m
set_option maxRecDepth 100000 in
set_option maxHeartbeats 4000000 in
theorem r_X3_takeBack_41 {G : hG} {X : hX} (C : Cx G X 2 cX3_takeBack 4 RX3 none) (K : Cr G X) (fu : Nat) (k2 : Int32 → Int32 → hM → Option (Unit × hM)) (hk2 : ∀ (x2 : Int32) (x3 : Int32) (m : hM), Rf vU G X 2 [(0, hA G 41), (1, hA G 1), (2, .int x2), (3, .int x3)] [] m (k2 x2 x3 m)) (x2 : Int32) (x3 : Int32) (m : hM) : Rf vU G X 41 [(0, hA G 41), (1, hA G 1), (2, .int x2), (3, .int x3)] [] m (f_X3_takeBack_41 fu k2 x2 x3 m) := by
  unfold f_X3_takeBack_41
  refine rf_iinc2 C (n := 44) (q := 3) (fun y3 => [(3, .int y3), (0, hA G 41), (1, hA G 1), (2, .int x2)]) dX3_takeBack_41 rfl rfl (by decide) (by decide) (fun _ => rfl) (fun y3 => ?_)
  refine rf_goto C (n := 2) dX3_takeBack_44 (by decide) ?_
  exact rf_lv _ [1, 2, 3, 0] rfl (hk2 _ _ _)
noncomputable def s_X3_takeBack_2 (fu : Nat) (ih : Int32 → Int32 → hM → Option (Unit × hM)) (x2 : Int32) (x3 : Int32) (m : hM) : Option (Unit × hM) :=
  if (gI m 41 4) ≤ x3 then (
some ((), m)) else (
if ¬ ((x2 >>> (x3 &&& 31)) &&& 1) = 1 then (
f_X3_takeBack_41 fu ih x2 x3 m) else (
if hIn x3 9 then (
if hIn x3 9 then (
if hIn x3 9 then (
hBd (f_X0_putKnown fu (gI m 42 (Int32.toNatClampNeg x3)) (gI m 43 (Int32.toNatClampNeg x3)) (gI m 45 (Int32.toNatClampNeg x3)) m) fun _ m7 =>
f_X3_takeBack_41 fu ih x2 x3 m7) else none) else none) else none))
noncomputable def f_X3_takeBack_2 (fu : Nat) (n : Nat) : Int32 → Int32 → hM → Option (Unit × hM) :=
  Nat.rec (motive := fun _ => Int32 → Int32 → hM → Option (Unit × hM)) (fun _ _ _ => none) (fun _ ih => s_X3_takeBack_2 fu ih) n
theorem f_X3_takeBack_2_s (fu : Nat) (n : Nat) (x2 : Int32) (x3 : Int32) (m : hM) : f_X3_takeBack_2 fu (n + 1) x2 x3 m = s_X3_takeBack_2 fu (f_X3_takeBack_2 fu n) x2 x3 m := rfl
set_option maxRecDepth 100000 in
set_option maxHeartbeats 4000000 in
theorem r_X3_takeBack_2 {G : hG} {X : hX} (C : Cx G X 2 cX3_takeBack 4 RX3 none) (K : Cr G X) (fu : Nat) (n : Nat) : ∀ (x2 : Int32) (x3 : Int32) (m : hM), Rf vU G X 2 [(0, hA G 41), (1, hA G 1), (2, .int x2), (3, .int x3)] [] m (f_X3_takeBack_2 fu n x2 x3 m) := by
  induction n with
  | zero => intros; exact rf_none
  | succ n ih =>
    intro x2 x3 m
    show Rf vU G X 2 [(0, hA G 41), (1, hA G 1), (2, .int x2), (3, .int x3)] [] m (s_X3_takeBack_2 fu (f_X3_takeBack_2 fu n) x2 x3 m)
    unfold s_X3_takeBack_2
    refine rf_iload_n C (n := 3) (q := 3) dX3_takeBack_2 rfl rfl rfl ?_
    refine rf_aload_n C (n := 4) (q := 0) dX3_takeBack_3 rfl rfl rfl ?_
    refine rf_getI C (n := 7) fl_RX3_24 ly_41 rfl dX3_takeBack_4 rfl ?_
    refine rf_icmp_ge C (tgt := 47) (n := 10) dX3_takeBack_7 (by decide) rfl (fun h1 => ?_) (fun h1 => ?_)
    · exact rf_vret C K dX3_takeBack_47
    · refine rf_iload_n C (n := 11) (q := 2) dX3_takeBack_10 rfl rfl rfl ?_
      refine rf_iload_n C (n := 12) (q := 3) dX3_takeBack_11 rfl rfl rfl ?_
      refine rf_ishr C (n := 13) dX3_takeBack_12 rfl ?_
      refine rf_iconst C (n := 14) (v := 1) dX3_takeBack_13 rfl (by decide) ?_
      refine rf_iand C (n := 15) dX3_takeBack_14 rfl ?_
      refine rf_iconst C (n := 16) (v := 1) dX3_takeBack_15 rfl (by decide) ?_
      refine rf_icmp_ne C (tgt := 41) (n := 19) dX3_takeBack_16 (by decide) rfl (fun h2 => ?_) (fun h2 => ?_)
      · exact rf_lv _ [0, 1, 2, 3] rfl (r_X3_takeBack_41 C K fu _ ih _ _ _)
      · refine rf_aload_n C (n := 20) (q := 1) dX3_takeBack_19 rfl rfl rfl ?_
        refine rf_aload_n C (n := 21) (q := 0) dX3_takeBack_20 rfl rfl rfl ?_
        refine rf_getS C (n := 24) fl_RX3_9 ly_41 rfl dX3_takeBack_21 rfl ?_
        refine rf_iload_n C (n := 25) (q := 3) dX3_takeBack_24 rfl rfl rfl ?_
        refine rf_guard (fun h4 => ?_)
        refine rf_iald C (n := 26) ly_42 h4 rfl dX3_takeBack_25 rfl ?_
        refine rf_aload_n C (n := 27) (q := 0) dX3_takeBack_26 rfl rfl rfl ?_
        refine rf_getS C (n := 30) fl_RX3_15 ly_41 rfl dX3_takeBack_27 rfl ?_
        refine rf_iload_n C (n := 31) (q := 3) dX3_takeBack_30 rfl rfl rfl ?_
        refine rf_guard (fun h5 => ?_)
        refine rf_iald C (n := 32) ly_43 h5 rfl dX3_takeBack_31 rfl ?_
        refine rf_aload_n C (n := 33) (q := 0) dX3_takeBack_32 rfl rfl rfl ?_
        refine rf_getS C (n := 36) fl_RX3_21 ly_41 rfl dX3_takeBack_33 rfl ?_
        refine rf_iload_n C (n := 37) (q := 3) dX3_takeBack_36 rfl rfl rfl ?_
        refine rf_guard (fun h6 => ?_)
        refine rf_iald C (n := 38) ly_45 h6 rfl dX3_takeBack_37 rfl ?_
        refine rf_callVv C (n := 41) (c_X0_putKnown G fu _ _ _ _) mw_RX3_39 ly_1 rfl ⟨by decide, by decide⟩ rfl (Nat.le_of_ble_eq_true rfl) rfl dX3_takeBack_38 rfl (fun _ m7 => ?_)
        exact rf_lv _ [0, 1, 2, 3] rfl (r_X3_takeBack_41 C K fu _ ih _ _ _)
noncomputable def f_X3_takeBack (fu : Nat) (x2 : Int32) (m : hM) : Option (Unit × hM) :=
  f_X3_takeBack_2 fu fu x2 0 m
set_option maxRecDepth 100000 in
set_option maxHeartbeats 4000000 in
theorem c_X3_takeBack (G : hG) (fu : Nat) (x2 : Int32) (m : hM) : Mt vU G 2 yX3_takeBack cX3_takeBack 4 none [hA G 41, hA G 1, .int x2] m (f_X3_takeBack fu x2 m) := by
  refine mt_of (by decide +kernel) (Nat.le_of_ble_eq_true rfl) (fun X C K => ?_)
  have C : Cx G X 2 cX3_takeBack 4 RX3 none := C
  show Rf vU G X 0 [(0, hA G 41), (1, hA G 1), (2, .int x2)] [] m _
  unfold f_X3_takeBack
  refine rf_iconst C (n := 1) (v := 0) dX3_takeBack_0 rfl (by decide) ?_
  refine rf_istore_n C (n := 2) [(3, .int 0), (0, hA G 41), (1, hA G 1), (2, .int x2)] dX3_takeBack_1 rfl rfl (by decide) rfl ?_
  exact rf_lv _ [1, 2, 3, 0] rfl (r_X3_takeBack_2 C K fu fu _ _ _)
noncomputable def f_X4_has (fu : Nat) (x1 : Int32) (m : hM) : Option (Int32 × hM) :=
  if x1 < 0 then (
some (0, m)) else (
if (gI m 18 6) ≤ x1 then (
some (0, m)) else (
some (1, m)))
set_option maxRecDepth 100000 in
set_option maxHeartbeats 4000000 in
theorem c_X4_has (G : hG) (fu : Nat) (x1 : Int32) (m : hM) : Mt vI G 1 yX4_has cX4_has 2 (some .boolean) [hA G 18, .int x1] m (f_X4_has fu x1 m) := by
  refine mt_of (by decide +kernel) (Nat.le_of_ble_eq_true rfl) (fun X C K => ?_)
  have C : Cx G X 1 cX4_has 2 RX4 (some .boolean) := C
  show Rf vI G X 0 [(0, hA G 18), (1, .int x1)] [] m _
  unfold f_X4_has
  refine rf_iload_n C (n := 1) (q := 1) dX4_has_0 rfl rfl rfl ?_
  refine rf_if_lt C (tgt := 16) (n := 4) dX4_has_1 (by decide) rfl (fun h1 => ?_) (fun h1 => ?_)
  · refine rf_iconst C (n := 17) (v := 0) dX4_has_16 rfl (by decide) ?_
    exact rf_zret C K (by decide) dX4_has_17
  · refine rf_iload_n C (n := 5) (q := 1) dX4_has_4 rfl rfl rfl ?_
    refine rf_aload_n C (n := 6) (q := 0) dX4_has_5 rfl rfl rfl ?_
    refine rf_getI C (n := 9) fl_RX4_30 ly_18 rfl dX4_has_6 rfl ?_
    refine rf_icmp_ge C (tgt := 16) (n := 12) dX4_has_9 (by decide) rfl (fun h2 => ?_) (fun h2 => ?_)
    · refine rf_iconst C (n := 17) (v := 0) dX4_has_16 rfl (by decide) ?_
      exact rf_zret C K (by decide) dX4_has_17
    · refine rf_iconst C (n := 13) (v := 1) dX4_has_12 rfl (by decide) ?_
      refine rf_goto C (n := 17) dX4_has_13 (by decide) ?_
      exact rf_zret C K (by decide) dX4_has_17
noncomputable def f_X4_all (fu : Nat) (m : hM) : Option (Int32 × hM) :=
  some ((1 <<< ((gI m 18 6) &&& 31)) - 1, m)
set_option maxRecDepth 100000 in
set_option maxHeartbeats 4000000 in
theorem c_X4_all (G : hG) (fu : Nat) (m : hM) : Mt vI G 1 yX4_all cX4_all 1 (some .int) [hA G 18] m (f_X4_all fu m) := by
  refine mt_of (by decide +kernel) (Nat.le_of_ble_eq_true rfl) (fun X C K => ?_)
  have C : Cx G X 1 cX4_all 1 RX4 (some .int) := C
  show Rf vI G X 0 [(0, hA G 18)] [] m _
  unfold f_X4_all
  refine rf_iconst C (n := 1) (v := 1) dX4_all_0 rfl (by decide) ?_
  refine rf_aload_n C (n := 2) (q := 0) dX4_all_1 rfl rfl rfl ?_
  refine rf_getI C (n := 5) fl_RX4_30 ly_18 rfl dX4_all_2 rfl ?_
  refine rf_ishl C (n := 6) dX4_all_5 rfl ?_
  refine rf_iconst C (n := 7) (v := 1) dX4_all_6 rfl (by decide) ?_
  refine rf_isub C (n := 8) dX4_all_7 rfl ?_
  exact rf_iret C K dX4_all_8
noncomputable def f_X5_take (fu : Nat) (x2 : Int32) (m : hM) : Option (Unit × hM) :=
  if 29 ≠ 26 ∧ ¬ (0 : Int32) < 0 ∧ ¬ (0 : Int32) < 0 ∧ ¬ (x2 : Int32) < 0 ∧ (Int32.toNatClampNeg 0) + (Int32.toNatClampNeg x2) ≤ 40 ∧ (Int32.toNatClampNeg 0) + (Int32.toNatClampNeg x2) ≤ 40 then (
hLet (cpI m 29 (Int32.toNatClampNeg 0) 26 (Int32.toNatClampNeg 0) (Int32.toNatClampNeg x2)) fun m2 =>
hLet (sI m2 25 1 x2) fun m3 =>
some ((), m3)) else none
set_option maxRecDepth 100000 in
set_option maxHeartbeats 4000000 in
theorem c_X5_take (G : hG) (fu : Nat) (x2 : Int32) (m : hM) : Mt vU G 2 yX5_take cX5_take 3 none [hA G 25, hA G 29, .int x2] m (f_X5_take fu x2 m) := by
  refine mt_of (by decide +kernel) (Nat.le_of_ble_eq_true rfl) (fun X C K => ?_)
  have C : Cx G X 2 cX5_take 3 RX5 none := C
  show Rf vU G X 0 [(0, hA G 25), (1, hA G 29), (2, .int x2)] [] m _
  unfold f_X5_take
  refine rf_aload_n C (n := 1) (q := 1) dX5_take_0 rfl rfl rfl ?_
  refine rf_iconst C (n := 2) (v := 0) dX5_take_1 rfl (by decide) ?_
  refine rf_aload_n C (n := 3) (q := 0) dX5_take_2 rfl rfl rfl ?_
  refine rf_getS C (n := 6) fl_RX5_9 ly_25 rfl dX5_take_3 rfl ?_
  refine rf_iconst C (n := 7) (v := 0) dX5_take_6 rfl (by decide) ?_
  refine rf_iload_n C (n := 8) (q := 2) dX5_take_7 rfl rfl rfl ?_
  refine rf_guard (fun h1 => ?_)
  refine rf_copy C (n := 11) cpw_RX5_25 ly_29 ly_26 h1.1 h1.2.1 h1.2.2.1 h1.2.2.2.1 h1.2.2.2.2.1 h1.2.2.2.2.2 (by decide) (Nat.le_of_ble_eq_true rfl) dX5_take_8 rfl ?_
  refine rf_letM (fun m2 => ?_)
  refine rf_aload_n C (n := 12) (q := 0) dX5_take_11 rfl rfl rfl ?_
  refine rf_iload_n C (n := 13) (q := 2) dX5_take_12 rfl rfl rfl ?_
  refine rf_putI C (n := 16) pl_RX5_15 ly_25 rfl ⟨rfl, rfl⟩ dX5_take_13 rfl ?_
  refine rf_letM (fun m3 => ?_)
  exact rf_vret C K dX5_take_16
noncomputable def f_X5_push (fu : Nat) (x1 : Int32) (m : hM) : Option (Unit × hM) :=
  if 40 ≤ (gI m 25 3) then (
some ((), m)) else (
if hIn (gI m 25 3) 40 then (
hLet (sI m 27 (Int32.toNatClampNeg (gI m 25 3)) x1) fun m3 =>
hLet (sI m3 25 3 ((gI m3 25 3) + 1)) fun m4 =>
some ((), m4)) else none)
set_option maxRecDepth 100000 in
set_option maxHeartbeats 4000000 in
theorem c_X5_push (G : hG) (fu : Nat) (x1 : Int32) (m : hM) : Mt vU G 1 yX5_push cX5_push 2 none [hA G 25, .int x1] m (f_X5_push fu x1 m) := by
  refine mt_of (by decide +kernel) (Nat.le_of_ble_eq_true rfl) (fun X C K => ?_)
  have C : Cx G X 1 cX5_push 2 RX5 none := C
  show Rf vU G X 0 [(0, hA G 25), (1, .int x1)] [] m _
  unfold f_X5_push
  refine rf_aload_n C (n := 1) (q := 0) dX5_push_0 rfl rfl rfl ?_
  refine rf_getI C (n := 4) fl_RX5_22 ly_25 rfl dX5_push_1 rfl ?_
  refine rf_aload_n C (n := 5) (q := 0) dX5_push_4 rfl rfl rfl ?_
  refine rf_getS C (n := 8) fl_RX5_19 ly_25 rfl dX5_push_5 rfl ?_
  refine rf_alen C (n := 9) (v := 40) ly_27 (by decide) (by decide) dX5_push_8 rfl ?_
  refine rf_icmp_ge C (tgt := 32) (n := 12) dX5_push_9 (by decide) rfl (fun h1 => ?_) (fun h1 => ?_)
  · exact rf_vret C K dX5_push_32
  · refine rf_aload_n C (n := 13) (q := 0) dX5_push_12 rfl rfl rfl ?_
    refine rf_getS C (n := 16) fl_RX5_19 ly_25 rfl dX5_push_13 rfl ?_
    refine rf_aload_n C (n := 17) (q := 0) dX5_push_16 rfl rfl rfl ?_
    refine rf_getI C (n := 20) fl_RX5_22 ly_25 rfl dX5_push_17 rfl ?_
    refine rf_iload_n C (n := 21) (q := 1) dX5_push_20 rfl rfl rfl ?_
    refine rf_guard (fun h2 => ?_)
    refine rf_iast C (n := 22) ly_27 h2 rfl dX5_push_21 rfl ?_
    refine rf_letM (fun m3 => ?_)
    refine rf_aload_n C (n := 23) (q := 0) dX5_push_22 rfl rfl rfl ?_
    refine rf_dup C (n := 24) dX5_push_23 rfl rfl ?_
    refine rf_getI C (n := 27) fl_RX5_22 ly_25 rfl dX5_push_24 rfl ?_
    refine rf_iconst C (n := 28) (v := 1) dX5_push_27 rfl (by decide) ?_
    refine rf_iadd C (n := 29) dX5_push_28 rfl ?_
    refine rf_putI C (n := 32) pl_RX5_22 ly_25 rfl ⟨rfl, rfl⟩ dX5_push_29 rfl ?_
    refine rf_letM (fun m4 => ?_)
    exact rf_vret C K dX5_push_32
noncomputable def f_X5_pop (fu : Nat) (m : hM) : Option (Int32 × hM) :=
  if ¬ (gI m 25 3) = 0 then (
hLet (sI m 25 3 ((gI m 25 3) - 1)) fun m2 =>
if hIn (gI m2 25 3) 40 then (
some (gI m2 27 (Int32.toNatClampNeg (gI m2 25 3)), m2)) else none) else (
some (0, m))
set_option maxRecDepth 100000 in
set_option maxHeartbeats 4000000 in
theorem c_X5_pop (G : hG) (fu : Nat) (m : hM) : Mt vI G 1 yX5_pop cX5_pop 1 (some .int) [hA G 25] m (f_X5_pop fu m) := by
  refine mt_of (by decide +kernel) (Nat.le_of_ble_eq_true rfl) (fun X C K => ?_)
  have C : Cx G X 1 cX5_pop 1 RX5 (some .int) := C
  show Rf vI G X 0 [(0, hA G 25)] [] m _
  unfold f_X5_pop
  refine rf_aload_n C (n := 1) (q := 0) dX5_pop_0 rfl rfl rfl ?_
  refine rf_getI C (n := 4) fl_RX5_22 ly_25 rfl dX5_pop_1 rfl ?_
  refine rf_if_ne C (tgt := 9) (n := 7) dX5_pop_4 (by decide) rfl (fun h1 => ?_) (fun h1 => ?_)
  · refine rf_aload_n C (n := 10) (q := 0) dX5_pop_9 rfl rfl rfl ?_
    refine rf_dup C (n := 11) dX5_pop_10 rfl rfl ?_
    refine rf_getI C (n := 14) fl_RX5_22 ly_25 rfl dX5_pop_11 rfl ?_
    refine rf_iconst C (n := 15) (v := 1) dX5_pop_14 rfl (by decide) ?_
    refine rf_isub C (n := 16) dX5_pop_15 rfl ?_
    refine rf_putI C (n := 19) pl_RX5_22 ly_25 rfl ⟨rfl, rfl⟩ dX5_pop_16 rfl ?_
    refine rf_letM (fun m2 => ?_)
    refine rf_aload_n C (n := 20) (q := 0) dX5_pop_19 rfl rfl rfl ?_
    refine rf_getS C (n := 23) fl_RX5_19 ly_25 rfl dX5_pop_20 rfl ?_
    refine rf_aload_n C (n := 24) (q := 0) dX5_pop_23 rfl rfl rfl ?_
    refine rf_getI C (n := 27) fl_RX5_22 ly_25 rfl dX5_pop_24 rfl ?_
    refine rf_guard (fun h3 => ?_)
    refine rf_iald C (n := 28) ly_27 h3 rfl dX5_pop_27 rfl ?_
    exact rf_iret C K dX5_pop_28
  · refine rf_iconst C (n := 8) (v := 0) dX5_pop_7 rfl (by decide) ?_
    exact rf_iret C K dX5_pop_8
noncomputable def f_X5_joined (fu : Nat) (x0 : Int32) (x1 : Int32) (x2 : Int32) (m : hM) : Option (Int32 × hM) :=
  if x0 = 38 then (
if x1 = 0 then (
some (0, m)) else (
if x2 = 0 then (
some (0, m)) else (
some (1, m)))) else if x0 = 43 then (
some (x1 + x2, m)) else if x0 = 45 then (
some (x1 - x2, m)) else if x0 = 60 then (
if x2 ≤ x1 then (
some (0, m)) else (
some (1, m))) else if x0 = 61 then (
if ¬ x1 = x2 then (
some (0, m)) else (
some (1, m))) else if x0 = 62 then (
if x1 ≤ x2 then (
some (0, m)) else (
some (1, m))) else if x0 = 124 then (
if ¬ x1 = 0 then (
some (1, m)) else (
if x2 = 0 then (
some (0, m)) else (
some (1, m)))) else (
some (x1 * x2, m))
set_option maxRecDepth 100000 in
set_option maxHeartbeats 4000000 in
theorem c_X5_joined (G : hG) (fu : Nat) (x0 : Int32) (x1 : Int32) (x2 : Int32) (m : hM) : Mt vI G 1 yX5_joined cX5_joined 3 (some .int) [.int x0, .int x1, .int x2] m (f_X5_joined fu x0 x1 x2 m) := by
  refine mt_of (by decide +kernel) (Nat.le_of_ble_eq_true rfl) (fun X C K => ?_)
  have C : Cx G X 1 cX5_joined 3 RX5 (some .int) := C
  show Rf vI G X 0 [(0, .int x0), (1, .int x1), (2, .int x2)] [] m _
  unfold f_X5_joined
  refine rf_iload_n C (n := 1) (q := 0) dX5_joined_0 rfl rfl rfl ?_
  refine rf_sw (fun h1 => ?_) (fun h1 => ?_)
  · refine rf_lookIn C (n := 82) (off := 81) dX5_joined_1 h1 (by decide) (by decide) (by decide) ?_
    refine rf_iload_n C (n := 83) (q := 1) dX5_joined_82 rfl rfl rfl ?_
    refine rf_if_eq C (tgt := 94) (n := 86) dX5_joined_83 (by decide) rfl (fun h2 => ?_) (fun h2 => ?_)
    · refine rf_iconst C (n := 95) (v := 0) dX5_joined_94 rfl (by decide) ?_
      exact rf_iret C K dX5_joined_95
    · refine rf_iload_n C (n := 87) (q := 2) dX5_joined_86 rfl rfl rfl ?_
      refine rf_if_eq C (tgt := 94) (n := 90) dX5_joined_87 (by decide) rfl (fun h3 => ?_) (fun h3 => ?_)
      · refine rf_iconst C (n := 95) (v := 0) dX5_joined_94 rfl (by decide) ?_
        exact rf_iret C K dX5_joined_95
      · refine rf_iconst C (n := 91) (v := 1) dX5_joined_90 rfl (by decide) ?_
        refine rf_goto C (n := 95) dX5_joined_91 (by decide) ?_
        exact rf_iret C K dX5_joined_95
  refine rf_sw (fun h4 => ?_) (fun h4 => ?_)
  · refine rf_lookIn C (n := 129) (off := 128) dX5_joined_1 h4 (by decide) (by decide) (by decide) ?_
    refine rf_iload_n C (n := 130) (q := 1) dX5_joined_129 rfl rfl rfl ?_
    refine rf_iload_n C (n := 131) (q := 2) dX5_joined_130 rfl rfl rfl ?_
    refine rf_iadd C (n := 132) dX5_joined_131 rfl ?_
    exact rf_iret C K dX5_joined_132
  refine rf_sw (fun h5 => ?_) (fun h5 => ?_)
  · refine rf_lookIn C (n := 133) (off := 132) dX5_joined_1 h5 (by decide) (by decide) (by decide) ?_
    refine rf_iload_n C (n := 134) (q := 1) dX5_joined_133 rfl rfl rfl ?_
    refine rf_iload_n C (n := 135) (q := 2) dX5_joined_134 rfl rfl rfl ?_
    refine rf_isub C (n := 136) dX5_joined_135 rfl ?_
    exact rf_iret C K dX5_joined_136
  refine rf_sw (fun h6 => ?_) (fun h6 => ?_)
  · refine rf_lookIn C (n := 96) (off := 95) dX5_joined_1 h6 (by decide) (by decide) (by decide) ?_
    refine rf_iload_n C (n := 97) (q := 1) dX5_joined_96 rfl rfl rfl ?_
    refine rf_iload_n C (n := 98) (q := 2) dX5_joined_97 rfl rfl rfl ?_
    refine rf_icmp_ge C (tgt := 105) (n := 101) dX5_joined_98 (by decide) rfl (fun h7 => ?_) (fun h7 => ?_)
    · refine rf_iconst C (n := 106) (v := 0) dX5_joined_105 rfl (by decide) ?_
      exact rf_iret C K dX5_joined_106
    · refine rf_iconst C (n := 102) (v := 1) dX5_joined_101 rfl (by decide) ?_
      refine rf_goto C (n := 106) dX5_joined_102 (by decide) ?_
      exact rf_iret C K dX5_joined_106
  refine rf_sw (fun h8 => ?_) (fun h8 => ?_)
  · refine rf_lookIn C (n := 118) (off := 117) dX5_joined_1 h8 (by decide) (by decide) (by decide) ?_
    refine rf_iload_n C (n := 119) (q := 1) dX5_joined_118 rfl rfl rfl ?_
    refine rf_iload_n C (n := 120) (q := 2) dX5_joined_119 rfl rfl rfl ?_
    refine rf_icmp_ne C (tgt := 127) (n := 123) dX5_joined_120 (by decide) rfl (fun h9 => ?_) (fun h9 => ?_)
    · refine rf_iconst C (n := 128) (v := 0) dX5_joined_127 rfl (by decide) ?_
      exact rf_iret C K dX5_joined_128
    · refine rf_iconst C (n := 124) (v := 1) dX5_joined_123 rfl (by decide) ?_
      refine rf_goto C (n := 128) dX5_joined_124 (by decide) ?_
      exact rf_iret C K dX5_joined_128
  refine rf_sw (fun h10 => ?_) (fun h10 => ?_)
  · refine rf_lookIn C (n := 107) (off := 106) dX5_joined_1 h10 (by decide) (by decide) (by decide) ?_
    refine rf_iload_n C (n := 108) (q := 1) dX5_joined_107 rfl rfl rfl ?_
    refine rf_iload_n C (n := 109) (q := 2) dX5_joined_108 rfl rfl rfl ?_
    refine rf_icmp_le C (tgt := 116) (n := 112) dX5_joined_109 (by decide) rfl (fun h11 => ?_) (fun h11 => ?_)
    · refine rf_iconst C (n := 117) (v := 0) dX5_joined_116 rfl (by decide) ?_
      exact rf_iret C K dX5_joined_117
    · refine rf_iconst C (n := 113) (v := 1) dX5_joined_112 rfl (by decide) ?_
      refine rf_goto C (n := 117) dX5_joined_113 (by decide) ?_
      exact rf_iret C K dX5_joined_117
  refine rf_sw (fun h12 => ?_) (fun h12 => ?_)
  · refine rf_lookIn C (n := 68) (off := 67) dX5_joined_1 h12 (by decide) (by decide) (by decide) ?_
    refine rf_iload_n C (n := 69) (q := 1) dX5_joined_68 rfl rfl rfl ?_
    refine rf_if_ne C (tgt := 76) (n := 72) dX5_joined_69 (by decide) rfl (fun h13 => ?_) (fun h13 => ?_)
    · refine rf_iconst C (n := 77) (v := 1) dX5_joined_76 rfl (by decide) ?_
      refine rf_goto C (n := 81) dX5_joined_77 (by decide) ?_
      exact rf_iret C K dX5_joined_81
    · refine rf_iload_n C (n := 73) (q := 2) dX5_joined_72 rfl rfl rfl ?_
      refine rf_if_eq C (tgt := 80) (n := 76) dX5_joined_73 (by decide) rfl (fun h14 => ?_) (fun h14 => ?_)
      · refine rf_iconst C (n := 81) (v := 0) dX5_joined_80 rfl (by decide) ?_
        exact rf_iret C K dX5_joined_81
      · refine rf_iconst C (n := 77) (v := 1) dX5_joined_76 rfl (by decide) ?_
        refine rf_goto C (n := 81) dX5_joined_77 (by decide) ?_
        exact rf_iret C K dX5_joined_81
  refine rf_lookD C (n := 137) dX5_joined_1 [38, 43, 45, 60, 61, 62, 124] (by intro c hc; simp only [List.mem_cons, List.not_mem_nil, or_false] at hc; rcases hc with rfl | rfl | rfl | rfl | rfl | rfl | rfl <;> assumption) (by decide) (by decide) (by decide) ?_
  refine rf_iload_n C (n := 138) (q := 1) dX5_joined_137 rfl rfl rfl ?_
  refine rf_iload_n C (n := 139) (q := 2) dX5_joined_138 rfl rfl rfl ?_
  refine rf_imul C (n := 140) dX5_joined_139 rfl ?_
  exact rf_iret C K dX5_joined_140
noncomputable def f_X5_apply_21 (fu : Nat) (s1 : Int32) (m : hM) : Option (Unit × hM) :=
  hBd (f_X5_push fu s1 m) fun _ m12 =>
some ((), m12)
set_option maxRecDepth 100000 in
set_option maxHeartbeats 4000000 in
theorem r_X5_apply_21 {G : hG} {X : hX} (C : Cx G X 2 cX5_apply 3 RX5 none) (K : Cr G X) (fu : Nat) (s1 : Int32) (m : hM) : Rf vU G X 21 [] [.int s1, hA G 25] m (f_X5_apply_21 fu s1 m) := by
  unfold f_X5_apply_21
  refine rf_callVv C (n := 24) (c_X5_push G fu _ _) mw_RX5_35 ly_25 rfl ⟨by decide, by decide⟩ rfl (Nat.le_of_ble_eq_true rfl) rfl dX5_apply_21 rfl (fun _ m12 => ?_)
  refine rf_goto C (n := 55) dX5_apply_24 (by decide) ?_
  exact rf_vret C K dX5_apply_55
noncomputable def f_X5_apply (fu : Nat) (x1 : Int32) (m : hM) : Option (Unit × hM) :=
  hBd (f_X5_pop fu m) fun y1 m2 =>
if ¬ x1 = 33 then (
if ¬ x1 = 126 then (
hBd (f_X5_pop fu m2) fun y5 m6 =>
hBd (f_X5_joined fu x1 y5 y1 m6) fun y7 m8 =>
hBd (f_X5_push fu y7 m8) fun _ m9 =>
some ((), m9)) else (
hBd (f_X5_push fu (-y1) m2) fun _ m10 =>
some ((), m10))) else (
if ¬ y1 = 0 then (
f_X5_apply_21 fu 0 m2) else (
f_X5_apply_21 fu 1 m2))
set_option maxRecDepth 100000 in
set_option maxHeartbeats 4000000 in
theorem c_X5_apply (G : hG) (fu : Nat) (x1 : Int32) (m : hM) : Mt vU G 2 yX5_apply cX5_apply 3 none [hA G 25, .int x1] m (f_X5_apply fu x1 m) := by
  refine mt_of (by decide +kernel) (Nat.le_of_ble_eq_true rfl) (fun X C K => ?_)
  have C : Cx G X 2 cX5_apply 3 RX5 none := C
  show Rf vU G X 0 [(0, hA G 25), (1, .int x1)] [] m _
  unfold f_X5_apply
  refine rf_aload_n C (n := 1) (q := 0) dX5_apply_0 rfl rfl rfl ?_
  refine rf_callVi C (n := 4) (c_X5_pop G fu _) mw_RX5_31 ly_25 rfl ⟨by decide, by decide⟩ rfl (Nat.le_of_ble_eq_true rfl) rfl dX5_apply_1 rfl (fun y1 m2 => ?_)
  refine rf_istore_n C (n := 5) [(2, .int y1), (0, hA G 25), (1, .int x1)] dX5_apply_4 rfl rfl (by decide) rfl ?_
  refine rf_iload_n C (n := 6) (q := 2) dX5_apply_5 rfl rfl rfl ?_
  refine rf_bipush C (n := 8) (v := 33) dX5_apply_6 rfl (by decide) ?_
  refine rf_icmp_ne C (tgt := 27) (n := 11) dX5_apply_8 (by decide) rfl (fun h3 => ?_) (fun h3 => ?_)
  · refine rf_iload_n C (n := 28) (q := 2) dX5_apply_27 rfl rfl rfl ?_
    refine rf_bipush C (n := 30) (v := 126) dX5_apply_28 rfl (by decide) ?_
    refine rf_icmp_ne C (tgt := 42) (n := 33) dX5_apply_30 (by decide) rfl (fun h4 => ?_) (fun h4 => ?_)
    · refine rf_aload_n C (n := 43) (q := 1) dX5_apply_42 rfl rfl rfl ?_
      refine rf_iload_n C (n := 44) (q := 2) dX5_apply_43 rfl rfl rfl ?_
      refine rf_aload_n C (n := 45) (q := 1) dX5_apply_44 rfl rfl rfl ?_
      refine rf_callVi C (n := 48) (c_X5_pop G fu _) mw_RX5_31 ly_25 rfl ⟨by decide, by decide⟩ rfl (Nat.le_of_ble_eq_true rfl) rfl dX5_apply_45 rfl (fun y5 m6 => ?_)
      refine rf_iload_n C (n := 49) (q := 0) dX5_apply_48 rfl rfl rfl ?_
      refine rf_callSi C (n := 52) (c_X5_joined G fu _ _ _ _) sw_RX5_39 ⟨by decide, by decide⟩ rfl (Nat.le_of_ble_eq_true rfl) rfl dX5_apply_49 rfl (fun y7 m8 => ?_)
      refine rf_callVv C (n := 55) (c_X5_push G fu _ _) mw_RX5_35 ly_25 rfl ⟨by decide, by decide⟩ rfl (Nat.le_of_ble_eq_true rfl) rfl dX5_apply_52 rfl (fun _ m9 => ?_)
      exact rf_vret C K dX5_apply_55
    · refine rf_aload_n C (n := 34) (q := 1) dX5_apply_33 rfl rfl rfl ?_
      refine rf_iload_n C (n := 35) (q := 0) dX5_apply_34 rfl rfl rfl ?_
      refine rf_ineg C (n := 36) dX5_apply_35 rfl ?_
      refine rf_callVv C (n := 39) (c_X5_push G fu _ _) mw_RX5_35 ly_25 rfl ⟨by decide, by decide⟩ rfl (Nat.le_of_ble_eq_true rfl) rfl dX5_apply_36 rfl (fun _ m10 => ?_)
      refine rf_goto C (n := 55) dX5_apply_39 (by decide) ?_
      exact rf_vret C K dX5_apply_55
  · refine rf_aload_n C (n := 12) (q := 1) dX5_apply_11 rfl rfl rfl ?_
    refine rf_iload_n C (n := 13) (q := 0) dX5_apply_12 rfl rfl rfl ?_
    refine rf_if_ne C (tgt := 20) (n := 16) dX5_apply_13 (by decide) rfl (fun h11 => ?_) (fun h11 => ?_)
    · refine rf_iconst C (n := 21) (v := 0) dX5_apply_20 rfl (by decide) ?_
      exact rf_lv _ [] rfl (r_X5_apply_21 C K fu _ _)
    · refine rf_iconst C (n := 17) (v := 1) dX5_apply_16 rfl (by decide) ?_
      refine rf_goto C (n := 21) dX5_apply_17 (by decide) ?_
      exact rf_lv _ [] rfl (r_X5_apply_21 C K fu _ _)
noncomputable def f_X6_putPending (fu : Nat) (x1 : Int32) (m : hM) : Option (Unit × hM) :=
  if 40 ≤ (gI m 28 3) then (
some ((), m)) else (
if hIn (gI m 28 3) 40 then (
hLet (sI m 30 (Int32.toNatClampNeg (gI m 28 3)) x1) fun m3 =>
hLet (sI m3 28 3 ((gI m3 28 3) + 1)) fun m4 =>
some ((), m4)) else none)
set_option maxRecDepth 100000 in
set_option maxHeartbeats 4000000 in
theorem c_X6_putPending (G : hG) (fu : Nat) (x1 : Int32) (m : hM) : Mt vU G 1 yX6_putPending cX6_putPending 2 none [hA G 28, .int x1] m (f_X6_putPending fu x1 m) := by
  refine mt_of (by decide +kernel) (Nat.le_of_ble_eq_true rfl) (fun X C K => ?_)
  have C : Cx G X 1 cX6_putPending 2 RX6 none := C
  show Rf vU G X 0 [(0, hA G 28), (1, .int x1)] [] m _
  unfold f_X6_putPending
  refine rf_aload_n C (n := 1) (q := 0) dX6_putPending_0 rfl rfl rfl ?_
  refine rf_getI C (n := 4) fl_RX6_22 ly_28 rfl dX6_putPending_1 rfl ?_
  refine rf_aload_n C (n := 5) (q := 0) dX6_putPending_4 rfl rfl rfl ?_
  refine rf_getS C (n := 8) fl_RX6_19 ly_28 rfl dX6_putPending_5 rfl ?_
  refine rf_alen C (n := 9) (v := 40) ly_30 (by decide) (by decide) dX6_putPending_8 rfl ?_
  refine rf_icmp_ge C (tgt := 32) (n := 12) dX6_putPending_9 (by decide) rfl (fun h1 => ?_) (fun h1 => ?_)
  · exact rf_vret C K dX6_putPending_32
  · refine rf_aload_n C (n := 13) (q := 0) dX6_putPending_12 rfl rfl rfl ?_
    refine rf_getS C (n := 16) fl_RX6_19 ly_28 rfl dX6_putPending_13 rfl ?_
    refine rf_aload_n C (n := 17) (q := 0) dX6_putPending_16 rfl rfl rfl ?_
    refine rf_getI C (n := 20) fl_RX6_22 ly_28 rfl dX6_putPending_17 rfl ?_
    refine rf_iload_n C (n := 21) (q := 1) dX6_putPending_20 rfl rfl rfl ?_
    refine rf_guard (fun h2 => ?_)
    refine rf_iast C (n := 22) ly_30 h2 rfl dX6_putPending_21 rfl ?_
    refine rf_letM (fun m3 => ?_)
    refine rf_aload_n C (n := 23) (q := 0) dX6_putPending_22 rfl rfl rfl ?_
    refine rf_dup C (n := 24) dX6_putPending_23 rfl rfl ?_
    refine rf_getI C (n := 27) fl_RX6_22 ly_28 rfl dX6_putPending_24 rfl ?_
    refine rf_iconst C (n := 28) (v := 1) dX6_putPending_27 rfl (by decide) ?_
    refine rf_iadd C (n := 29) dX6_putPending_28 rfl ?_
    refine rf_putI C (n := 32) pl_RX6_22 ly_28 rfl ⟨rfl, rfl⟩ dX6_putPending_29 rfl ?_
    refine rf_letM (fun m4 => ?_)
    exact rf_vret C K dX6_putPending_32
noncomputable def f_X6_takeBracket (fu : Nat) (m : hM) : Option (Int32 × hM) :=
  if ¬ (gI m 28 4) = 5 then (
hLet (sI m 28 4 ((gI m 28 4) + 1)) fun m2 =>
if hIn (gI m2 28 4) 6 then (
hLet (sI m2 31 (Int32.toNatClampNeg (gI m2 28 4)) (vp_nar .boolean 0)) fun m4 =>
hBd (f_X6_putPending fu 40 m4) fun _ m5 =>
some (1, m5)) else none) else (
some (0, m))
set_option maxRecDepth 100000 in
set_option maxHeartbeats 4000000 in
theorem c_X6_takeBracket (G : hG) (fu : Nat) (m : hM) : Mt vI G 2 yX6_takeBracket cX6_takeBracket 1 (some .boolean) [hA G 28] m (f_X6_takeBracket fu m) := by
  refine mt_of (by decide +kernel) (Nat.le_of_ble_eq_true rfl) (fun X C K => ?_)
  have C : Cx G X 2 cX6_takeBracket 1 RX6 (some .boolean) := C
  show Rf vI G X 0 [(0, hA G 28)] [] m _
  unfold f_X6_takeBracket
  refine rf_aload_n C (n := 1) (q := 0) dX6_takeBracket_0 rfl rfl rfl ?_
  refine rf_getI C (n := 4) fl_RX6_25 ly_28 rfl dX6_takeBracket_1 rfl ?_
  refine rf_iconst C (n := 5) (v := 5) dX6_takeBracket_4 rfl (by decide) ?_
  refine rf_icmp_ne C (tgt := 10) (n := 8) dX6_takeBracket_5 (by decide) rfl (fun h1 => ?_) (fun h1 => ?_)
  · refine rf_aload_n C (n := 11) (q := 0) dX6_takeBracket_10 rfl rfl rfl ?_
    refine rf_dup C (n := 12) dX6_takeBracket_11 rfl rfl ?_
    refine rf_getI C (n := 15) fl_RX6_25 ly_28 rfl dX6_takeBracket_12 rfl ?_
    refine rf_iconst C (n := 16) (v := 1) dX6_takeBracket_15 rfl (by decide) ?_
    refine rf_iadd C (n := 17) dX6_takeBracket_16 rfl ?_
    refine rf_putI C (n := 20) pl_RX6_25 ly_28 rfl ⟨rfl, rfl⟩ dX6_takeBracket_17 rfl ?_
    refine rf_letM (fun m2 => ?_)
    refine rf_aload_n C (n := 21) (q := 0) dX6_takeBracket_20 rfl rfl rfl ?_
    refine rf_getS C (n := 24) fl_RX6_28 ly_28 rfl dX6_takeBracket_21 rfl ?_
    refine rf_aload_n C (n := 25) (q := 0) dX6_takeBracket_24 rfl rfl rfl ?_
    refine rf_getI C (n := 28) fl_RX6_25 ly_28 rfl dX6_takeBracket_25 rfl ?_
    refine rf_iconst C (n := 29) (v := 0) dX6_takeBracket_28 rfl (by decide) ?_
    refine rf_guard (fun h3 => ?_)
    refine rf_zast C (n := 30) ly_31 h3 rfl dX6_takeBracket_29 rfl ?_
    refine rf_letM (fun m4 => ?_)
    refine rf_aload_n C (n := 31) (q := 0) dX6_takeBracket_30 rfl rfl rfl ?_
    refine rf_bipush C (n := 33) (v := 40) dX6_takeBracket_31 rfl (by decide) ?_
    refine rf_callVv C (n := 36) (c_X6_putPending G fu _ _) mw_RX6_56 ly_28 rfl ⟨by decide, by decide⟩ rfl (Nat.le_of_ble_eq_true rfl) rfl dX6_takeBracket_33 rfl (fun _ m5 => ?_)
    refine rf_iconst C (n := 37) (v := 1) dX6_takeBracket_36 rfl (by decide) ?_
    exact rf_zret C K (by decide) dX6_takeBracket_37
  · refine rf_iconst C (n := 9) (v := 0) dX6_takeBracket_8 rfl (by decide) ?_
    exact rf_zret C K (by decide) dX6_takeBracket_9
noncomputable def f_X6_levelOf (fu : Nat) (x0 : Int32) (m : hM) : Option (Int32 × hM) :=
  if x0 = 33 then (
some (6, m)) else if x0 = 38 then (
some (2, m)) else if x0 = 42 then (
some (5, m)) else if x0 = 43 then (
some (4, m)) else if x0 = 45 then (
some (4, m)) else if x0 = 60 then (
some (3, m)) else if x0 = 61 then (
some (3, m)) else if x0 = 62 then (
some (3, m)) else if x0 = 124 then (
some (1, m)) else if x0 = 126 then (
some (6, m)) else (
some (0, m))
set_option maxRecDepth 100000 in
set_option maxHeartbeats 4000000 in
theorem c_X6_levelOf (G : hG) (fu : Nat) (x0 : Int32) (m : hM) : Mt vI G 1 yX6_levelOf cX6_levelOf 1 (some .int) [.int x0] m (f_X6_levelOf fu x0 m) := by
  refine mt_of (by decide +kernel) (Nat.le_of_ble_eq_true rfl) (fun X C K => ?_)
  have C : Cx G X 1 cX6_levelOf 1 RX6 (some .int) := C
  show Rf vI G X 0 [(0, .int x0)] [] m _
  unfold f_X6_levelOf
  refine rf_iload_n C (n := 1) (q := 0) dX6_levelOf_0 rfl rfl rfl ?_
  refine rf_sw (fun h1 => ?_) (fun h1 => ?_)
  · refine rf_lookIn C (n := 102) (off := 101) dX6_levelOf_1 h1 (by decide) (by decide) (by decide) ?_
    refine rf_bipush C (n := 104) (v := 6) dX6_levelOf_102 rfl (by decide) ?_
    exact rf_iret C K dX6_levelOf_104
  refine rf_sw (fun h2 => ?_) (fun h2 => ?_)
  · refine rf_lookIn C (n := 94) (off := 93) dX6_levelOf_1 h2 (by decide) (by decide) (by decide) ?_
    refine rf_iconst C (n := 95) (v := 2) dX6_levelOf_94 rfl (by decide) ?_
    exact rf_iret C K dX6_levelOf_95
  refine rf_sw (fun h3 => ?_) (fun h3 => ?_)
  · refine rf_lookIn C (n := 100) (off := 99) dX6_levelOf_1 h3 (by decide) (by decide) (by decide) ?_
    refine rf_iconst C (n := 101) (v := 5) dX6_levelOf_100 rfl (by decide) ?_
    exact rf_iret C K dX6_levelOf_101
  refine rf_sw (fun h4 => ?_) (fun h4 => ?_)
  · refine rf_lookIn C (n := 98) (off := 97) dX6_levelOf_1 h4 (by decide) (by decide) (by decide) ?_
    refine rf_iconst C (n := 99) (v := 4) dX6_levelOf_98 rfl (by decide) ?_
    exact rf_iret C K dX6_levelOf_99
  refine rf_sw (fun h5 => ?_) (fun h5 => ?_)
  · refine rf_lookIn C (n := 98) (off := 97) dX6_levelOf_1 h5 (by decide) (by decide) (by decide) ?_
    refine rf_iconst C (n := 99) (v := 4) dX6_levelOf_98 rfl (by decide) ?_
    exact rf_iret C K dX6_levelOf_99
  refine rf_sw (fun h6 => ?_) (fun h6 => ?_)
  · refine rf_lookIn C (n := 96) (off := 95) dX6_levelOf_1 h6 (by decide) (by decide) (by decide) ?_
    refine rf_iconst C (n := 97) (v := 3) dX6_levelOf_96 rfl (by decide) ?_
    exact rf_iret C K dX6_levelOf_97
  refine rf_sw (fun h7 => ?_) (fun h7 => ?_)
  · refine rf_lookIn C (n := 96) (off := 95) dX6_levelOf_1 h7 (by decide) (by decide) (by decide) ?_
    refine rf_iconst C (n := 97) (v := 3) dX6_levelOf_96 rfl (by decide) ?_
    exact rf_iret C K dX6_levelOf_97
  refine rf_sw (fun h8 => ?_) (fun h8 => ?_)
  · refine rf_lookIn C (n := 96) (off := 95) dX6_levelOf_1 h8 (by decide) (by decide) (by decide) ?_
    refine rf_iconst C (n := 97) (v := 3) dX6_levelOf_96 rfl (by decide) ?_
    exact rf_iret C K dX6_levelOf_97
  refine rf_sw (fun h9 => ?_) (fun h9 => ?_)
  · refine rf_lookIn C (n := 92) (off := 91) dX6_levelOf_1 h9 (by decide) (by decide) (by decide) ?_
    refine rf_iconst C (n := 93) (v := 1) dX6_levelOf_92 rfl (by decide) ?_
    exact rf_iret C K dX6_levelOf_93
  refine rf_sw (fun h10 => ?_) (fun h10 => ?_)
  · refine rf_lookIn C (n := 102) (off := 101) dX6_levelOf_1 h10 (by decide) (by decide) (by decide) ?_
    refine rf_bipush C (n := 104) (v := 6) dX6_levelOf_102 rfl (by decide) ?_
    exact rf_iret C K dX6_levelOf_104
  refine rf_lookD C (n := 105) dX6_levelOf_1 [33, 38, 42, 43, 45, 60, 61, 62, 124, 126] (by intro c hc; simp only [List.mem_cons, List.not_mem_nil, or_false] at hc; rcases hc with rfl | rfl | rfl | rfl | rfl | rfl | rfl | rfl | rfl | rfl <;> assumption) (by decide) (by decide) (by decide) ?_
  refine rf_iconst C (n := 106) (v := 0) dX6_levelOf_105 rfl (by decide) ?_
  exact rf_iret C K dX6_levelOf_106
noncomputable def f_X6_putCode (fu : Nat) (x1 : Int32) (m : hM) : Option (Unit × hM) :=
  if 40 ≤ (gI m 28 1) then (
some ((), m)) else (
if hIn (gI m 28 1) 40 then (
hLet (sI m 29 (Int32.toNatClampNeg (gI m 28 1)) x1) fun m3 =>
hLet (sI m3 28 1 ((gI m3 28 1) + 1)) fun m4 =>
some ((), m4)) else none)
set_option maxRecDepth 100000 in
set_option maxHeartbeats 4000000 in
theorem c_X6_putCode (G : hG) (fu : Nat) (x1 : Int32) (m : hM) : Mt vU G 1 yX6_putCode cX6_putCode 2 none [hA G 28, .int x1] m (f_X6_putCode fu x1 m) := by
  refine mt_of (by decide +kernel) (Nat.le_of_ble_eq_true rfl) (fun X C K => ?_)
  have C : Cx G X 1 cX6_putCode 2 RX6 none := C
  show Rf vU G X 0 [(0, hA G 28), (1, .int x1)] [] m _
  unfold f_X6_putCode
  refine rf_aload_n C (n := 1) (q := 0) dX6_putCode_0 rfl rfl rfl ?_
  refine rf_getI C (n := 4) fl_RX6_15 ly_28 rfl dX6_putCode_1 rfl ?_
  refine rf_aload_n C (n := 5) (q := 0) dX6_putCode_4 rfl rfl rfl ?_
  refine rf_getS C (n := 8) fl_RX6_9 ly_28 rfl dX6_putCode_5 rfl ?_
  refine rf_alen C (n := 9) (v := 40) ly_29 (by decide) (by decide) dX6_putCode_8 rfl ?_
  refine rf_icmp_ge C (tgt := 32) (n := 12) dX6_putCode_9 (by decide) rfl (fun h1 => ?_) (fun h1 => ?_)
  · exact rf_vret C K dX6_putCode_32
  · refine rf_aload_n C (n := 13) (q := 0) dX6_putCode_12 rfl rfl rfl ?_
    refine rf_getS C (n := 16) fl_RX6_9 ly_28 rfl dX6_putCode_13 rfl ?_
    refine rf_aload_n C (n := 17) (q := 0) dX6_putCode_16 rfl rfl rfl ?_
    refine rf_getI C (n := 20) fl_RX6_15 ly_28 rfl dX6_putCode_17 rfl ?_
    refine rf_iload_n C (n := 21) (q := 1) dX6_putCode_20 rfl rfl rfl ?_
    refine rf_guard (fun h2 => ?_)
    refine rf_iast C (n := 22) ly_29 h2 rfl dX6_putCode_21 rfl ?_
    refine rf_letM (fun m3 => ?_)
    refine rf_aload_n C (n := 23) (q := 0) dX6_putCode_22 rfl rfl rfl ?_
    refine rf_dup C (n := 24) dX6_putCode_23 rfl rfl ?_
    refine rf_getI C (n := 27) fl_RX6_15 ly_28 rfl dX6_putCode_24 rfl ?_
    refine rf_iconst C (n := 28) (v := 1) dX6_putCode_27 rfl (by decide) ?_
    refine rf_iadd C (n := 29) dX6_putCode_28 rfl ?_
    refine rf_putI C (n := 32) pl_RX6_15 ly_28 rfl ⟨rfl, rfl⟩ dX6_putCode_29 rfl ?_
    refine rf_letM (fun m4 => ?_)
    exact rf_vret C K dX6_putCode_32
noncomputable def s_X6_closeDownTo_7 (fu : Nat) (ih : Int32 → Int32 → hM → Option (Unit × hM)) (x1 : Int32) (x2 : Int32) (m : hM) : Option (Unit × hM) :=
  if x2 < 0 then (
some ((), m)) else (
if hIn x2 40 then (
if (gI m 30 (Int32.toNatClampNeg x2)) = 40 then (
some ((), m)) else (
if hIn x2 40 then (
hBd (f_X6_levelOf fu (gI m 30 (Int32.toNatClampNeg x2)) m) fun y6 m7 =>
if x1 ≤ y6 then (
if hIn x2 40 then (
hBd (f_X6_putCode fu (2000 + (gI m7 30 (Int32.toNatClampNeg x2))) m7) fun _ m10 =>
hLet (sI m10 28 3 x2) fun m11 =>
hLet (x2 + (-1)) fun y12 =>
ih x1 y12 m11) else none) else (
some ((), m7))) else none)) else none)
noncomputable def f_X6_closeDownTo_7 (fu : Nat) (n : Nat) : Int32 → Int32 → hM → Option (Unit × hM) :=
  Nat.rec (motive := fun _ => Int32 → Int32 → hM → Option (Unit × hM)) (fun _ _ _ => none) (fun _ ih => s_X6_closeDownTo_7 fu ih) n
theorem f_X6_closeDownTo_7_s (fu : Nat) (n : Nat) (x1 : Int32) (x2 : Int32) (m : hM) : f_X6_closeDownTo_7 fu (n + 1) x1 x2 m = s_X6_closeDownTo_7 fu (f_X6_closeDownTo_7 fu n) x1 x2 m := rfl
set_option maxRecDepth 100000 in
set_option maxHeartbeats 4000000 in
theorem r_X6_closeDownTo_7 {G : hG} {X : hX} (C : Cx G X 2 cX6_closeDownTo 3 RX6 none) (K : Cr G X) (fu : Nat) (n : Nat) : ∀ (x1 : Int32) (x2 : Int32) (m : hM), Rf vU G X 7 [(0, hA G 28), (1, .int x1), (2, .int x2)] [] m (f_X6_closeDownTo_7 fu n x1 x2 m) := by
  induction n with
  | zero => intros; exact rf_none
  | succ n ih =>
    intro x1 x2 m
    show Rf vU G X 7 [(0, hA G 28), (1, .int x1), (2, .int x2)] [] m (s_X6_closeDownTo_7 fu (f_X6_closeDownTo_7 fu n) x1 x2 m)
    unfold s_X6_closeDownTo_7
    refine rf_iload_n C (n := 8) (q := 2) dX6_closeDownTo_7 rfl rfl rfl ?_
    refine rf_if_lt C (tgt := 61) (n := 11) dX6_closeDownTo_8 (by decide) rfl (fun h2 => ?_) (fun h2 => ?_)
    · exact rf_vret C K dX6_closeDownTo_61
    · refine rf_aload_n C (n := 12) (q := 0) dX6_closeDownTo_11 rfl rfl rfl ?_
      refine rf_getS C (n := 15) fl_RX6_19 ly_28 rfl dX6_closeDownTo_12 rfl ?_
      refine rf_iload_n C (n := 16) (q := 2) dX6_closeDownTo_15 rfl rfl rfl ?_
      refine rf_guard (fun h3 => ?_)
      refine rf_iald C (n := 17) ly_30 h3 rfl dX6_closeDownTo_16 rfl ?_
      refine rf_bipush C (n := 19) (v := 40) dX6_closeDownTo_17 rfl (by decide) ?_
      refine rf_icmp_eq C (tgt := 35) (n := 22) dX6_closeDownTo_19 (by decide) rfl (fun h4 => ?_) (fun h4 => ?_)
      · exact rf_vret C K dX6_closeDownTo_35
      · refine rf_aload_n C (n := 23) (q := 0) dX6_closeDownTo_22 rfl rfl rfl ?_
        refine rf_getS C (n := 26) fl_RX6_19 ly_28 rfl dX6_closeDownTo_23 rfl ?_
        refine rf_iload_n C (n := 27) (q := 2) dX6_closeDownTo_26 rfl rfl rfl ?_
        refine rf_guard (fun h5 => ?_)
        refine rf_iald C (n := 28) ly_30 h5 rfl dX6_closeDownTo_27 rfl ?_
        refine rf_callSi C (n := 31) (c_X6_levelOf G fu _ _) sw_RX6_83 ⟨by decide, by decide⟩ rfl (Nat.le_of_ble_eq_true rfl) rfl dX6_closeDownTo_28 rfl (fun y6 m7 => ?_)
        refine rf_iload_n C (n := 32) (q := 1) dX6_closeDownTo_31 rfl rfl rfl ?_
        refine rf_icmp_ge C (tgt := 36) (n := 35) dX6_closeDownTo_32 (by decide) rfl (fun h8 => ?_) (fun h8 => ?_)
        · refine rf_aload_n C (n := 37) (q := 0) dX6_closeDownTo_36 rfl rfl rfl ?_
          refine rf_sipush C (n := 40) (v := 2000) dX6_closeDownTo_37 rfl (by decide) ?_
          refine rf_aload_n C (n := 41) (q := 0) dX6_closeDownTo_40 rfl rfl rfl ?_
          refine rf_getS C (n := 44) fl_RX6_19 ly_28 rfl dX6_closeDownTo_41 rfl ?_
          refine rf_iload_n C (n := 45) (q := 2) dX6_closeDownTo_44 rfl rfl rfl ?_
          refine rf_guard (fun h9 => ?_)
          refine rf_iald C (n := 46) ly_30 h9 rfl dX6_closeDownTo_45 rfl ?_
          refine rf_iadd C (n := 47) dX6_closeDownTo_46 rfl ?_
          refine rf_callVv C (n := 50) (c_X6_putCode G fu _ _) mw_RX6_66 ly_28 rfl ⟨by decide, by decide⟩ rfl (Nat.le_of_ble_eq_true rfl) rfl dX6_closeDownTo_47 rfl (fun _ m10 => ?_)
          refine rf_aload_n C (n := 51) (q := 0) dX6_closeDownTo_50 rfl rfl rfl ?_
          refine rf_iload_n C (n := 52) (q := 2) dX6_closeDownTo_51 rfl rfl rfl ?_
          refine rf_putI C (n := 55) pl_RX6_22 ly_28 rfl ⟨rfl, rfl⟩ dX6_closeDownTo_52 rfl ?_
          refine rf_letM (fun m11 => ?_)
          refine rf_iinc2 C (n := 58) (q := 2) (fun y12 => [(2, .int y12), (0, hA G 28), (1, .int x1)]) dX6_closeDownTo_55 rfl rfl (by decide) (by decide) (fun _ => rfl) (fun y12 => ?_)
          refine rf_goto C (n := 7) dX6_closeDownTo_58 (by decide) ?_
          exact rf_lv _ [1, 2, 0] rfl (ih _ _ _)
        · exact rf_vret C K dX6_closeDownTo_35
noncomputable def f_X6_closeDownTo (fu : Nat) (x1 : Int32) (m : hM) : Option (Unit × hM) :=
  hLet ((gI m 28 3) - 1) fun y1 =>
f_X6_closeDownTo_7 fu fu x1 y1 m
set_option maxRecDepth 100000 in
set_option maxHeartbeats 4000000 in
theorem c_X6_closeDownTo (G : hG) (fu : Nat) (x1 : Int32) (m : hM) : Mt vU G 2 yX6_closeDownTo cX6_closeDownTo 3 none [hA G 28, .int x1] m (f_X6_closeDownTo fu x1 m) := by
  refine mt_of (by decide +kernel) (Nat.le_of_ble_eq_true rfl) (fun X C K => ?_)
  have C : Cx G X 2 cX6_closeDownTo 3 RX6 none := C
  show Rf vU G X 0 [(0, hA G 28), (1, .int x1)] [] m _
  unfold f_X6_closeDownTo
  refine rf_aload_n C (n := 1) (q := 0) dX6_closeDownTo_0 rfl rfl rfl ?_
  refine rf_getI C (n := 4) fl_RX6_22 ly_28 rfl dX6_closeDownTo_1 rfl ?_
  refine rf_iconst C (n := 5) (v := 1) dX6_closeDownTo_4 rfl (by decide) ?_
  refine rf_isub C (n := 6) dX6_closeDownTo_5 rfl ?_
  refine rf_letI (fun y1 => ?_)
  refine rf_istore_n C (n := 7) [(2, .int y1), (0, hA G 28), (1, .int x1)] dX6_closeDownTo_6 rfl rfl (by decide) rfl ?_
  exact rf_lv _ [1, 2, 0] rfl (r_X6_closeDownTo_7 C K fu fu _ _ _)
noncomputable def f_X6_isDigit (fu : Nat) (x0 : Int32) (m : hM) : Option (Int32 × hM) :=
  if x0 < 48 then (
some (0, m)) else (
if 57 < x0 then (
some (0, m)) else (
some (1, m)))
set_option maxRecDepth 100000 in
set_option maxHeartbeats 4000000 in
theorem c_X6_isDigit (G : hG) (fu : Nat) (x0 : Int32) (m : hM) : Mt vI G 1 yX6_isDigit cX6_isDigit 1 (some .boolean) [.int x0] m (f_X6_isDigit fu x0 m) := by
  refine mt_of (by decide +kernel) (Nat.le_of_ble_eq_true rfl) (fun X C K => ?_)
  have C : Cx G X 1 cX6_isDigit 1 RX6 (some .boolean) := C
  show Rf vI G X 0 [(0, .int x0)] [] m _
  unfold f_X6_isDigit
  refine rf_iload_n C (n := 1) (q := 0) dX6_isDigit_0 rfl rfl rfl ?_
  refine rf_bipush C (n := 3) (v := 48) dX6_isDigit_1 rfl (by decide) ?_
  refine rf_icmp_lt C (tgt := 16) (n := 6) dX6_isDigit_3 (by decide) rfl (fun h1 => ?_) (fun h1 => ?_)
  · refine rf_iconst C (n := 17) (v := 0) dX6_isDigit_16 rfl (by decide) ?_
    exact rf_zret C K (by decide) dX6_isDigit_17
  · refine rf_iload_n C (n := 7) (q := 0) dX6_isDigit_6 rfl rfl rfl ?_
    refine rf_bipush C (n := 9) (v := 57) dX6_isDigit_7 rfl (by decide) ?_
    refine rf_icmp_gt C (tgt := 16) (n := 12) dX6_isDigit_9 (by decide) rfl (fun h2 => ?_) (fun h2 => ?_)
    · refine rf_iconst C (n := 17) (v := 0) dX6_isDigit_16 rfl (by decide) ?_
      exact rf_zret C K (by decide) dX6_isDigit_17
    · refine rf_iconst C (n := 13) (v := 1) dX6_isDigit_12 rfl (by decide) ?_
      refine rf_goto C (n := 17) dX6_isDigit_13 (by decide) ?_
      exact rf_zret C K (by decide) dX6_isDigit_17
noncomputable def f_X6_takeClosing_32 (fu : Nat) (s1 : Int32) (m : hM) : Option (Int32 × hM) :=
  hLet (sI m 28 3 s1) fun m4 =>
hLet (sI m4 28 4 ((gI m4 28 4) - 1)) fun m5 =>
some (1, m5)
set_option maxRecDepth 100000 in
set_option maxHeartbeats 4000000 in
theorem r_X6_takeClosing_32 {G : hG} {X : hX} (C : Cx G X 3 cX6_takeClosing 1 RX6 (some .boolean)) (K : Cr G X) (fu : Nat) (s1 : Int32) (m : hM) : Rf vI G X 32 [(0, hA G 28)] [.int s1, hA G 28] m (f_X6_takeClosing_32 fu s1 m) := by
  unfold f_X6_takeClosing_32
  refine rf_putI C (n := 35) pl_RX6_22 ly_28 rfl ⟨rfl, rfl⟩ dX6_takeClosing_32 rfl ?_
  refine rf_letM (fun m4 => ?_)
  refine rf_aload_n C (n := 36) (q := 0) dX6_takeClosing_35 rfl rfl rfl ?_
  refine rf_dup C (n := 37) dX6_takeClosing_36 rfl rfl ?_
  refine rf_getI C (n := 40) fl_RX6_25 ly_28 rfl dX6_takeClosing_37 rfl ?_
  refine rf_iconst C (n := 41) (v := 1) dX6_takeClosing_40 rfl (by decide) ?_
  refine rf_isub C (n := 42) dX6_takeClosing_41 rfl ?_
  refine rf_putI C (n := 45) pl_RX6_25 ly_28 rfl ⟨rfl, rfl⟩ dX6_takeClosing_42 rfl ?_
  refine rf_letM (fun m5 => ?_)
  refine rf_iconst C (n := 46) (v := 1) dX6_takeClosing_45 rfl (by decide) ?_
  exact rf_zret C K (by decide) dX6_takeClosing_46
noncomputable def f_X6_takeClosing (fu : Nat) (m : hM) : Option (Int32 × hM) :=
  if ¬ (gI m 28 4) = 0 then (
hBd (f_X6_closeDownTo fu 0 m) fun _ m2 =>
if (gI m2 28 3) ≤ 0 then (
f_X6_takeClosing_32 fu 0 m2) else (
f_X6_takeClosing_32 fu ((gI m2 28 3) - 1) m2)) else (
some (0, m))
set_option maxRecDepth 100000 in
set_option maxHeartbeats 4000000 in
theorem c_X6_takeClosing (G : hG) (fu : Nat) (m : hM) : Mt vI G 3 yX6_takeClosing cX6_takeClosing 1 (some .boolean) [hA G 28] m (f_X6_takeClosing fu m) := by
  refine mt_of (by decide +kernel) (Nat.le_of_ble_eq_true rfl) (fun X C K => ?_)
  have C : Cx G X 3 cX6_takeClosing 1 RX6 (some .boolean) := C
  show Rf vI G X 0 [(0, hA G 28)] [] m _
  unfold f_X6_takeClosing
  refine rf_aload_n C (n := 1) (q := 0) dX6_takeClosing_0 rfl rfl rfl ?_
  refine rf_getI C (n := 4) fl_RX6_25 ly_28 rfl dX6_takeClosing_1 rfl ?_
  refine rf_if_ne C (tgt := 9) (n := 7) dX6_takeClosing_4 (by decide) rfl (fun h1 => ?_) (fun h1 => ?_)
  · refine rf_aload_n C (n := 10) (q := 0) dX6_takeClosing_9 rfl rfl rfl ?_
    refine rf_iconst C (n := 11) (v := 0) dX6_takeClosing_10 rfl (by decide) ?_
    refine rf_callVv C (n := 14) (c_X6_closeDownTo G fu _ _) mw_RX6_52 ly_28 rfl ⟨by decide, by decide⟩ rfl (Nat.le_of_ble_eq_true rfl) rfl dX6_takeClosing_11 rfl (fun _ m2 => ?_)
    refine rf_aload_n C (n := 15) (q := 0) dX6_takeClosing_14 rfl rfl rfl ?_
    refine rf_aload_n C (n := 16) (q := 0) dX6_takeClosing_15 rfl rfl rfl ?_
    refine rf_getI C (n := 19) fl_RX6_22 ly_28 rfl dX6_takeClosing_16 rfl ?_
    refine rf_if_le C (tgt := 31) (n := 22) dX6_takeClosing_19 (by decide) rfl (fun h3 => ?_) (fun h3 => ?_)
    · refine rf_iconst C (n := 32) (v := 0) dX6_takeClosing_31 rfl (by decide) ?_
      exact rf_lv _ [0] rfl (r_X6_takeClosing_32 C K fu _ _)
    · refine rf_aload_n C (n := 23) (q := 0) dX6_takeClosing_22 rfl rfl rfl ?_
      refine rf_getI C (n := 26) fl_RX6_22 ly_28 rfl dX6_takeClosing_23 rfl ?_
      refine rf_iconst C (n := 27) (v := 1) dX6_takeClosing_26 rfl (by decide) ?_
      refine rf_isub C (n := 28) dX6_takeClosing_27 rfl ?_
      refine rf_goto C (n := 32) dX6_takeClosing_28 (by decide) ?_
      exact rf_lv _ [0] rfl (r_X6_takeClosing_32 C K fu _ _)
  · refine rf_iconst C (n := 8) (v := 0) dX6_takeClosing_7 rfl (by decide) ?_
    exact rf_zret C K (by decide) dX6_takeClosing_8
noncomputable def f_X6_takeDigit (fu : Nat) (x1 : Int32) (m : hM) : Option (Int32 × hM) :=
  if (gI m 28 7) = 0 then (
some (0, m)) else (
if (gI m 28 7) = 3 then (
some (0, m)) else (
if ¬ (gI m 28 1) = 0 then (
if hIn ((gI m 28 1) - 1) 40 then (
if hIn ((gI m 28 1) - 1) 40 then (
hLet (sI m 29 (Int32.toNatClampNeg ((gI m 28 1) - 1)) (((gI m 29 (Int32.toNatClampNeg ((gI m 28 1) - 1))) * 10) + (x1 - 48))) fun m6 =>
hLet (sI m6 28 7 ((gI m6 28 7) + 1)) fun m7 =>
some (1, m7)) else none) else none) else (
some (0, m))))
set_option maxRecDepth 100000 in
set_option maxHeartbeats 4000000 in
theorem c_X6_takeDigit (G : hG) (fu : Nat) (x1 : Int32) (m : hM) : Mt vI G 1 yX6_takeDigit cX6_takeDigit 2 (some .boolean) [hA G 28, .int x1] m (f_X6_takeDigit fu x1 m) := by
  refine mt_of (by decide +kernel) (Nat.le_of_ble_eq_true rfl) (fun X C K => ?_)
  have C : Cx G X 1 cX6_takeDigit 2 RX6 (some .boolean) := C
  show Rf vI G X 0 [(0, hA G 28), (1, .int x1)] [] m _
  unfold f_X6_takeDigit
  refine rf_aload_n C (n := 1) (q := 0) dX6_takeDigit_0 rfl rfl rfl ?_
  refine rf_getI C (n := 4) fl_RX6_36 ly_28 rfl dX6_takeDigit_1 rfl ?_
  refine rf_if_eq C (tgt := 22) (n := 7) dX6_takeDigit_4 (by decide) rfl (fun h1 => ?_) (fun h1 => ?_)
  · refine rf_iconst C (n := 23) (v := 0) dX6_takeDigit_22 rfl (by decide) ?_
    exact rf_zret C K (by decide) dX6_takeDigit_23
  · refine rf_aload_n C (n := 8) (q := 0) dX6_takeDigit_7 rfl rfl rfl ?_
    refine rf_getI C (n := 11) fl_RX6_36 ly_28 rfl dX6_takeDigit_8 rfl ?_
    refine rf_iconst C (n := 12) (v := 3) dX6_takeDigit_11 rfl (by decide) ?_
    refine rf_icmp_eq C (tgt := 22) (n := 15) dX6_takeDigit_12 (by decide) rfl (fun h2 => ?_) (fun h2 => ?_)
    · refine rf_iconst C (n := 23) (v := 0) dX6_takeDigit_22 rfl (by decide) ?_
      exact rf_zret C K (by decide) dX6_takeDigit_23
    · refine rf_aload_n C (n := 16) (q := 0) dX6_takeDigit_15 rfl rfl rfl ?_
      refine rf_getI C (n := 19) fl_RX6_15 ly_28 rfl dX6_takeDigit_16 rfl ?_
      refine rf_if_ne C (tgt := 24) (n := 22) dX6_takeDigit_19 (by decide) rfl (fun h3 => ?_) (fun h3 => ?_)
      · refine rf_aload_n C (n := 25) (q := 0) dX6_takeDigit_24 rfl rfl rfl ?_
        refine rf_getS C (n := 28) fl_RX6_9 ly_28 rfl dX6_takeDigit_25 rfl ?_
        refine rf_aload_n C (n := 29) (q := 0) dX6_takeDigit_28 rfl rfl rfl ?_
        refine rf_getI C (n := 32) fl_RX6_15 ly_28 rfl dX6_takeDigit_29 rfl ?_
        refine rf_iconst C (n := 33) (v := 1) dX6_takeDigit_32 rfl (by decide) ?_
        refine rf_isub C (n := 34) dX6_takeDigit_33 rfl ?_
        refine rf_aload_n C (n := 35) (q := 0) dX6_takeDigit_34 rfl rfl rfl ?_
        refine rf_getS C (n := 38) fl_RX6_9 ly_28 rfl dX6_takeDigit_35 rfl ?_
        refine rf_aload_n C (n := 39) (q := 0) dX6_takeDigit_38 rfl rfl rfl ?_
        refine rf_getI C (n := 42) fl_RX6_15 ly_28 rfl dX6_takeDigit_39 rfl ?_
        refine rf_iconst C (n := 43) (v := 1) dX6_takeDigit_42 rfl (by decide) ?_
        refine rf_isub C (n := 44) dX6_takeDigit_43 rfl ?_
        refine rf_guard (fun h4 => ?_)
        refine rf_iald C (n := 45) ly_29 h4 rfl dX6_takeDigit_44 rfl ?_
        refine rf_bipush C (n := 47) (v := 10) dX6_takeDigit_45 rfl (by decide) ?_
        refine rf_imul C (n := 48) dX6_takeDigit_47 rfl ?_
        refine rf_iload_n C (n := 49) (q := 1) dX6_takeDigit_48 rfl rfl rfl ?_
        refine rf_bipush C (n := 51) (v := 48) dX6_takeDigit_49 rfl (by decide) ?_
        refine rf_isub C (n := 52) dX6_takeDigit_51 rfl ?_
        refine rf_iadd C (n := 53) dX6_takeDigit_52 rfl ?_
        refine rf_guard (fun h5 => ?_)
        refine rf_iast C (n := 54) ly_29 h5 rfl dX6_takeDigit_53 rfl ?_
        refine rf_letM (fun m6 => ?_)
        refine rf_aload_n C (n := 55) (q := 0) dX6_takeDigit_54 rfl rfl rfl ?_
        refine rf_dup C (n := 56) dX6_takeDigit_55 rfl rfl ?_
        refine rf_getI C (n := 59) fl_RX6_36 ly_28 rfl dX6_takeDigit_56 rfl ?_
        refine rf_iconst C (n := 60) (v := 1) dX6_takeDigit_59 rfl (by decide) ?_
        refine rf_iadd C (n := 61) dX6_takeDigit_60 rfl ?_
        refine rf_putI C (n := 64) pl_RX6_36 ly_28 rfl ⟨rfl, rfl⟩ dX6_takeDigit_61 rfl ?_
        refine rf_letM (fun m7 => ?_)
        refine rf_iconst C (n := 65) (v := 1) dX6_takeDigit_64 rfl (by decide) ?_
        exact rf_zret C K (by decide) dX6_takeDigit_65
      · refine rf_iconst C (n := 23) (v := 0) dX6_takeDigit_22 rfl (by decide) ?_
        exact rf_zret C K (by decide) dX6_takeDigit_23
noncomputable def f_X6_takeBehindThing_88 (fu : Nat) (x1 : Int32) (x2 : Int32) (m : hM) : Option (Int32 × hM) :=
  hBd (f_X6_closeDownTo fu x2 m) fun _ m13 =>
hBd (f_X6_putPending fu x1 m13) fun _ m14 =>
hLet (sI m14 28 6 1) fun m15 =>
some (1, m15)
set_option maxRecDepth 100000 in
set_option maxHeartbeats 4000000 in
theorem r_X6_takeBehindThing_88 {G : hG} {X : hX} (C : Cx G X 4 cX6_takeBehindThing 4 RX6 (some .boolean)) (K : Cr G X) (fu : Nat) (x1 : Int32) (x2 : Int32) (m : hM) : Rf vI G X 88 [(0, hA G 28), (1, .int x1), (2, .int x2)] [] m (f_X6_takeBehindThing_88 fu x1 x2 m) := by
  unfold f_X6_takeBehindThing_88
  refine rf_aload_n C (n := 89) (q := 0) dX6_takeBehindThing_88 rfl rfl rfl ?_
  refine rf_iload_n C (n := 90) (q := 2) dX6_takeBehindThing_89 rfl rfl rfl ?_
  refine rf_callVv C (n := 93) (c_X6_closeDownTo G fu _ _) mw_RX6_52 ly_28 rfl ⟨by decide, by decide⟩ rfl (Nat.le_of_ble_eq_true rfl) rfl dX6_takeBehindThing_90 rfl (fun _ m13 => ?_)
  refine rf_aload_n C (n := 94) (q := 0) dX6_takeBehindThing_93 rfl rfl rfl ?_
  refine rf_iload_n C (n := 95) (q := 1) dX6_takeBehindThing_94 rfl rfl rfl ?_
  refine rf_callVv C (n := 98) (c_X6_putPending G fu _ _) mw_RX6_56 ly_28 rfl ⟨by decide, by decide⟩ rfl (Nat.le_of_ble_eq_true rfl) rfl dX6_takeBehindThing_95 rfl (fun _ m14 => ?_)
  refine rf_aload_n C (n := 99) (q := 0) dX6_takeBehindThing_98 rfl rfl rfl ?_
  refine rf_iconst C (n := 100) (v := 1) dX6_takeBehindThing_99 rfl (by decide) ?_
  refine rf_putI C (n := 103) pl_RX6_32 ly_28 rfl ⟨rfl, rfl⟩ dX6_takeBehindThing_100 rfl ?_
  refine rf_letM (fun m15 => ?_)
  refine rf_iconst C (n := 104) (v := 1) dX6_takeBehindThing_103 rfl (by decide) ?_
  exact rf_zret C K (by decide) dX6_takeBehindThing_104
noncomputable def f_X6_takeBehindThing_73 (fu : Nat) (x1 : Int32) (x2 : Int32) (x3 : Int32) (m : hM) : Option (Int32 × hM) :=
  if 3 < x2 then (
f_X6_takeBehindThing_88 fu x1 x2 m) else (
if hIn (gI m 28 4) 6 then (
hLet (sI m 31 (Int32.toNatClampNeg (gI m 28 4)) (vp_nar .boolean x3)) fun m17 =>
f_X6_takeBehindThing_88 fu x1 x2 m17) else none)
set_option maxRecDepth 100000 in
set_option maxHeartbeats 4000000 in
theorem r_X6_takeBehindThing_73 {G : hG} {X : hX} (C : Cx G X 4 cX6_takeBehindThing 4 RX6 (some .boolean)) (K : Cr G X) (fu : Nat) (x1 : Int32) (x2 : Int32) (x3 : Int32) (m : hM) : Rf vI G X 73 [(0, hA G 28), (1, .int x1), (2, .int x2), (3, .int x3)] [] m (f_X6_takeBehindThing_73 fu x1 x2 x3 m) := by
  unfold f_X6_takeBehindThing_73
  refine rf_iload_n C (n := 74) (q := 2) dX6_takeBehindThing_73 rfl rfl rfl ?_
  refine rf_iconst C (n := 75) (v := 3) dX6_takeBehindThing_74 rfl (by decide) ?_
  refine rf_icmp_gt C (tgt := 88) (n := 78) dX6_takeBehindThing_75 (by decide) rfl (fun h12 => ?_) (fun h12 => ?_)
  · exact rf_lv _ [0, 1, 2] rfl (r_X6_takeBehindThing_88 C K fu _ _ _)
  · refine rf_aload_n C (n := 79) (q := 0) dX6_takeBehindThing_78 rfl rfl rfl ?_
    refine rf_getS C (n := 82) fl_RX6_28 ly_28 rfl dX6_takeBehindThing_79 rfl ?_
    refine rf_aload_n C (n := 83) (q := 0) dX6_takeBehindThing_82 rfl rfl rfl ?_
    refine rf_getI C (n := 86) fl_RX6_25 ly_28 rfl dX6_takeBehindThing_83 rfl ?_
    refine rf_iload_n C (n := 87) (q := 3) dX6_takeBehindThing_86 rfl rfl rfl ?_
    refine rf_guard (fun h16 => ?_)
    refine rf_zast C (n := 88) ly_31 h16 rfl dX6_takeBehindThing_87 rfl ?_
    refine rf_letM (fun m17 => ?_)
    exact rf_lv _ [0, 1, 2] rfl (r_X6_takeBehindThing_88 C K fu _ _ _)
noncomputable def f_X6_takeBehindThing_44 (fu : Nat) (x1 : Int32) (x2 : Int32) (s0 : Int32) (m : hM) : Option (Int32 × hM) :=
  if x2 = 0 then (
some (0, m)) else (
if x2 = 6 then (
some (0, m)) else (
if s0 = 0 then (
f_X6_takeBehindThing_73 fu x1 x2 s0 m) else (
if hIn (gI m 28 4) 6 then (
if (gI m 31 (Int32.toNatClampNeg (gI m 28 4))) = 0 then (
f_X6_takeBehindThing_73 fu x1 x2 s0 m) else (
some (0, m))) else none)))
set_option maxRecDepth 100000 in
set_option maxHeartbeats 4000000 in
theorem r_X6_takeBehindThing_44 {G : hG} {X : hX} (C : Cx G X 4 cX6_takeBehindThing 4 RX6 (some .boolean)) (K : Cr G X) (fu : Nat) (x1 : Int32) (x2 : Int32) (s0 : Int32) (m : hM) : Rf vI G X 44 [(0, hA G 28), (1, .int x1), (2, .int x2)] [.int s0] m (f_X6_takeBehindThing_44 fu x1 x2 s0 m) := by
  unfold f_X6_takeBehindThing_44
  refine rf_istore_n C (n := 45) [(3, .int s0), (0, hA G 28), (1, .int x1), (2, .int x2)] dX6_takeBehindThing_44 rfl rfl (by decide) rfl ?_
  refine rf_iload_n C (n := 46) (q := 3) dX6_takeBehindThing_45 rfl rfl rfl ?_
  refine rf_if_eq C (tgt := 71) (n := 49) dX6_takeBehindThing_46 (by decide) rfl (fun h9 => ?_) (fun h9 => ?_)
  · refine rf_iconst C (n := 72) (v := 0) dX6_takeBehindThing_71 rfl (by decide) ?_
    exact rf_zret C K (by decide) dX6_takeBehindThing_72
  · refine rf_iload_n C (n := 50) (q := 3) dX6_takeBehindThing_49 rfl rfl rfl ?_
    refine rf_bipush C (n := 52) (v := 6) dX6_takeBehindThing_50 rfl (by decide) ?_
    refine rf_icmp_eq C (tgt := 71) (n := 55) dX6_takeBehindThing_52 (by decide) rfl (fun h10 => ?_) (fun h10 => ?_)
    · refine rf_iconst C (n := 72) (v := 0) dX6_takeBehindThing_71 rfl (by decide) ?_
      exact rf_zret C K (by decide) dX6_takeBehindThing_72
    · refine rf_iload_n C (n := 56) (q := 0) dX6_takeBehindThing_55 rfl rfl rfl ?_
      refine rf_if_eq C (tgt := 73) (n := 59) dX6_takeBehindThing_56 (by decide) rfl (fun h11 => ?_) (fun h11 => ?_)
      · exact rf_lv _ [1, 2, 3, 0] rfl (r_X6_takeBehindThing_73 C K fu _ _ _ _)
      · refine rf_aload_n C (n := 60) (q := 1) dX6_takeBehindThing_59 rfl rfl rfl ?_
        refine rf_getS C (n := 63) fl_RX6_28 ly_28 rfl dX6_takeBehindThing_60 rfl ?_
        refine rf_aload_n C (n := 64) (q := 1) dX6_takeBehindThing_63 rfl rfl rfl ?_
        refine rf_getI C (n := 67) fl_RX6_25 ly_28 rfl dX6_takeBehindThing_64 rfl ?_
        refine rf_guard (fun h18 => ?_)
        refine rf_zald C (n := 68) ly_31 h18 rfl dX6_takeBehindThing_67 rfl ?_
        refine rf_if_eq C (tgt := 73) (n := 71) dX6_takeBehindThing_68 (by decide) rfl (fun h19 => ?_) (fun h19 => ?_)
        · exact rf_lv _ [1, 2, 3, 0] rfl (r_X6_takeBehindThing_73 C K fu _ _ _ _)
        · refine rf_iconst C (n := 72) (v := 0) dX6_takeBehindThing_71 rfl (by decide) ?_
          exact rf_zret C K (by decide) dX6_takeBehindThing_72
noncomputable def f_X6_takeBehindThing (fu : Nat) (x1 : Int32) (m : hM) : Option (Int32 × hM) :=
  hBd (f_X6_isDigit fu x1 m) fun y1 m2 =>
if y1 = 0 then (
hLet (sI m2 28 7 0) fun m4 =>
if ¬ x1 = 41 then (
hBd (f_X6_levelOf fu x1 m4) fun y6 m7 =>
if ¬ y6 = 3 then (
f_X6_takeBehindThing_44 fu x1 y6 0 m7) else (
f_X6_takeBehindThing_44 fu x1 y6 1 m7)) else (
hBd (f_X6_takeClosing fu m4) fun y20 m21 =>
if y20 = 0 ∨ y20 = 1 then (
some (y20, m21)) else none)) else (
hBd (f_X6_takeDigit fu x1 m2) fun y23 m24 =>
if y23 = 0 ∨ y23 = 1 then (
some (y23, m24)) else none)
set_option maxRecDepth 100000 in
set_option maxHeartbeats 4000000 in
theorem c_X6_takeBehindThing (G : hG) (fu : Nat) (x1 : Int32) (m : hM) : Mt vI G 4 yX6_takeBehindThing cX6_takeBehindThing 4 (some .boolean) [hA G 28, .int x1] m (f_X6_takeBehindThing fu x1 m) := by
  refine mt_of (by decide +kernel) (Nat.le_of_ble_eq_true rfl) (fun X C K => ?_)
  have C : Cx G X 4 cX6_takeBehindThing 4 RX6 (some .boolean) := C
  show Rf vI G X 0 [(0, hA G 28), (1, .int x1)] [] m _
  unfold f_X6_takeBehindThing
  refine rf_iload_n C (n := 1) (q := 1) dX6_takeBehindThing_0 rfl rfl rfl ?_
  refine rf_callSi C (n := 4) (c_X6_isDigit G fu _ _) sw_RX6_63 ⟨by decide, by decide⟩ rfl (Nat.le_of_ble_eq_true rfl) rfl dX6_takeBehindThing_1 rfl (fun y1 m2 => ?_)
  refine rf_if_eq C (tgt := 13) (n := 7) dX6_takeBehindThing_4 (by decide) rfl (fun h3 => ?_) (fun h3 => ?_)
  · refine rf_aload_n C (n := 14) (q := 0) dX6_takeBehindThing_13 rfl rfl rfl ?_
    refine rf_iconst C (n := 15) (v := 0) dX6_takeBehindThing_14 rfl (by decide) ?_
    refine rf_putI C (n := 18) pl_RX6_36 ly_28 rfl ⟨rfl, rfl⟩ dX6_takeBehindThing_15 rfl ?_
    refine rf_letM (fun m4 => ?_)
    refine rf_iload_n C (n := 19) (q := 1) dX6_takeBehindThing_18 rfl rfl rfl ?_
    refine rf_bipush C (n := 21) (v := 41) dX6_takeBehindThing_19 rfl (by decide) ?_
    refine rf_icmp_ne C (tgt := 29) (n := 24) dX6_takeBehindThing_21 (by decide) rfl (fun h5 => ?_) (fun h5 => ?_)
    · refine rf_iload_n C (n := 30) (q := 1) dX6_takeBehindThing_29 rfl rfl rfl ?_
      refine rf_callSi C (n := 33) (c_X6_levelOf G fu _ _) sw_RX6_83 ⟨by decide, by decide⟩ rfl (Nat.le_of_ble_eq_true rfl) rfl dX6_takeBehindThing_30 rfl (fun y6 m7 => ?_)
      refine rf_istore_n C (n := 34) [(2, .int y6), (0, hA G 28), (1, .int x1)] dX6_takeBehindThing_33 rfl rfl (by decide) rfl ?_
      refine rf_iload_n C (n := 35) (q := 0) dX6_takeBehindThing_34 rfl rfl rfl ?_
      refine rf_iconst C (n := 36) (v := 3) dX6_takeBehindThing_35 rfl (by decide) ?_
      refine rf_icmp_ne C (tgt := 43) (n := 39) dX6_takeBehindThing_36 (by decide) rfl (fun h8 => ?_) (fun h8 => ?_)
      · refine rf_iconst C (n := 44) (v := 0) dX6_takeBehindThing_43 rfl (by decide) ?_
        exact rf_lv _ [1, 2, 0] rfl (r_X6_takeBehindThing_44 C K fu _ _ _ _)
      · refine rf_iconst C (n := 40) (v := 1) dX6_takeBehindThing_39 rfl (by decide) ?_
        refine rf_goto C (n := 44) dX6_takeBehindThing_40 (by decide) ?_
        exact rf_lv _ [1, 2, 0] rfl (r_X6_takeBehindThing_44 C K fu _ _ _ _)
    · refine rf_aload_n C (n := 25) (q := 0) dX6_takeBehindThing_24 rfl rfl rfl ?_
      refine rf_callVi C (n := 28) (c_X6_takeClosing G fu _) mw_RX6_80 ly_28 rfl ⟨by decide, by decide⟩ rfl (Nat.le_of_ble_eq_true rfl) rfl dX6_takeBehindThing_25 rfl (fun y20 m21 => ?_)
      refine rf_guard (fun h22 => ?_)
      exact rf_zret C K (hz_bool h22).1 dX6_takeBehindThing_28
  · refine rf_aload_n C (n := 8) (q := 0) dX6_takeBehindThing_7 rfl rfl rfl ?_
    refine rf_iload_n C (n := 9) (q := 1) dX6_takeBehindThing_8 rfl rfl rfl ?_
    refine rf_callVi C (n := 12) (c_X6_takeDigit G fu _ _) mw_RX6_77 ly_28 rfl ⟨by decide, by decide⟩ rfl (Nat.le_of_ble_eq_true rfl) rfl dX6_takeBehindThing_9 rfl (fun y23 m24 => ?_)
    refine rf_guard (fun h25 => ?_)
    exact rf_zret C K (hz_bool h25).1 dX6_takeBehindThing_12
noncomputable def f_X7_startPiece (fu : Nat) (a0 : Nat) (x2 : Int32) (m : hM) : Option (Unit × hM) :=
  if a0 ∈ stL then (hLet (sI m a0 1 ((gI m a0 1) &&& ((1 <<< (x2 &&& 31)) ^^^ (-1)))) fun m1 =>
hLet (sI m1 a0 2 ((gI m1 a0 2) &&& ((1 <<< (x2 &&& 31)) ^^^ (-1)))) fun m2 =>
if hIn x2 8 then (
if hIn x2 8 then (
hLet (sI m2 (a0 + 1) (Int32.toNatClampNeg x2) (gI m2 23 (Int32.toNatClampNeg x2))) fun m5 =>
if hIn x2 8 then (
if hIn x2 8 then (
hLet (sI m5 (a0 + 2) (Int32.toNatClampNeg x2) (gI m5 21 (Int32.toNatClampNeg x2))) fun m8 =>
if hIn x2 8 then (
hLet (sI m8 (a0 + 3) (Int32.toNatClampNeg x2) 0) fun m10 =>
if hIn x2 8 then (
hLet (sI m10 (a0 + 4) (Int32.toNatClampNeg x2) (-1)) fun m12 =>
if hIn x2 8 then (
hLet (sI m12 (a0 + 5) (Int32.toNatClampNeg x2) 0) fun m14 =>
if hIn x2 8 then (
hLet (sI m14 (a0 + 6) (Int32.toNatClampNeg x2) 0) fun m16 =>
if hIn x2 8 then (
hLet (sI m16 (a0 + 7) (Int32.toNatClampNeg x2) 0) fun m18 =>
some ((), m18)) else none) else none) else none) else none) else none) else none) else none) else none) else none) else none
set_option maxRecDepth 100000 in
set_option maxHeartbeats 4000000 in
theorem c_X7_startPiece (G : hG) (fu : Nat) (a0 : Nat) (x2 : Int32) (m : hM) : Mt vU G 1 yX7_startPiece cX7_startPiece 3 none [hA G a0, hA G 18, .int x2] m (f_X7_startPiece fu a0 x2 m) := by
  refine mt_of (by decide +kernel) (Nat.le_of_ble_eq_true rfl) (fun X C K => ?_)
  have C : Cx G X 1 cX7_startPiece 3 RX7 none := C
  show Rf vU G X 0 [(0, hA G a0), (1, hA G 18), (2, .int x2)] [] m _
  unfold f_X7_startPiece
  refine rf_guard (fun ha0 => ?_)
  refine rf_aload_n C (n := 1) (q := 0) dX7_startPiece_0 rfl rfl rfl ?_
  refine rf_dup C (n := 2) dX7_startPiece_1 rfl rfl ?_
  refine rf_getI C (n := 5) fl_RX7_15 (pS_l ha0) rfl dX7_startPiece_2 rfl ?_
  refine rf_iconst C (n := 6) (v := 1) dX7_startPiece_5 rfl (by decide) ?_
  refine rf_iload_n C (n := 7) (q := 2) dX7_startPiece_6 rfl rfl rfl ?_
  refine rf_ishl C (n := 8) dX7_startPiece_7 rfl ?_
  refine rf_iconst C (n := 9) (v := (-1)) dX7_startPiece_8 rfl (by decide) ?_
  refine rf_ixor C (n := 10) dX7_startPiece_9 rfl ?_
  refine rf_iand C (n := 11) dX7_startPiece_10 rfl ?_
  refine rf_putI C (n := 14) pl_RX7_15 (pS_l ha0) rfl ⟨rfl, rfl⟩ dX7_startPiece_11 rfl ?_
  refine rf_letM (fun m1 => ?_)
  refine rf_aload_n C (n := 15) (q := 0) dX7_startPiece_14 rfl rfl rfl ?_
  refine rf_dup C (n := 16) dX7_startPiece_15 rfl rfl ?_
  refine rf_getI C (n := 19) fl_RX7_18 (pS_l ha0) rfl dX7_startPiece_16 rfl ?_
  refine rf_iconst C (n := 20) (v := 1) dX7_startPiece_19 rfl (by decide) ?_
  refine rf_iload_n C (n := 21) (q := 2) dX7_startPiece_20 rfl rfl rfl ?_
  refine rf_ishl C (n := 22) dX7_startPiece_21 rfl ?_
  refine rf_iconst C (n := 23) (v := (-1)) dX7_startPiece_22 rfl (by decide) ?_
  refine rf_ixor C (n := 24) dX7_startPiece_23 rfl ?_
  refine rf_iand C (n := 25) dX7_startPiece_24 rfl ?_
  refine rf_putI C (n := 28) pl_RX7_18 (pS_l ha0) rfl ⟨rfl, rfl⟩ dX7_startPiece_25 rfl ?_
  refine rf_letM (fun m2 => ?_)
  refine rf_aload_n C (n := 29) (q := 0) dX7_startPiece_28 rfl rfl rfl ?_
  refine rf_getS C (n := 32) fl_RX7_21 (pS_l ha0) rfl dX7_startPiece_29 rfl ?_
  refine rf_iload_n C (n := 33) (q := 2) dX7_startPiece_32 rfl rfl rfl ?_
  refine rf_aload_n C (n := 34) (q := 1) dX7_startPiece_33 rfl rfl rfl ?_
  refine rf_getS C (n := 37) fl_RX7_52 ly_18 rfl dX7_startPiece_34 rfl ?_
  refine rf_iload_n C (n := 38) (q := 2) dX7_startPiece_37 rfl rfl rfl ?_
  refine rf_guard (fun h3 => ?_)
  refine rf_iald C (n := 39) ly_23 h3 rfl dX7_startPiece_38 rfl ?_
  refine rf_guard (fun h4 => ?_)
  refine rf_iast C (n := 40) (st_a1 ha0) h4 rfl dX7_startPiece_39 rfl ?_
  refine rf_letM (fun m5 => ?_)
  refine rf_aload_n C (n := 41) (q := 0) dX7_startPiece_40 rfl rfl rfl ?_
  refine rf_getS C (n := 44) fl_RX7_25 (pS_l ha0) rfl dX7_startPiece_41 rfl ?_
  refine rf_iload_n C (n := 45) (q := 2) dX7_startPiece_44 rfl rfl rfl ?_
  refine rf_aload_n C (n := 46) (q := 1) dX7_startPiece_45 rfl rfl rfl ?_
  refine rf_getS C (n := 49) fl_RX7_57 ly_18 rfl dX7_startPiece_46 rfl ?_
  refine rf_iload_n C (n := 50) (q := 2) dX7_startPiece_49 rfl rfl rfl ?_
  refine rf_guard (fun h6 => ?_)
  refine rf_iald C (n := 51) ly_21 h6 rfl dX7_startPiece_50 rfl ?_
  refine rf_guard (fun h7 => ?_)
  refine rf_iast C (n := 52) (st_a2 ha0) h7 rfl dX7_startPiece_51 rfl ?_
  refine rf_letM (fun m8 => ?_)
  refine rf_aload_n C (n := 53) (q := 0) dX7_startPiece_52 rfl rfl rfl ?_
  refine rf_getS C (n := 56) fl_RX7_28 (pS_l ha0) rfl dX7_startPiece_53 rfl ?_
  refine rf_iload_n C (n := 57) (q := 2) dX7_startPiece_56 rfl rfl rfl ?_
  refine rf_iconst C (n := 58) (v := 0) dX7_startPiece_57 rfl (by decide) ?_
  refine rf_guard (fun h9 => ?_)
  refine rf_iast C (n := 59) (st_a3 ha0) h9 rfl dX7_startPiece_58 rfl ?_
  refine rf_letM (fun m10 => ?_)
  refine rf_aload_n C (n := 60) (q := 0) dX7_startPiece_59 rfl rfl rfl ?_
  refine rf_getS C (n := 63) fl_RX7_31 (pS_l ha0) rfl dX7_startPiece_60 rfl ?_
  refine rf_iload_n C (n := 64) (q := 2) dX7_startPiece_63 rfl rfl rfl ?_
  refine rf_iconst C (n := 65) (v := (-1)) dX7_startPiece_64 rfl (by decide) ?_
  refine rf_guard (fun h11 => ?_)
  refine rf_iast C (n := 66) (st_a4 ha0) h11 rfl dX7_startPiece_65 rfl ?_
  refine rf_letM (fun m12 => ?_)
  refine rf_aload_n C (n := 67) (q := 0) dX7_startPiece_66 rfl rfl rfl ?_
  refine rf_getS C (n := 70) fl_RX7_34 (pS_l ha0) rfl dX7_startPiece_67 rfl ?_
  refine rf_iload_n C (n := 71) (q := 2) dX7_startPiece_70 rfl rfl rfl ?_
  refine rf_iconst C (n := 72) (v := 0) dX7_startPiece_71 rfl (by decide) ?_
  refine rf_guard (fun h13 => ?_)
  refine rf_iast C (n := 73) (st_a5 ha0) h13 rfl dX7_startPiece_72 rfl ?_
  refine rf_letM (fun m14 => ?_)
  refine rf_aload_n C (n := 74) (q := 0) dX7_startPiece_73 rfl rfl rfl ?_
  refine rf_getS C (n := 77) fl_RX7_37 (pS_l ha0) rfl dX7_startPiece_74 rfl ?_
  refine rf_iload_n C (n := 78) (q := 2) dX7_startPiece_77 rfl rfl rfl ?_
  refine rf_iconst C (n := 79) (v := 0) dX7_startPiece_78 rfl (by decide) ?_
  refine rf_guard (fun h15 => ?_)
  refine rf_iast C (n := 80) (st_a6 ha0) h15 rfl dX7_startPiece_79 rfl ?_
  refine rf_letM (fun m16 => ?_)
  refine rf_aload_n C (n := 81) (q := 0) dX7_startPiece_80 rfl rfl rfl ?_
  refine rf_getS C (n := 84) fl_RX7_40 (pS_l ha0) rfl dX7_startPiece_81 rfl ?_
  refine rf_iload_n C (n := 85) (q := 2) dX7_startPiece_84 rfl rfl rfl ?_
  refine rf_iconst C (n := 86) (v := 0) dX7_startPiece_85 rfl (by decide) ?_
  refine rf_guard (fun h17 => ?_)
  refine rf_iast C (n := 87) (st_a7 ha0) h17 rfl dX7_startPiece_86 rfl ?_
  refine rf_letM (fun m18 => ?_)
  exact rf_vret C K dX7_startPiece_87
noncomputable def f_X7_startAll_27 (fu : Nat) (a0 : Nat) (m : hM) : Option (Unit × hM) :=
  hLet (sI m a0 10 0) fun m3 =>
hLet (sI m3 a0 12 0) fun m4 =>
some ((), m4)
set_option maxRecDepth 100000 in
set_option maxHeartbeats 4000000 in
theorem r_X7_startAll_27 {G : hG} {X : hX} (C : Cx G X 2 cX7_startAll 4 RX7 none) (K : Cr G X) (fu : Nat) (a0 : Nat) (ha0 : a0 ∈ stL) (m : hM) : Rf vU G X 27 [(0, hA G a0)] [] m (f_X7_startAll_27 fu a0 m) := by
  unfold f_X7_startAll_27
  refine rf_aload_n C (n := 28) (q := 0) dX7_startAll_27 rfl rfl rfl ?_
  refine rf_iconst C (n := 29) (v := 0) dX7_startAll_28 rfl (by decide) ?_
  refine rf_putI C (n := 32) pl_RX7_43 (pS_l ha0) rfl ⟨rfl, rfl⟩ dX7_startAll_29 rfl ?_
  refine rf_letM (fun m3 => ?_)
  refine rf_aload_n C (n := 33) (q := 0) dX7_startAll_32 rfl rfl rfl ?_
  refine rf_iconst C (n := 34) (v := 0) dX7_startAll_33 rfl (by decide) ?_
  refine rf_putI C (n := 37) pl_RX7_49 (pS_l ha0) rfl ⟨rfl, rfl⟩ dX7_startAll_34 rfl ?_
  refine rf_letM (fun m4 => ?_)
  exact rf_vret C K dX7_startAll_37
noncomputable def s_X7_startAll_7 (fu : Nat) (ih : Nat → Int32 → hM → Option (Unit × hM)) (a0 : Nat) (x3 : Int32) (m : hM) : Option (Unit × hM) :=
  if (gI m 18 6) ≤ x3 then (
f_X7_startAll_27 fu a0 m) else (
hBd (f_X7_startPiece fu a0 x3 m) fun _ m5 =>
hLet (x3 + 1) fun y6 =>
ih a0 y6 m5)
noncomputable def f_X7_startAll_7 (fu : Nat) (n : Nat) : Nat → Int32 → hM → Option (Unit × hM) :=
  Nat.rec (motive := fun _ => Nat → Int32 → hM → Option (Unit × hM)) (fun _ _ _ => none) (fun _ ih => s_X7_startAll_7 fu ih) n
theorem f_X7_startAll_7_s (fu : Nat) (n : Nat) (a0 : Nat) (x3 : Int32) (m : hM) : f_X7_startAll_7 fu (n + 1) a0 x3 m = s_X7_startAll_7 fu (f_X7_startAll_7 fu n) a0 x3 m := rfl
set_option maxRecDepth 100000 in
set_option maxHeartbeats 4000000 in
theorem r_X7_startAll_7 {G : hG} {X : hX} (C : Cx G X 2 cX7_startAll 4 RX7 none) (K : Cr G X) (fu : Nat) (n : Nat) : ∀ (a0 : Nat) (ha0 : a0 ∈ stL) (x3 : Int32) (m : hM), Rf vU G X 7 [(0, hA G a0), (1, hA G 18), (3, .int x3)] [] m (f_X7_startAll_7 fu n a0 x3 m) := by
  induction n with
  | zero => intros; exact rf_none
  | succ n ih =>
    intro a0 ha0 x3 m
    show Rf vU G X 7 [(0, hA G a0), (1, hA G 18), (3, .int x3)] [] m (s_X7_startAll_7 fu (f_X7_startAll_7 fu n) a0 x3 m)
    unfold s_X7_startAll_7
    refine rf_iload_n C (n := 8) (q := 2) dX7_startAll_7 rfl rfl rfl ?_
    refine rf_aload_n C (n := 9) (q := 1) dX7_startAll_8 rfl rfl rfl ?_
    refine rf_getI C (n := 12) fl_RX7_60 ly_18 rfl dX7_startAll_9 rfl ?_
    refine rf_icmp_ge C (tgt := 27) (n := 15) dX7_startAll_12 (by decide) rfl (fun h2 => ?_) (fun h2 => ?_)
    · exact rf_lv _ [0] rfl (r_X7_startAll_27 C K fu _ ha0 _)
    · refine rf_aload_n C (n := 16) (q := 0) dX7_startAll_15 rfl rfl rfl ?_
      refine rf_aload_n C (n := 17) (q := 1) dX7_startAll_16 rfl rfl rfl ?_
      refine rf_iload_n C (n := 18) (q := 2) dX7_startAll_17 rfl rfl rfl ?_
      refine rf_callVv C (n := 21) (c_X7_startPiece G fu _ _ _) mw_RX7_63 (pS_l ha0) rfl ⟨by decide, by decide⟩ rfl (Nat.le_of_ble_eq_true rfl) rfl dX7_startAll_18 rfl (fun _ m5 => ?_)
      refine rf_iinc2 C (n := 24) (q := 2) (fun y6 => [(3, .int y6), (0, hA G a0), (1, hA G 18)]) dX7_startAll_21 rfl rfl (by decide) (by decide) (fun _ => rfl) (fun y6 => ?_)
      refine rf_goto C (n := 7) dX7_startAll_24 (by decide) ?_
      exact rf_lv _ [1, 2, 0] rfl (ih _ ha0 _ _)
noncomputable def f_X7_startAll (fu : Nat) (a0 : Nat) (x2 : Int32) (m : hM) : Option (Unit × hM) :=
  if a0 ∈ stL then (hLet (sI m a0 0 x2) fun m1 =>
f_X7_startAll_7 fu fu a0 0 m1) else none
set_option maxRecDepth 100000 in
set_option maxHeartbeats 4000000 in
theorem c_X7_startAll (G : hG) (fu : Nat) (a0 : Nat) (x2 : Int32) (m : hM) : Mt vU G 2 yX7_startAll cX7_startAll 4 none [hA G a0, hA G 18, .int x2] m (f_X7_startAll fu a0 x2 m) := by
  refine mt_of (by decide +kernel) (Nat.le_of_ble_eq_true rfl) (fun X C K => ?_)
  have C : Cx G X 2 cX7_startAll 4 RX7 none := C
  show Rf vU G X 0 [(0, hA G a0), (1, hA G 18), (2, .int x2)] [] m _
  unfold f_X7_startAll
  refine rf_guard (fun ha0 => ?_)
  refine rf_aload_n C (n := 1) (q := 0) dX7_startAll_0 rfl rfl rfl ?_
  refine rf_iload_n C (n := 2) (q := 2) dX7_startAll_1 rfl rfl rfl ?_
  refine rf_putI C (n := 5) pl_RX7_9 (pS_l ha0) rfl ⟨rfl, rfl⟩ dX7_startAll_2 rfl ?_
  refine rf_letM (fun m1 => ?_)
  refine rf_iconst C (n := 6) (v := 0) dX7_startAll_5 rfl (by decide) ?_
  refine rf_istore_n C (n := 7) [(3, .int 0), (0, hA G a0), (1, hA G 18), (2, .int x2)] dX7_startAll_6 rfl rfl (by decide) rfl ?_
  exact rf_lv _ [1, 2, 0] rfl (r_X7_startAll_7 C K fu fu _ ha0 _ _)
noncomputable def f_X7_copyFrom (fu : Nat) (a0 : Nat) (a1 : Nat) (m : hM) : Option (Unit × hM) :=
  if a0 ∈ stL then (if a1 ∈ stL then (hLet (sI m a0 0 (gI m a1 0)) fun m1 =>
hLet (sI m1 a0 1 (gI m1 a1 1)) fun m2 =>
hLet (sI m2 a0 2 (gI m2 a1 2)) fun m3 =>
if a1 + 1 ≠ a0 + 1 ∧ ¬ (0 : Int32) < 0 ∧ ¬ (0 : Int32) < 0 ∧ ¬ (8 : Int32) < 0 ∧ (Int32.toNatClampNeg 0) + (Int32.toNatClampNeg 8) ≤ 8 ∧ (Int32.toNatClampNeg 0) + (Int32.toNatClampNeg 8) ≤ 8 then (
hLet (cpI m3 (a1 + 1) (Int32.toNatClampNeg 0) (a0 + 1) (Int32.toNatClampNeg 0) (Int32.toNatClampNeg 8)) fun m5 =>
if a1 + 2 ≠ a0 + 2 ∧ ¬ (0 : Int32) < 0 ∧ ¬ (0 : Int32) < 0 ∧ ¬ (8 : Int32) < 0 ∧ (Int32.toNatClampNeg 0) + (Int32.toNatClampNeg 8) ≤ 8 ∧ (Int32.toNatClampNeg 0) + (Int32.toNatClampNeg 8) ≤ 8 then (
hLet (cpI m5 (a1 + 2) (Int32.toNatClampNeg 0) (a0 + 2) (Int32.toNatClampNeg 0) (Int32.toNatClampNeg 8)) fun m7 =>
if a1 + 3 ≠ a0 + 3 ∧ ¬ (0 : Int32) < 0 ∧ ¬ (0 : Int32) < 0 ∧ ¬ (8 : Int32) < 0 ∧ (Int32.toNatClampNeg 0) + (Int32.toNatClampNeg 8) ≤ 8 ∧ (Int32.toNatClampNeg 0) + (Int32.toNatClampNeg 8) ≤ 8 then (
hLet (cpI m7 (a1 + 3) (Int32.toNatClampNeg 0) (a0 + 3) (Int32.toNatClampNeg 0) (Int32.toNatClampNeg 8)) fun m9 =>
if a1 + 4 ≠ a0 + 4 ∧ ¬ (0 : Int32) < 0 ∧ ¬ (0 : Int32) < 0 ∧ ¬ (8 : Int32) < 0 ∧ (Int32.toNatClampNeg 0) + (Int32.toNatClampNeg 8) ≤ 8 ∧ (Int32.toNatClampNeg 0) + (Int32.toNatClampNeg 8) ≤ 8 then (
hLet (cpI m9 (a1 + 4) (Int32.toNatClampNeg 0) (a0 + 4) (Int32.toNatClampNeg 0) (Int32.toNatClampNeg 8)) fun m11 =>
if a1 + 5 ≠ a0 + 5 ∧ ¬ (0 : Int32) < 0 ∧ ¬ (0 : Int32) < 0 ∧ ¬ (8 : Int32) < 0 ∧ (Int32.toNatClampNeg 0) + (Int32.toNatClampNeg 8) ≤ 8 ∧ (Int32.toNatClampNeg 0) + (Int32.toNatClampNeg 8) ≤ 8 then (
hLet (cpI m11 (a1 + 5) (Int32.toNatClampNeg 0) (a0 + 5) (Int32.toNatClampNeg 0) (Int32.toNatClampNeg 8)) fun m13 =>
if a1 + 6 ≠ a0 + 6 ∧ ¬ (0 : Int32) < 0 ∧ ¬ (0 : Int32) < 0 ∧ ¬ (8 : Int32) < 0 ∧ (Int32.toNatClampNeg 0) + (Int32.toNatClampNeg 8) ≤ 8 ∧ (Int32.toNatClampNeg 0) + (Int32.toNatClampNeg 8) ≤ 8 then (
hLet (cpI m13 (a1 + 6) (Int32.toNatClampNeg 0) (a0 + 6) (Int32.toNatClampNeg 0) (Int32.toNatClampNeg 8)) fun m15 =>
if a1 + 7 ≠ a0 + 7 ∧ ¬ (0 : Int32) < 0 ∧ ¬ (0 : Int32) < 0 ∧ ¬ (8 : Int32) < 0 ∧ (Int32.toNatClampNeg 0) + (Int32.toNatClampNeg 8) ≤ 8 ∧ (Int32.toNatClampNeg 0) + (Int32.toNatClampNeg 8) ≤ 8 then (
hLet (cpI m15 (a1 + 7) (Int32.toNatClampNeg 0) (a0 + 7) (Int32.toNatClampNeg 0) (Int32.toNatClampNeg 8)) fun m17 =>
hLet (sI m17 a0 10 (gI m17 a1 10)) fun m18 =>
if a1 + 8 ≠ a0 + 8 ∧ ¬ (0 : Int32) < 0 ∧ ¬ (0 : Int32) < 0 ∧ ¬ (60 : Int32) < 0 ∧ (Int32.toNatClampNeg 0) + (Int32.toNatClampNeg 60) ≤ 60 ∧ (Int32.toNatClampNeg 0) + (Int32.toNatClampNeg 60) ≤ 60 then (
hLet (cpI m18 (a1 + 8) (Int32.toNatClampNeg 0) (a0 + 8) (Int32.toNatClampNeg 0) (Int32.toNatClampNeg 60)) fun m20 =>
hLet (sI m20 a0 12 (gI m20 a1 12)) fun m21 =>
some ((), m21)) else none) else none) else none) else none) else none) else none) else none) else none) else none) else none
set_option maxRecDepth 100000 in
set_option maxHeartbeats 4000000 in
theorem c_X7_copyFrom (G : hG) (fu : Nat) (a0 : Nat) (a1 : Nat) (m : hM) : Mt vU G 2 yX7_copyFrom cX7_copyFrom 2 none [hA G a0, hA G a1] m (f_X7_copyFrom fu a0 a1 m) := by
  refine mt_of (by decide +kernel) (Nat.le_of_ble_eq_true rfl) (fun X C K => ?_)
  have C : Cx G X 2 cX7_copyFrom 2 RX7 none := C
  show Rf vU G X 0 [(0, hA G a0), (1, hA G a1)] [] m _
  unfold f_X7_copyFrom
  refine rf_guard (fun ha0 => ?_)
  refine rf_guard (fun ha1 => ?_)
  refine rf_aload_n C (n := 1) (q := 0) dX7_copyFrom_0 rfl rfl rfl ?_
  refine rf_aload_n C (n := 2) (q := 1) dX7_copyFrom_1 rfl rfl rfl ?_
  refine rf_getI C (n := 5) fl_RX7_9 (pS_l ha1) rfl dX7_copyFrom_2 rfl ?_
  refine rf_putI C (n := 8) pl_RX7_9 (pS_l ha0) rfl ⟨rfl, rfl⟩ dX7_copyFrom_5 rfl ?_
  refine rf_letM (fun m1 => ?_)
  refine rf_aload_n C (n := 9) (q := 0) dX7_copyFrom_8 rfl rfl rfl ?_
  refine rf_aload_n C (n := 10) (q := 1) dX7_copyFrom_9 rfl rfl rfl ?_
  refine rf_getI C (n := 13) fl_RX7_15 (pS_l ha1) rfl dX7_copyFrom_10 rfl ?_
  refine rf_putI C (n := 16) pl_RX7_15 (pS_l ha0) rfl ⟨rfl, rfl⟩ dX7_copyFrom_13 rfl ?_
  refine rf_letM (fun m2 => ?_)
  refine rf_aload_n C (n := 17) (q := 0) dX7_copyFrom_16 rfl rfl rfl ?_
  refine rf_aload_n C (n := 18) (q := 1) dX7_copyFrom_17 rfl rfl rfl ?_
  refine rf_getI C (n := 21) fl_RX7_18 (pS_l ha1) rfl dX7_copyFrom_18 rfl ?_
  refine rf_putI C (n := 24) pl_RX7_18 (pS_l ha0) rfl ⟨rfl, rfl⟩ dX7_copyFrom_21 rfl ?_
  refine rf_letM (fun m3 => ?_)
  refine rf_aload_n C (n := 25) (q := 1) dX7_copyFrom_24 rfl rfl rfl ?_
  refine rf_getS C (n := 28) fl_RX7_21 (pS_l ha1) rfl dX7_copyFrom_25 rfl ?_
  refine rf_iconst C (n := 29) (v := 0) dX7_copyFrom_28 rfl (by decide) ?_
  refine rf_aload_n C (n := 30) (q := 0) dX7_copyFrom_29 rfl rfl rfl ?_
  refine rf_getS C (n := 33) fl_RX7_21 (pS_l ha0) rfl dX7_copyFrom_30 rfl ?_
  refine rf_iconst C (n := 34) (v := 0) dX7_copyFrom_33 rfl (by decide) ?_
  refine rf_bipush C (n := 36) (v := 8) dX7_copyFrom_34 rfl (by decide) ?_
  refine rf_guard (fun h4 => ?_)
  refine rf_copy C (n := 39) cpw_RX7_67 (st_a1 ha1) (st_a1 ha0) h4.1 h4.2.1 h4.2.2.1 h4.2.2.2.1 h4.2.2.2.2.1 h4.2.2.2.2.2 (by decide) (Nat.le_of_ble_eq_true rfl) dX7_copyFrom_36 rfl ?_
  refine rf_letM (fun m5 => ?_)
  refine rf_aload_n C (n := 40) (q := 1) dX7_copyFrom_39 rfl rfl rfl ?_
  refine rf_getS C (n := 43) fl_RX7_25 (pS_l ha1) rfl dX7_copyFrom_40 rfl ?_
  refine rf_iconst C (n := 44) (v := 0) dX7_copyFrom_43 rfl (by decide) ?_
  refine rf_aload_n C (n := 45) (q := 0) dX7_copyFrom_44 rfl rfl rfl ?_
  refine rf_getS C (n := 48) fl_RX7_25 (pS_l ha0) rfl dX7_copyFrom_45 rfl ?_
  refine rf_iconst C (n := 49) (v := 0) dX7_copyFrom_48 rfl (by decide) ?_
  refine rf_bipush C (n := 51) (v := 8) dX7_copyFrom_49 rfl (by decide) ?_
  refine rf_guard (fun h6 => ?_)
  refine rf_copy C (n := 54) cpw_RX7_67 (st_a2 ha1) (st_a2 ha0) h6.1 h6.2.1 h6.2.2.1 h6.2.2.2.1 h6.2.2.2.2.1 h6.2.2.2.2.2 (by decide) (Nat.le_of_ble_eq_true rfl) dX7_copyFrom_51 rfl ?_
  refine rf_letM (fun m7 => ?_)
  refine rf_aload_n C (n := 55) (q := 1) dX7_copyFrom_54 rfl rfl rfl ?_
  refine rf_getS C (n := 58) fl_RX7_28 (pS_l ha1) rfl dX7_copyFrom_55 rfl ?_
  refine rf_iconst C (n := 59) (v := 0) dX7_copyFrom_58 rfl (by decide) ?_
  refine rf_aload_n C (n := 60) (q := 0) dX7_copyFrom_59 rfl rfl rfl ?_
  refine rf_getS C (n := 63) fl_RX7_28 (pS_l ha0) rfl dX7_copyFrom_60 rfl ?_
  refine rf_iconst C (n := 64) (v := 0) dX7_copyFrom_63 rfl (by decide) ?_
  refine rf_bipush C (n := 66) (v := 8) dX7_copyFrom_64 rfl (by decide) ?_
  refine rf_guard (fun h8 => ?_)
  refine rf_copy C (n := 69) cpw_RX7_67 (st_a3 ha1) (st_a3 ha0) h8.1 h8.2.1 h8.2.2.1 h8.2.2.2.1 h8.2.2.2.2.1 h8.2.2.2.2.2 (by decide) (Nat.le_of_ble_eq_true rfl) dX7_copyFrom_66 rfl ?_
  refine rf_letM (fun m9 => ?_)
  refine rf_aload_n C (n := 70) (q := 1) dX7_copyFrom_69 rfl rfl rfl ?_
  refine rf_getS C (n := 73) fl_RX7_31 (pS_l ha1) rfl dX7_copyFrom_70 rfl ?_
  refine rf_iconst C (n := 74) (v := 0) dX7_copyFrom_73 rfl (by decide) ?_
  refine rf_aload_n C (n := 75) (q := 0) dX7_copyFrom_74 rfl rfl rfl ?_
  refine rf_getS C (n := 78) fl_RX7_31 (pS_l ha0) rfl dX7_copyFrom_75 rfl ?_
  refine rf_iconst C (n := 79) (v := 0) dX7_copyFrom_78 rfl (by decide) ?_
  refine rf_bipush C (n := 81) (v := 8) dX7_copyFrom_79 rfl (by decide) ?_
  refine rf_guard (fun h10 => ?_)
  refine rf_copy C (n := 84) cpw_RX7_67 (st_a4 ha1) (st_a4 ha0) h10.1 h10.2.1 h10.2.2.1 h10.2.2.2.1 h10.2.2.2.2.1 h10.2.2.2.2.2 (by decide) (Nat.le_of_ble_eq_true rfl) dX7_copyFrom_81 rfl ?_
  refine rf_letM (fun m11 => ?_)
  refine rf_aload_n C (n := 85) (q := 1) dX7_copyFrom_84 rfl rfl rfl ?_
  refine rf_getS C (n := 88) fl_RX7_34 (pS_l ha1) rfl dX7_copyFrom_85 rfl ?_
  refine rf_iconst C (n := 89) (v := 0) dX7_copyFrom_88 rfl (by decide) ?_
  refine rf_aload_n C (n := 90) (q := 0) dX7_copyFrom_89 rfl rfl rfl ?_
  refine rf_getS C (n := 93) fl_RX7_34 (pS_l ha0) rfl dX7_copyFrom_90 rfl ?_
  refine rf_iconst C (n := 94) (v := 0) dX7_copyFrom_93 rfl (by decide) ?_
  refine rf_bipush C (n := 96) (v := 8) dX7_copyFrom_94 rfl (by decide) ?_
  refine rf_guard (fun h12 => ?_)
  refine rf_copy C (n := 99) cpw_RX7_67 (st_a5 ha1) (st_a5 ha0) h12.1 h12.2.1 h12.2.2.1 h12.2.2.2.1 h12.2.2.2.2.1 h12.2.2.2.2.2 (by decide) (Nat.le_of_ble_eq_true rfl) dX7_copyFrom_96 rfl ?_
  refine rf_letM (fun m13 => ?_)
  refine rf_aload_n C (n := 100) (q := 1) dX7_copyFrom_99 rfl rfl rfl ?_
  refine rf_getS C (n := 103) fl_RX7_37 (pS_l ha1) rfl dX7_copyFrom_100 rfl ?_
  refine rf_iconst C (n := 104) (v := 0) dX7_copyFrom_103 rfl (by decide) ?_
  refine rf_aload_n C (n := 105) (q := 0) dX7_copyFrom_104 rfl rfl rfl ?_
  refine rf_getS C (n := 108) fl_RX7_37 (pS_l ha0) rfl dX7_copyFrom_105 rfl ?_
  refine rf_iconst C (n := 109) (v := 0) dX7_copyFrom_108 rfl (by decide) ?_
  refine rf_bipush C (n := 111) (v := 8) dX7_copyFrom_109 rfl (by decide) ?_
  refine rf_guard (fun h14 => ?_)
  refine rf_copy C (n := 114) cpw_RX7_67 (st_a6 ha1) (st_a6 ha0) h14.1 h14.2.1 h14.2.2.1 h14.2.2.2.1 h14.2.2.2.2.1 h14.2.2.2.2.2 (by decide) (Nat.le_of_ble_eq_true rfl) dX7_copyFrom_111 rfl ?_
  refine rf_letM (fun m15 => ?_)
  refine rf_aload_n C (n := 115) (q := 1) dX7_copyFrom_114 rfl rfl rfl ?_
  refine rf_getS C (n := 118) fl_RX7_40 (pS_l ha1) rfl dX7_copyFrom_115 rfl ?_
  refine rf_iconst C (n := 119) (v := 0) dX7_copyFrom_118 rfl (by decide) ?_
  refine rf_aload_n C (n := 120) (q := 0) dX7_copyFrom_119 rfl rfl rfl ?_
  refine rf_getS C (n := 123) fl_RX7_40 (pS_l ha0) rfl dX7_copyFrom_120 rfl ?_
  refine rf_iconst C (n := 124) (v := 0) dX7_copyFrom_123 rfl (by decide) ?_
  refine rf_bipush C (n := 126) (v := 8) dX7_copyFrom_124 rfl (by decide) ?_
  refine rf_guard (fun h16 => ?_)
  refine rf_copy C (n := 129) cpw_RX7_67 (st_a7 ha1) (st_a7 ha0) h16.1 h16.2.1 h16.2.2.1 h16.2.2.2.1 h16.2.2.2.2.1 h16.2.2.2.2.2 (by decide) (Nat.le_of_ble_eq_true rfl) dX7_copyFrom_126 rfl ?_
  refine rf_letM (fun m17 => ?_)
  refine rf_aload_n C (n := 130) (q := 0) dX7_copyFrom_129 rfl rfl rfl ?_
  refine rf_aload_n C (n := 131) (q := 1) dX7_copyFrom_130 rfl rfl rfl ?_
  refine rf_getI C (n := 134) fl_RX7_43 (pS_l ha1) rfl dX7_copyFrom_131 rfl ?_
  refine rf_putI C (n := 137) pl_RX7_43 (pS_l ha0) rfl ⟨rfl, rfl⟩ dX7_copyFrom_134 rfl ?_
  refine rf_letM (fun m18 => ?_)
  refine rf_aload_n C (n := 138) (q := 1) dX7_copyFrom_137 rfl rfl rfl ?_
  refine rf_getS C (n := 141) fl_RX7_46 (pS_l ha1) rfl dX7_copyFrom_138 rfl ?_
  refine rf_iconst C (n := 142) (v := 0) dX7_copyFrom_141 rfl (by decide) ?_
  refine rf_aload_n C (n := 143) (q := 0) dX7_copyFrom_142 rfl rfl rfl ?_
  refine rf_getS C (n := 146) fl_RX7_46 (pS_l ha0) rfl dX7_copyFrom_143 rfl ?_
  refine rf_iconst C (n := 147) (v := 0) dX7_copyFrom_146 rfl (by decide) ?_
  refine rf_bipush C (n := 149) (v := 60) dX7_copyFrom_147 rfl (by decide) ?_
  refine rf_guard (fun h19 => ?_)
  refine rf_copy C (n := 152) cpw_RX7_67 (st_a8 ha1) (st_a8 ha0) h19.1 h19.2.1 h19.2.2.1 h19.2.2.2.1 h19.2.2.2.2.1 h19.2.2.2.2.2 (by decide) (Nat.le_of_ble_eq_true rfl) dX7_copyFrom_149 rfl ?_
  refine rf_letM (fun m20 => ?_)
  refine rf_aload_n C (n := 153) (q := 0) dX7_copyFrom_152 rfl rfl rfl ?_
  refine rf_aload_n C (n := 154) (q := 1) dX7_copyFrom_153 rfl rfl rfl ?_
  refine rf_getI C (n := 157) fl_RX7_49 (pS_l ha1) rfl dX7_copyFrom_154 rfl ?_
  refine rf_putI C (n := 160) pl_RX7_49 (pS_l ha0) rfl ⟨rfl, rfl⟩ dX7_copyFrom_157 rfl ?_
  refine rf_letM (fun m21 => ?_)
  exact rf_vret C K dX7_copyFrom_160
noncomputable def s_X7_allHandings_4 (fu : Nat) (ih : Nat → Int32 → Int32 → hM → Option (Int32 × hM)) (a0 : Nat) (x1 : Int32) (x2 : Int32) (m : hM) : Option (Int32 × hM) :=
  if 8 ≤ x2 then (
some (x1, m)) else (
if hIn x2 8 then (
hLet (x1 + (gI m (a0 + 6) (Int32.toNatClampNeg x2))) fun y3 =>
hLet (x2 + 1) fun y4 =>
ih a0 y3 y4 m) else none)
noncomputable def f_X7_allHandings_4 (fu : Nat) (n : Nat) : Nat → Int32 → Int32 → hM → Option (Int32 × hM) :=
  Nat.rec (motive := fun _ => Nat → Int32 → Int32 → hM → Option (Int32 × hM)) (fun _ _ _ _ => none) (fun _ ih => s_X7_allHandings_4 fu ih) n
theorem f_X7_allHandings_4_s (fu : Nat) (n : Nat) (a0 : Nat) (x1 : Int32) (x2 : Int32) (m : hM) : f_X7_allHandings_4 fu (n + 1) a0 x1 x2 m = s_X7_allHandings_4 fu (f_X7_allHandings_4 fu n) a0 x1 x2 m := rfl
set_option maxRecDepth 100000 in
set_option maxHeartbeats 4000000 in
theorem r_X7_allHandings_4 {G : hG} {X : hX} (C : Cx G X 1 cX7_allHandings 3 RX7 (some .int)) (K : Cr G X) (fu : Nat) (n : Nat) : ∀ (a0 : Nat) (ha0 : a0 ∈ stL) (x1 : Int32) (x2 : Int32) (m : hM), Rf vI G X 4 [(0, hA G a0), (1, .int x1), (2, .int x2)] [] m (f_X7_allHandings_4 fu n a0 x1 x2 m) := by
  induction n with
  | zero => intros; exact rf_none
  | succ n ih =>
    intro a0 ha0 x1 x2 m
    show Rf vI G X 4 [(0, hA G a0), (1, .int x1), (2, .int x2)] [] m (s_X7_allHandings_4 fu (f_X7_allHandings_4 fu n) a0 x1 x2 m)
    unfold s_X7_allHandings_4
    refine rf_iload_n C (n := 5) (q := 2) dX7_allHandings_4 rfl rfl rfl ?_
    refine rf_bipush C (n := 7) (v := 8) dX7_allHandings_5 rfl (by decide) ?_
    refine rf_icmp_ge C (tgt := 25) (n := 10) dX7_allHandings_7 (by decide) rfl (fun h1 => ?_) (fun h1 => ?_)
    · refine rf_iload_n C (n := 26) (q := 1) dX7_allHandings_25 rfl rfl rfl ?_
      exact rf_iret C K dX7_allHandings_26
    · refine rf_iload_n C (n := 11) (q := 1) dX7_allHandings_10 rfl rfl rfl ?_
      refine rf_aload_n C (n := 12) (q := 0) dX7_allHandings_11 rfl rfl rfl ?_
      refine rf_getS C (n := 15) fl_RX7_37 (pS_l ha0) rfl dX7_allHandings_12 rfl ?_
      refine rf_iload_n C (n := 16) (q := 2) dX7_allHandings_15 rfl rfl rfl ?_
      refine rf_guard (fun h2 => ?_)
      refine rf_iald C (n := 17) (st_a6 ha0) h2 rfl dX7_allHandings_16 rfl ?_
      refine rf_iadd C (n := 18) dX7_allHandings_17 rfl ?_
      refine rf_letI (fun y3 => ?_)
      refine rf_istore_n C (n := 19) [(1, .int y3), (0, hA G a0), (2, .int x2)] dX7_allHandings_18 rfl rfl (by decide) rfl ?_
      refine rf_iinc2 C (n := 22) (q := 2) (fun y4 => [(2, .int y4), (1, .int y3), (0, hA G a0)]) dX7_allHandings_19 rfl rfl (by decide) (by decide) (fun _ => rfl) (fun y4 => ?_)
      refine rf_goto C (n := 4) dX7_allHandings_22 (by decide) ?_
      exact rf_lv _ [2, 1, 0] rfl (ih _ ha0 _ _ _)
noncomputable def f_X7_allHandings (fu : Nat) (a0 : Nat) (m : hM) : Option (Int32 × hM) :=
  if a0 ∈ stL then (f_X7_allHandings_4 fu fu a0 0 0 m) else none
set_option maxRecDepth 100000 in
set_option maxHeartbeats 4000000 in
theorem c_X7_allHandings (G : hG) (fu : Nat) (a0 : Nat) (m : hM) : Mt vI G 1 yX7_allHandings cX7_allHandings 3 (some .int) [hA G a0] m (f_X7_allHandings fu a0 m) := by
  refine mt_of (by decide +kernel) (Nat.le_of_ble_eq_true rfl) (fun X C K => ?_)
  have C : Cx G X 1 cX7_allHandings 3 RX7 (some .int) := C
  show Rf vI G X 0 [(0, hA G a0)] [] m _
  unfold f_X7_allHandings
  refine rf_guard (fun ha0 => ?_)
  refine rf_iconst C (n := 1) (v := 0) dX7_allHandings_0 rfl (by decide) ?_
  refine rf_istore_n C (n := 2) [(1, .int 0), (0, hA G a0)] dX7_allHandings_1 rfl rfl (by decide) rfl ?_
  refine rf_iconst C (n := 3) (v := 0) dX7_allHandings_2 rfl (by decide) ?_
  refine rf_istore_n C (n := 4) [(2, .int 0), (1, .int 0), (0, hA G a0)] dX7_allHandings_3 rfl rfl (by decide) rfl ?_
  exact rf_lv _ [2, 1, 0] rfl (r_X7_allHandings_4 C K fu fu _ ha0 _ _ _)
