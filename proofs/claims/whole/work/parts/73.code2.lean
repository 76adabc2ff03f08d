theorem dJ0_isLatin1_aae02_0 : decode cJ0_isLatin1_aae02 0 = .ok (.getstatic 38, 3) := by decide +kernel
theorem dJ0_isLatin1_aae02_3 : decode cJ0_isLatin1_aae02 3 = .ok (.ifCond .eq 14, 3) := by decide +kernel
theorem dJ0_isLatin1_aae02_6 : decode cJ0_isLatin1_aae02 6 = .ok (.aload_n 0, 1) := by decide +kernel
theorem dJ0_isLatin1_aae02_7 : decode cJ0_isLatin1_aae02 7 = .ok (.getfield 15, 3) := by decide +kernel
theorem dJ0_isLatin1_aae02_10 : decode cJ0_isLatin1_aae02 10 = .ok (.ifCond .ne 7, 3) := by decide +kernel
theorem dJ0_isLatin1_aae02_13 : decode cJ0_isLatin1_aae02 13 = .ok (.iconst 1, 1) := by decide +kernel
theorem dJ0_isLatin1_aae02_14 : decode cJ0_isLatin1_aae02 14 = .ok (.goto 4, 3) := by decide +kernel
theorem dJ0_isLatin1_aae02_17 : decode cJ0_isLatin1_aae02 17 = .ok (.iconst 0, 1) := by decide +kernel
theorem dJ0_isLatin1_aae02_18 : decode cJ0_isLatin1_aae02 18 = .ok (.ireturn, 1) := by decide +kernel
theorem dJ0_coder_7d493_0 : decode cJ0_coder_7d493 0 = .ok (.getstatic 38, 3) := by decide +kernel
theorem dJ0_coder_7d493_3 : decode cJ0_coder_7d493 3 = .ok (.ifCond .eq 10, 3) := by decide +kernel
theorem dJ0_coder_7d493_6 : decode cJ0_coder_7d493 6 = .ok (.aload_n 0, 1) := by decide +kernel
theorem dJ0_coder_7d493_7 : decode cJ0_coder_7d493 7 = .ok (.getfield 15, 3) := by decide +kernel
theorem dJ0_coder_7d493_10 : decode cJ0_coder_7d493 10 = .ok (.goto 4, 3) := by decide +kernel
theorem dJ0_coder_7d493_13 : decode cJ0_coder_7d493 13 = .ok (.iconst 1, 1) := by decide +kernel
theorem dJ0_coder_7d493_14 : decode cJ0_coder_7d493 14 = .ok (.ireturn, 1) := by decide +kernel
theorem dJ0_length_8abf5_0 : decode cJ0_length_8abf5 0 = .ok (.aload_n 0, 1) := by decide +kernel
theorem dJ0_length_8abf5_1 : decode cJ0_length_8abf5 1 = .ok (.getfield 9, 3) := by decide +kernel
theorem dJ0_length_8abf5_4 : decode cJ0_length_8abf5 4 = .ok (.arraylength, 1) := by decide +kernel
theorem dJ0_length_8abf5_5 : decode cJ0_length_8abf5 5 = .ok (.aload_n 0, 1) := by decide +kernel
theorem dJ0_length_8abf5_6 : decode cJ0_length_8abf5 6 = .ok (.invokevirtual 335, 3) := by decide +kernel
theorem dJ0_length_8abf5_9 : decode cJ0_length_8abf5 9 = .ok (.ishr, 1) := by decide +kernel
theorem dJ0_length_8abf5_10 : decode cJ0_length_8abf5 10 = .ok (.ireturn, 1) := by decide +kernel
theorem dJ1_canEncode_9a6ad_0 : decode cJ1_canEncode_9a6ad 0 = .ok (.iload_n 0, 1) := by decide +kernel
theorem dJ1_canEncode_9a6ad_1 : decode cJ1_canEncode_9a6ad 1 = .ok (.ifCond .lt 14, 3) := by decide +kernel
theorem dJ1_canEncode_9a6ad_4 : decode cJ1_canEncode_9a6ad 4 = .ok (.iload_n 0, 1) := by decide +kernel
theorem dJ1_canEncode_9a6ad_5 : decode cJ1_canEncode_9a6ad 5 = .ok (.sipush 255, 3) := by decide +kernel
theorem dJ1_canEncode_9a6ad_8 : decode cJ1_canEncode_9a6ad 8 = .ok (.if_icmp .gt 7, 3) := by decide +kernel
theorem dJ1_canEncode_9a6ad_11 : decode cJ1_canEncode_9a6ad 11 = .ok (.iconst 1, 1) := by decide +kernel
theorem dJ1_canEncode_9a6ad_12 : decode cJ1_canEncode_9a6ad 12 = .ok (.goto 4, 3) := by decide +kernel
theorem dJ1_canEncode_9a6ad_15 : decode cJ1_canEncode_9a6ad 15 = .ok (.iconst 0, 1) := by decide +kernel
theorem dJ1_canEncode_9a6ad_16 : decode cJ1_canEncode_9a6ad 16 = .ok (.ireturn, 1) := by decide +kernel
theorem dJ1_indexOfChar_4cfef_0 : decode cJ1_indexOfChar_4cfef 0 = .ok (.iload_n 1, 1) := by decide +kernel
theorem dJ1_indexOfChar_4cfef_1 : decode cJ1_indexOfChar_4cfef 1 = .ok (.i2b, 1) := by decide +kernel
theorem dJ1_indexOfChar_4cfef_2 : decode cJ1_indexOfChar_4cfef 2 = .ok (.istore 4, 2) := by decide +kernel
theorem dJ1_indexOfChar_4cfef_4 : decode cJ1_indexOfChar_4cfef 4 = .ok (.iload_n 2, 1) := by decide +kernel
theorem dJ1_indexOfChar_4cfef_5 : decode cJ1_indexOfChar_4cfef 5 = .ok (.istore 5, 2) := by decide +kernel
theorem dJ1_indexOfChar_4cfef_7 : decode cJ1_indexOfChar_4cfef 7 = .ok (.iload 5, 2) := by decide +kernel
theorem dJ1_indexOfChar_4cfef_9 : decode cJ1_indexOfChar_4cfef 9 = .ok (.iload_n 3, 1) := by decide +kernel
theorem dJ1_indexOfChar_4cfef_10 : decode cJ1_indexOfChar_4cfef 10 = .ok (.if_icmp .ge 21, 3) := by decide +kernel
theorem dJ1_indexOfChar_4cfef_13 : decode cJ1_indexOfChar_4cfef 13 = .ok (.aload_n 0, 1) := by decide +kernel
theorem dJ1_indexOfChar_4cfef_14 : decode cJ1_indexOfChar_4cfef 14 = .ok (.iload 5, 2) := by decide +kernel
theorem dJ1_indexOfChar_4cfef_16 : decode cJ1_indexOfChar_4cfef 16 = .ok (.baload, 1) := by decide +kernel
theorem dJ1_indexOfChar_4cfef_17 : decode cJ1_indexOfChar_4cfef 17 = .ok (.iload 4, 2) := by decide +kernel
theorem dJ1_indexOfChar_4cfef_19 : decode cJ1_indexOfChar_4cfef 19 = .ok (.if_icmp .ne 6, 3) := by decide +kernel
theorem dJ1_indexOfChar_4cfef_22 : decode cJ1_indexOfChar_4cfef 22 = .ok (.iload 5, 2) := by decide +kernel
theorem dJ1_indexOfChar_4cfef_24 : decode cJ1_indexOfChar_4cfef 24 = .ok (.ireturn, 1) := by decide +kernel
theorem dJ1_indexOfChar_4cfef_25 : decode cJ1_indexOfChar_4cfef 25 = .ok (.iinc 5 1, 3) := by decide +kernel
theorem dJ1_indexOfChar_4cfef_28 : decode cJ1_indexOfChar_4cfef 28 = .ok (.goto (-21), 3) := by decide +kernel
theorem dJ1_indexOfChar_4cfef_31 : decode cJ1_indexOfChar_4cfef 31 = .ok (.iconst (-1), 1) := by decide +kernel
theorem dJ1_indexOfChar_4cfef_32 : decode cJ1_indexOfChar_4cfef 32 = .ok (.ireturn, 1) := by decide +kernel
theorem dJ1_indexOf_4cfef_0 : decode cJ1_indexOf_4cfef 0 = .ok (.iload_n 1, 1) := by decide +kernel
theorem dJ1_indexOf_4cfef_1 : decode cJ1_indexOf_4cfef 1 = .ok (.invokestatic 88, 3) := by decide +kernel
theorem dJ1_indexOf_4cfef_4 : decode cJ1_indexOf_4cfef 4 = .ok (.ifCond .ne 5, 3) := by decide +kernel
theorem dJ1_indexOf_4cfef_7 : decode cJ1_indexOf_4cfef 7 = .ok (.iconst (-1), 1) := by decide +kernel
theorem dJ1_indexOf_4cfef_8 : decode cJ1_indexOf_4cfef 8 = .ok (.ireturn, 1) := by decide +kernel
theorem dJ1_indexOf_4cfef_9 : decode cJ1_indexOf_4cfef 9 = .ok (.iload_n 2, 1) := by decide +kernel
theorem dJ1_indexOf_4cfef_10 : decode cJ1_indexOf_4cfef 10 = .ok (.iconst 0, 1) := by decide +kernel
theorem dJ1_indexOf_4cfef_11 : decode cJ1_indexOf_4cfef 11 = .ok (.invokestatic 92, 3) := by decide +kernel
theorem dJ1_indexOf_4cfef_14 : decode cJ1_indexOf_4cfef 14 = .ok (.istore_n 2, 1) := by decide +kernel
theorem dJ1_indexOf_4cfef_15 : decode cJ1_indexOf_4cfef 15 = .ok (.iload_n 3, 1) := by decide +kernel
theorem dJ1_indexOf_4cfef_16 : decode cJ1_indexOf_4cfef 16 = .ok (.aload_n 0, 1) := by decide +kernel
theorem dJ1_indexOf_4cfef_17 : decode cJ1_indexOf_4cfef 17 = .ok (.arraylength, 1) := by decide +kernel
theorem dJ1_indexOf_4cfef_18 : decode cJ1_indexOf_4cfef 18 = .ok (.invokestatic 38, 3) := by decide +kernel
theorem dJ1_indexOf_4cfef_21 : decode cJ1_indexOf_4cfef 21 = .ok (.istore_n 3, 1) := by decide +kernel
theorem dJ1_indexOf_4cfef_22 : decode cJ1_indexOf_4cfef 22 = .ok (.iload_n 2, 1) := by decide +kernel
theorem dJ1_indexOf_4cfef_23 : decode cJ1_indexOf_4cfef 23 = .ok (.iload_n 3, 1) := by decide +kernel
theorem dJ1_indexOf_4cfef_24 : decode cJ1_indexOf_4cfef 24 = .ok (.if_icmp .lt 5, 3) := by decide +kernel
theorem dJ1_indexOf_4cfef_27 : decode cJ1_indexOf_4cfef 27 = .ok (.iconst (-1), 1) := by decide +kernel
theorem dJ1_indexOf_4cfef_28 : decode cJ1_indexOf_4cfef 28 = .ok (.ireturn, 1) := by decide +kernel
theorem dJ1_indexOf_4cfef_29 : decode cJ1_indexOf_4cfef 29 = .ok (.aload_n 0, 1) := by decide +kernel
theorem dJ1_indexOf_4cfef_30 : decode cJ1_indexOf_4cfef 30 = .ok (.iload_n 1, 1) := by decide +kernel
theorem dJ1_indexOf_4cfef_31 : decode cJ1_indexOf_4cfef 31 = .ok (.iload_n 2, 1) := by decide +kernel
theorem dJ1_indexOf_4cfef_32 : decode cJ1_indexOf_4cfef 32 = .ok (.iload_n 3, 1) := by decide +kernel
theorem dJ1_indexOf_4cfef_33 : decode cJ1_indexOf_4cfef 33 = .ok (.invokestatic 95, 3) := by decide +kernel
theorem dJ1_indexOf_4cfef_36 : decode cJ1_indexOf_4cfef 36 = .ok (.ireturn, 1) := by decide +kernel
theorem dJ0_indexOf_7cf53_0 : decode cJ0_indexOf_7cf53 0 = .ok (.aload_n 0, 1) := by decide +kernel
theorem dJ0_indexOf_7cf53_1 : decode cJ0_indexOf_7cf53 1 = .ok (.invokevirtual 492, 3) := by decide +kernel
theorem dJ0_indexOf_7cf53_4 : decode cJ0_indexOf_7cf53 4 = .ok (.ifCond .eq 19, 3) := by decide +kernel
theorem dJ0_indexOf_7cf53_7 : decode cJ0_indexOf_7cf53 7 = .ok (.aload_n 0, 1) := by decide +kernel
theorem dJ0_indexOf_7cf53_8 : decode cJ0_indexOf_7cf53 8 = .ok (.getfield 9, 3) := by decide +kernel
theorem dJ0_indexOf_7cf53_11 : decode cJ0_indexOf_7cf53 11 = .ok (.iload_n 1, 1) := by decide +kernel
theorem dJ0_indexOf_7cf53_12 : decode cJ0_indexOf_7cf53 12 = .ok (.iload_n 2, 1) := by decide +kernel
theorem dJ0_indexOf_7cf53_13 : decode cJ0_indexOf_7cf53 13 = .ok (.aload_n 0, 1) := by decide +kernel
theorem dJ0_indexOf_7cf53_14 : decode cJ0_indexOf_7cf53 14 = .ok (.invokevirtual 505, 3) := by decide +kernel
theorem dJ0_indexOf_7cf53_17 : decode cJ0_indexOf_7cf53 17 = .ok (.invokestatic 637, 3) := by decide +kernel
theorem dJ0_indexOf_7cf53_20 : decode cJ0_indexOf_7cf53 20 = .ok (.goto 16, 3) := by decide +kernel
theorem dJ0_indexOf_7cf53_23 : decode cJ0_indexOf_7cf53 23 = .ok (.aload_n 0, 1) := by decide +kernel
theorem dJ0_indexOf_7cf53_24 : decode cJ0_indexOf_7cf53 24 = .ok (.getfield 9, 3) := by decide +kernel
theorem dJ0_indexOf_7cf53_27 : decode cJ0_indexOf_7cf53 27 = .ok (.iload_n 1, 1) := by decide +kernel
theorem dJ0_indexOf_7cf53_28 : decode cJ0_indexOf_7cf53 28 = .ok (.iload_n 2, 1) := by decide +kernel
theorem dJ0_indexOf_7cf53_29 : decode cJ0_indexOf_7cf53 29 = .ok (.aload_n 0, 1) := by decide +kernel
theorem dJ0_indexOf_7cf53_30 : decode cJ0_indexOf_7cf53 30 = .ok (.invokevirtual 505, 3) := by decide +kernel
theorem dJ0_indexOf_7cf53_33 : decode cJ0_indexOf_7cf53 33 = .ok (.invokestatic 640, 3) := by decide +kernel
theorem dJ0_indexOf_7cf53_36 : decode cJ0_indexOf_7cf53 36 = .ok (.ireturn, 1) := by decide +kernel
theorem dJ0_indexOf_0f7a4_0 : decode cJ0_indexOf_0f7a4 0 = .ok (.aload_n 0, 1) := by decide +kernel
theorem dJ0_indexOf_0f7a4_1 : decode cJ0_indexOf_0f7a4 1 = .ok (.iload_n 1, 1) := by decide +kernel
theorem dJ0_indexOf_0f7a4_2 : decode cJ0_indexOf_0f7a4 2 = .ok (.iconst 0, 1) := by decide +kernel
theorem dJ0_indexOf_0f7a4_3 : decode cJ0_indexOf_0f7a4 3 = .ok (.invokevirtual 633, 3) := by decide +kernel
theorem dJ0_indexOf_0f7a4_6 : decode cJ0_indexOf_0f7a4 6 = .ok (.ireturn, 1) := by decide +kernel
theorem dJ3_checkIndex_8e157_0 : decode cJ3_checkIndex_8e157 0 = .ok (.iload_n 0, 1) := by decide +kernel
theorem dJ3_checkIndex_8e157_1 : decode cJ3_checkIndex_8e157 1 = .ok (.ifCond .lt 8, 3) := by decide +kernel
theorem dJ3_checkIndex_8e157_4 : decode cJ3_checkIndex_8e157 4 = .ok (.iload_n 0, 1) := by decide +kernel
theorem dJ3_checkIndex_8e157_5 : decode cJ3_checkIndex_8e157 5 = .ok (.iload_n 1, 1) := by decide +kernel
theorem dJ3_checkIndex_8e157_6 : decode cJ3_checkIndex_8e157 6 = .ok (.if_icmp .lt 10, 3) := by decide +kernel
theorem dJ3_checkIndex_8e157_9 : decode cJ3_checkIndex_8e157 9 = .ok (.aload_n 2, 1) := by decide +kernel
theorem dJ3_checkIndex_8e157_10 : decode cJ3_checkIndex_8e157 10 = .ok (.iload_n 0, 1) := by decide +kernel
theorem dJ3_checkIndex_8e157_11 : decode cJ3_checkIndex_8e157 11 = .ok (.iload_n 1, 1) := by decide +kernel
theorem dJ3_checkIndex_8e157_12 : decode cJ3_checkIndex_8e157 12 = .ok (.invokestatic 95, 3) := by decide +kernel
theorem dJ3_checkIndex_8e157_15 : decode cJ3_checkIndex_8e157 15 = .ok (.athrow, 1) := by decide +kernel
theorem dJ3_checkIndex_8e157_16 : decode cJ3_checkIndex_8e157 16 = .ok (.iload_n 0, 1) := by decide +kernel
theorem dJ3_checkIndex_8e157_17 : decode cJ3_checkIndex_8e157 17 = .ok (.ireturn, 1) := by decide +kernel
theorem dJ0_checkIndex_df160_0 : decode cJ0_checkIndex_df160 0 = .ok (.iload_n 0, 1) := by decide +kernel
theorem dJ0_checkIndex_df160_1 : decode cJ0_checkIndex_df160 1 = .ok (.iload_n 1, 1) := by decide +kernel
theorem dJ0_checkIndex_df160_2 : decode cJ0_checkIndex_df160 2 = .ok (.getstatic 1053, 3) := by decide +kernel
theorem dJ0_checkIndex_df160_5 : decode cJ0_checkIndex_df160 5 = .ok (.invokestatic 1059, 3) := by decide +kernel
theorem dJ0_checkIndex_df160_8 : decode cJ0_checkIndex_df160 8 = .ok (.pop, 1) := by decide +kernel
theorem dJ0_checkIndex_df160_9 : decode cJ0_checkIndex_df160 9 = .ok (.return_, 1) := by decide +kernel
theorem dJ1_charAt_3b067_0 : decode cJ1_charAt_3b067 0 = .ok (.iload_n 1, 1) := by decide +kernel
theorem dJ1_charAt_3b067_1 : decode cJ1_charAt_3b067 1 = .ok (.aload_n 0, 1) := by decide +kernel
theorem dJ1_charAt_3b067_2 : decode cJ1_charAt_3b067 2 = .ok (.arraylength, 1) := by decide +kernel
theorem dJ1_charAt_3b067_3 : decode cJ1_charAt_3b067 3 = .ok (.invokestatic 9, 3) := by decide +kernel
theorem dJ1_charAt_3b067_6 : decode cJ1_charAt_3b067 6 = .ok (.aload_n 0, 1) := by decide +kernel
theorem dJ1_charAt_3b067_7 : decode cJ1_charAt_3b067 7 = .ok (.iload_n 1, 1) := by decide +kernel
theorem dJ1_charAt_3b067_8 : decode cJ1_charAt_3b067 8 = .ok (.baload, 1) := by decide +kernel
theorem dJ1_charAt_3b067_9 : decode cJ1_charAt_3b067 9 = .ok (.sipush 255, 3) := by decide +kernel
theorem dJ1_charAt_3b067_12 : decode cJ1_charAt_3b067 12 = .ok (.iand, 1) := by decide +kernel
theorem dJ1_charAt_3b067_13 : decode cJ1_charAt_3b067 13 = .ok (.i2c, 1) := by decide +kernel
theorem dJ1_charAt_3b067_14 : decode cJ1_charAt_3b067 14 = .ok (.ireturn, 1) := by decide +kernel
theorem dJ0_charAt_5068e_0 : decode cJ0_charAt_5068e 0 = .ok (.aload_n 0, 1) := by decide +kernel
theorem dJ0_charAt_5068e_1 : decode cJ0_charAt_5068e 1 = .ok (.invokevirtual 492, 3) := by decide +kernel
theorem dJ0_charAt_5068e_4 : decode cJ0_charAt_5068e 4 = .ok (.ifCond .eq 12, 3) := by decide +kernel
theorem dJ0_charAt_5068e_7 : decode cJ0_charAt_5068e 7 = .ok (.aload_n 0, 1) := by decide +kernel
theorem dJ0_charAt_5068e_8 : decode cJ0_charAt_5068e 8 = .ok (.getfield 9, 3) := by decide +kernel
theorem dJ0_charAt_5068e_11 : decode cJ0_charAt_5068e 11 = .ok (.iload_n 1, 1) := by decide +kernel
theorem dJ0_charAt_5068e_12 : decode cJ0_charAt_5068e 12 = .ok (.invokestatic 495, 3) := by decide +kernel
theorem dJ0_charAt_5068e_15 : decode cJ0_charAt_5068e 15 = .ok (.ireturn, 1) := by decide +kernel
theorem dJ0_charAt_5068e_16 : decode cJ0_charAt_5068e 16 = .ok (.aload_n 0, 1) := by decide +kernel
theorem dJ0_charAt_5068e_17 : decode cJ0_charAt_5068e 17 = .ok (.getfield 9, 3) := by decide +kernel
theorem dJ0_charAt_5068e_20 : decode cJ0_charAt_5068e 20 = .ok (.iload_n 1, 1) := by decide +kernel
theorem dJ0_charAt_5068e_21 : decode cJ0_charAt_5068e 21 = .ok (.invokestatic 498, 3) := by decide +kernel
theorem dJ0_charAt_5068e_24 : decode cJ0_charAt_5068e 24 = .ok (.ireturn, 1) := by decide +kernel
theorem dX11_among_0 : decode cX11_among 0 = .ok (.iconst 0, 1) := by decide +kernel
theorem dX11_among_1 : decode cX11_among 1 = .ok (.istore_n 2, 1) := by decide +kernel
theorem dX11_among_2 : decode cX11_among 2 = .ok (.iload_n 2, 1) := by decide +kernel
theorem dX11_among_3 : decode cX11_among 3 = .ok (.aload_n 1, 1) := by decide +kernel
theorem dX11_among_4 : decode cX11_among 4 = .ok (.invokevirtual 186, 3) := by decide +kernel
theorem dX11_among_7 : decode cX11_among 7 = .ok (.if_icmp .ge 39, 3) := by decide +kernel
theorem dX11_among_10 : decode cX11_among 10 = .ok (.aload_n 0, 1) := by decide +kernel
theorem dX11_among_11 : decode cX11_among 11 = .ok (.getfield 176, 3) := by decide +kernel
theorem dX11_among_14 : decode cX11_among 14 = .ok (.aload_n 0, 1) := by decide +kernel
theorem dX11_among_15 : decode cX11_among 15 = .ok (.getfield 179, 3) := by decide +kernel
theorem dX11_among_18 : decode cX11_among 18 = .ok (.if_icmp .ge 28, 3) := by decide +kernel
theorem dX11_among_21 : decode cX11_among 21 = .ok (.aload_n 1, 1) := by decide +kernel
theorem dX11_among_22 : decode cX11_among 22 = .ok (.iload_n 2, 1) := by decide +kernel
theorem dX11_among_23 : decode cX11_among 23 = .ok (.invokevirtual 192, 3) := by decide +kernel
theorem dX11_among_26 : decode cX11_among 26 = .ok (.aload_n 0, 1) := by decide +kernel
theorem dX11_among_27 : decode cX11_among 27 = .ok (.getfield 173, 3) := by decide +kernel
theorem dX11_among_30 : decode cX11_among 30 = .ok (.aload_n 0, 1) := by decide +kernel
theorem dX11_among_31 : decode cX11_among 31 = .ok (.getfield 176, 3) := by decide +kernel
theorem dX11_among_34 : decode cX11_among 34 = .ok (.iaload, 1) := by decide +kernel
theorem dX11_among_35 : decode cX11_among 35 = .ok (.if_icmp .ne 5, 3) := by decide +kernel
theorem dX11_among_38 : decode cX11_among 38 = .ok (.iload_n 2, 1) := by decide +kernel
theorem dX11_among_39 : decode cX11_among 39 = .ok (.ireturn, 1) := by decide +kernel
theorem dX11_among_40 : decode cX11_among 40 = .ok (.iinc 2 1, 3) := by decide +kernel
theorem dX11_among_43 : decode cX11_among 43 = .ok (.goto (-41), 3) := by decide +kernel
theorem dX11_among_46 : decode cX11_among 46 = .ok (.iconst (-1), 1) := by decide +kernel
theorem dX11_among_47 : decode cX11_among 47 = .ok (.ireturn, 1) := by decide +kernel
noncomputable def f_J0_isLatin1_aae02 (fu : Nat) (a0 : Nat) (m : hM) : Option (Int32 × hM) :=
  if a0 < 9 then (some (1, m)) else none
set_option maxRecDepth 100000 in
set_option maxHeartbeats 4000000 in
theorem c_J0_isLatin1_aae02 (G : hG) (fu : Nat) (a0 : Nat) (m : hM) : Mt2 vI G 1 yJ0_isLatin1_aae02 cJ0_isLatin1_aae02 1 (some .boolean) [zK G a0] m (f_J0_isLatin1_aae02 fu a0 m) := by
  refine mt2_of (by decide +kernel) (Nat.le_of_ble_eq_true rfl) (fun X C K Z => ?_)
  have C : Cx G X 1 cJ0_isLatin1_aae02 1 RJ0 (some .boolean) := C
  show Rf vI G X 0 [(0, zK G a0)] [] m _
  unfold f_J0_isLatin1_aae02
  refine rf_guard (fun ha0 => ?_)
  refine rz_gets C (n := 3) Z sf_RJ0_38 dJ0_isLatin1_aae02_0 rfl ?_
  refine rz_if_eqN C (tgt := 17) (n := 6) (by decide) dJ0_isLatin1_aae02_3 (by decide) rfl ?_
  refine rz_aload_nK C (n := 7) (q := 0) dJ0_isLatin1_aae02_6 rfl rfl rfl ?_
  refine rz_getSC C (n := 10) Z ha0 sf_RJ0_15 dJ0_isLatin1_aae02_7 rfl ?_
  refine rz_if_neN C (tgt := 17) (n := 13) (by decide) dJ0_isLatin1_aae02_10 (by decide) rfl ?_
  refine rf_iconst C (n := 14) (v := 1) dJ0_isLatin1_aae02_13 rfl (by decide) ?_
  refine rf_goto C (n := 18) dJ0_isLatin1_aae02_14 (by decide) ?_
  exact rf_zret C K (by decide) dJ0_isLatin1_aae02_18
noncomputable def f_J0_coder_7d493 (fu : Nat) (a0 : Nat) (m : hM) : Option (Int32 × hM) :=
  if a0 < 9 then (some (0, m)) else none
set_option maxRecDepth 100000 in
set_option maxHeartbeats 4000000 in
theorem c_J0_coder_7d493 (G : hG) (fu : Nat) (a0 : Nat) (m : hM) : Mt2 vI G 1 yJ0_coder_7d493 cJ0_coder_7d493 1 (some .byte) [zK G a0] m (f_J0_coder_7d493 fu a0 m) := by
  refine mt2_of (by decide +kernel) (Nat.le_of_ble_eq_true rfl) (fun X C K Z => ?_)
  have C : Cx G X 1 cJ0_coder_7d493 1 RJ0 (some .byte) := C
  show Rf vI G X 0 [(0, zK G a0)] [] m _
  unfold f_J0_coder_7d493
  refine rf_guard (fun ha0 => ?_)
  refine rz_gets C (n := 3) Z sf_RJ0_38 dJ0_coder_7d493_0 rfl ?_
  refine rz_if_eqN C (tgt := 13) (n := 6) (by decide) dJ0_coder_7d493_3 (by decide) rfl ?_
  refine rz_aload_nK C (n := 7) (q := 0) dJ0_coder_7d493_6 rfl rfl rfl ?_
  refine rz_getSC C (n := 10) Z ha0 sf_RJ0_15 dJ0_coder_7d493_7 rfl ?_
  refine rf_goto C (n := 14) dJ0_coder_7d493_10 (by decide) ?_
  exact rf_bret C K (by decide) dJ0_coder_7d493_14
noncomputable def f_J0_length_8abf5 (fu : Nat) (a0 : Nat) (m : hM) : Option (Int32 × hM) :=
  if a0 < 9 then (hBd (f_J0_coder_7d493 fu a0 m) fun y1 m2 =>
some ((Int32.ofNat (lnS.getD a0 0)) >>> (y1 &&& 31), m2)) else none
set_option maxRecDepth 100000 in
set_option maxHeartbeats 4000000 in
theorem c_J0_length_8abf5 (G : hG) (fu : Nat) (a0 : Nat) (m : hM) : Mt2 vI G 2 yJ0_length_8abf5 cJ0_length_8abf5 1 (some .int) [zK G a0] m (f_J0_length_8abf5 fu a0 m) := by
  refine mt2_of (by decide +kernel) (Nat.le_of_ble_eq_true rfl) (fun X C K Z => ?_)
  have C : Cx G X 2 cJ0_length_8abf5 1 RJ0 (some .int) := C
  show Rf vI G X 0 [(0, zK G a0)] [] m _
  unfold f_J0_length_8abf5
  refine rf_guard (fun ha0 => ?_)
  refine rz_aload_nK C (n := 1) (q := 0) dJ0_length_8abf5_0 rfl rfl rfl ?_
  refine rz_getSV C (n := 4) Z ha0 sf_RJ0_9 dJ0_length_8abf5_1 rfl ?_
  refine rz_tlen C (n := 5) Z ha0 dJ0_length_8abf5_4 rfl ?_
  refine rz_aload_nK C (n := 6) (q := 0) dJ0_length_8abf5_5 rfl rfl rfl ?_
  refine rz_callTi C (n := 9) Z (c_J0_coder_7d493 G fu _ _) mw_RJ0_335 ha0 ⟨by decide, by decide⟩ rfl (Nat.le_of_ble_eq_true rfl) rfl dJ0_length_8abf5_6 rfl (fun y1 m2 => ?_)
  refine rf_ishr C (n := 10) dJ0_length_8abf5_9 rfl ?_
  exact rf_iret C K dJ0_length_8abf5_10
noncomputable def f_J1_canEncode_9a6ad (fu : Nat) (x0 : Int32) (m : hM) : Option (Int32 × hM) :=
  if x0 < 0 then (
some (0, m)) else (
if 255 < x0 then (
some (0, m)) else (
some (1, m)))
set_option maxRecDepth 100000 in
set_option maxHeartbeats 4000000 in
theorem c_J1_canEncode_9a6ad (G : hG) (fu : Nat) (x0 : Int32) (m : hM) : Mt2 vI G 1 yJ1_canEncode_9a6ad cJ1_canEncode_9a6ad 1 (some .boolean) [.int x0] m (f_J1_canEncode_9a6ad fu x0 m) := by
  refine mt2_of (by decide +kernel) (Nat.le_of_ble_eq_true rfl) (fun X C K Z => ?_)
  have C : Cx G X 1 cJ1_canEncode_9a6ad 1 RJ1 (some .boolean) := C
  show Rf vI G X 0 [(0, .int x0)] [] m _
  unfold f_J1_canEncode_9a6ad
  refine rf_iload_n C (n := 1) (q := 0) dJ1_canEncode_9a6ad_0 rfl rfl rfl ?_
  refine rf_if_lt C (tgt := 15) (n := 4) dJ1_canEncode_9a6ad_1 (by decide) rfl (fun h1 => ?_) (fun h1 => ?_)
  · refine rf_iconst C (n := 16) (v := 0) dJ1_canEncode_9a6ad_15 rfl (by decide) ?_
    exact rf_zret C K (by decide) dJ1_canEncode_9a6ad_16
  · refine rf_iload_n C (n := 5) (q := 0) dJ1_canEncode_9a6ad_4 rfl rfl rfl ?_
    refine rf_sipush C (n := 8) (v := 255) dJ1_canEncode_9a6ad_5 rfl (by decide) ?_
    refine rf_icmp_gt C (tgt := 15) (n := 11) dJ1_canEncode_9a6ad_8 (by decide) rfl (fun h2 => ?_) (fun h2 => ?_)
    · refine rf_iconst C (n := 16) (v := 0) dJ1_canEncode_9a6ad_15 rfl (by decide) ?_
      exact rf_zret C K (by decide) dJ1_canEncode_9a6ad_16
    · refine rf_iconst C (n := 12) (v := 1) dJ1_canEncode_9a6ad_11 rfl (by decide) ?_
      refine rf_goto C (n := 16) dJ1_canEncode_9a6ad_12 (by decide) ?_
      exact rf_zret C K (by decide) dJ1_canEncode_9a6ad_16
noncomputable def s_J1_indexOfChar_4cfef_7 (fu : Nat) (ih : Nat → Int32 → Int32 → Int32 → hM → Option (Int32 × hM)) (a0 : Nat) (x3 : Int32) (x4 : Int32) (x5 : Int32) (m : hM) : Option (Int32 × hM) :=
  if x3 ≤ x5 then (
some ((-1), m)) else (
if hIn x5 (lnS.getD a0 0) then (
if ¬ ((byS.getD a0 []).getD (Int32.toNatClampNeg x5) 0) = x4 then (
hLet (x5 + 1) fun y5 =>
ih a0 x3 x4 y5 m) else (
some (x5, m))) else none)
noncomputable def f_J1_indexOfChar_4cfef_7 (fu : Nat) (n : Nat) : Nat → Int32 → Int32 → Int32 → hM → Option (Int32 × hM) :=
  Nat.rec (motive := fun _ => Nat → Int32 → Int32 → Int32 → hM → Option (Int32 × hM)) (fun _ _ _ _ _ => none) (fun _ ih => s_J1_indexOfChar_4cfef_7 fu ih) n
theorem f_J1_indexOfChar_4cfef_7_s (fu : Nat) (n : Nat) (a0 : Nat) (x3 : Int32) (x4 : Int32) (x5 : Int32) (m : hM) : f_J1_indexOfChar_4cfef_7 fu (n + 1) a0 x3 x4 x5 m = s_J1_indexOfChar_4cfef_7 fu (f_J1_indexOfChar_4cfef_7 fu n) a0 x3 x4 x5 m := rfl
set_option maxRecDepth 100000 in
set_option maxHeartbeats 4000000 in
theorem r_J1_indexOfChar_4cfef_7 {G : hG} {X : hX} (C : Cx G X 1 cJ1_indexOfChar_4cfef 6 RJ1 (some .int)) (K : Cr G X) (Z : Cz G X) (fu : Nat) (n : Nat) : ∀ (a0 : Nat) (ha0 : a0 < 9) (x3 : Int32) (x4 : Int32) (x5 : Int32) (m : hM), Rf vI G X 7 [(0, zV G a0), (3, .int x3), (4, .int x4), (5, .int x5)] [] m (f_J1_indexOfChar_4cfef_7 fu n a0 x3 x4 x5 m) := by
  induction n with
  | zero => intros; exact rf_none
  | succ n ih =>
    intro a0 ha0 x3 x4 x5 m
    show Rf vI G X 7 [(0, zV G a0), (3, .int x3), (4, .int x4), (5, .int x5)] [] m (s_J1_indexOfChar_4cfef_7 fu (f_J1_indexOfChar_4cfef_7 fu n) a0 x3 x4 x5 m)
    unfold s_J1_indexOfChar_4cfef_7
    refine rf_iload C (n := 9) (q := 3) dJ1_indexOfChar_4cfef_7 rfl rfl ?_
    refine rf_iload_n C (n := 10) (q := 1) dJ1_indexOfChar_4cfef_9 rfl rfl rfl ?_
    refine rf_icmp_ge C (tgt := 31) (n := 13) dJ1_indexOfChar_4cfef_10 (by decide) rfl (fun h2 => ?_) (fun h2 => ?_)
    · refine rf_iconst C (n := 32) (v := (-1)) dJ1_indexOfChar_4cfef_31 rfl (by decide) ?_
      exact rf_iret C K dJ1_indexOfChar_4cfef_32
    · refine rz_aload_nV C (n := 14) (q := 0) dJ1_indexOfChar_4cfef_13 rfl rfl rfl ?_
      refine rf_iload C (n := 16) (q := 3) dJ1_indexOfChar_4cfef_14 rfl rfl ?_
      refine rf_guard (fun h3 => ?_)
      refine rz_tb C (n := 17) Z ha0 h3 dJ1_indexOfChar_4cfef_16 rfl ?_
      refine rf_iload C (n := 19) (q := 2) dJ1_indexOfChar_4cfef_17 rfl rfl ?_
      refine rf_icmp_ne C (tgt := 25) (n := 22) dJ1_indexOfChar_4cfef_19 (by decide) rfl (fun h4 => ?_) (fun h4 => ?_)
      · refine rf_iinc2 C (n := 28) (q := 3) (fun y5 => [(5, .int y5), (0, zV G a0), (3, .int x3), (4, .int x4)]) dJ1_indexOfChar_4cfef_25 rfl rfl (by decide) (by decide) (fun _ => rfl) (fun y5 => ?_)
        refine rf_goto C (n := 7) dJ1_indexOfChar_4cfef_28 (by decide) ?_
        exact rf_lv _ [1, 2, 3, 0] rfl (ih _ ha0 _ _ _ _)
      · refine rf_iload C (n := 24) (q := 3) dJ1_indexOfChar_4cfef_22 rfl rfl ?_
        exact rf_iret C K dJ1_indexOfChar_4cfef_24
noncomputable def f_J1_indexOfChar_4cfef (fu : Nat) (a0 : Nat) (x1 : Int32) (x2 : Int32) (x3 : Int32) (m : hM) : Option (Int32 × hM) :=
  if a0 < 9 then (hLet ((Int32.toInt8 x1).toInt32) fun y1 =>
f_J1_indexOfChar_4cfef_7 fu fu a0 x3 y1 x2 m) else none
set_option maxRecDepth 100000 in
set_option maxHeartbeats 4000000 in
theorem c_J1_indexOfChar_4cfef (G : hG) (fu : Nat) (a0 : Nat) (x1 : Int32) (x2 : Int32) (x3 : Int32) (m : hM) : Mt2 vI G 1 yJ1_indexOfChar_4cfef cJ1_indexOfChar_4cfef 6 (some .int) [zV G a0, .int x1, .int x2, .int x3] m (f_J1_indexOfChar_4cfef fu a0 x1 x2 x3 m) := by
  refine mt2_of (by decide +kernel) (Nat.le_of_ble_eq_true rfl) (fun X C K Z => ?_)
  have C : Cx G X 1 cJ1_indexOfChar_4cfef 6 RJ1 (some .int) := C
  show Rf vI G X 0 [(0, zV G a0), (1, .int x1), (2, .int x2), (3, .int x3)] [] m _
  unfold f_J1_indexOfChar_4cfef
  refine rf_guard (fun ha0 => ?_)
  refine rf_iload_n C (n := 1) (q := 1) dJ1_indexOfChar_4cfef_0 rfl rfl rfl ?_
  refine rf_i2b C (n := 2) dJ1_indexOfChar_4cfef_1 rfl ?_
  refine rf_letI (fun y1 => ?_)
  refine rf_istore C (n := 4) [(4, .int y1), (0, zV G a0), (1, .int x1), (2, .int x2), (3, .int x3)] dJ1_indexOfChar_4cfef_2 rfl (by decide) rfl ?_
  refine rf_iload_n C (n := 5) (q := 3) dJ1_indexOfChar_4cfef_4 rfl rfl rfl ?_
  refine rf_istore C (n := 7) [(5, .int x2), (4, .int y1), (0, zV G a0), (1, .int x1), (2, .int x2), (3, .int x3)] dJ1_indexOfChar_4cfef_5 rfl (by decide) rfl ?_
  exact rf_lv _ [2, 5, 1, 0] rfl (r_J1_indexOfChar_4cfef_7 C K Z fu fu _ ha0 _ _ _ _)
noncomputable def f_J1_indexOf_4cfef (fu : Nat) (a0 : Nat) (x1 : Int32) (x2 : Int32) (x3 : Int32) (m : hM) : Option (Int32 × hM) :=
  if a0 < 9 then (hBd (f_J1_canEncode_9a6ad fu x1 m) fun y1 m2 =>
if ¬ y1 = 0 then (
hBd (f_J9_max_7cf53 fu x2 0 m2) fun y4 m5 =>
hBd (f_J9_min_7cf53 fu x3 (Int32.ofNat (lnS.getD a0 0)) m5) fun y6 m7 =>
if y4 < y6 then (
hBd (f_J1_indexOfChar_4cfef fu a0 x1 y4 y6 m7) fun y9 m10 =>
some (y9, m10)) else (
some ((-1), m7))) else (
some ((-1), m2))) else none
set_option maxRecDepth 100000 in
set_option maxHeartbeats 4000000 in
theorem c_J1_indexOf_4cfef (G : hG) (fu : Nat) (a0 : Nat) (x1 : Int32) (x2 : Int32) (x3 : Int32) (m : hM) : Mt2 vI G 2 yJ1_indexOf_4cfef cJ1_indexOf_4cfef 4 (some .int) [zV G a0, .int x1, .int x2, .int x3] m (f_J1_indexOf_4cfef fu a0 x1 x2 x3 m) := by
  refine mt2_of (by decide +kernel) (Nat.le_of_ble_eq_true rfl) (fun X C K Z => ?_)
  have C : Cx G X 2 cJ1_indexOf_4cfef 4 RJ1 (some .int) := C
  show Rf vI G X 0 [(0, zV G a0), (1, .int x1), (2, .int x2), (3, .int x3)] [] m _
  unfold f_J1_indexOf_4cfef
  refine rf_guard (fun ha0 => ?_)
  refine rf_iload_n C (n := 1) (q := 1) dJ1_indexOf_4cfef_0 rfl rfl rfl ?_
  refine rz_callSi C (n := 4) Z (c_J1_canEncode_9a6ad G fu _ _) sw_RJ1_88 ⟨by decide, by decide⟩ rfl (Nat.le_of_ble_eq_true rfl) rfl dJ1_indexOf_4cfef_1 rfl (fun y1 m2 => ?_)
  refine rf_if_ne C (tgt := 9) (n := 7) dJ1_indexOf_4cfef_4 (by decide) rfl (fun h3 => ?_) (fun h3 => ?_)
  · refine rf_iload_n C (n := 10) (q := 2) dJ1_indexOf_4cfef_9 rfl rfl rfl ?_
    refine rf_iconst C (n := 11) (v := 0) dJ1_indexOf_4cfef_10 rfl (by decide) ?_
    refine rf_callSi C (n := 14) (c_J9_max_7cf53 G fu _ _ _) sw_RJ1_92 ⟨by decide, by decide⟩ rfl (Nat.le_of_ble_eq_true rfl) rfl dJ1_indexOf_4cfef_11 rfl (fun y4 m5 => ?_)
    refine rf_istore_n C (n := 15) [(2, .int y4), (0, zV G a0), (1, .int x1), (3, .int x3)] dJ1_indexOf_4cfef_14 rfl rfl (by decide) rfl ?_
    refine rf_iload_n C (n := 16) (q := 3) dJ1_indexOf_4cfef_15 rfl rfl rfl ?_
    refine rz_aload_nV C (n := 17) (q := 1) dJ1_indexOf_4cfef_16 rfl rfl rfl ?_
    refine rz_tlen C (n := 18) Z ha0 dJ1_indexOf_4cfef_17 rfl ?_
    refine rf_callSi C (n := 21) (c_J9_min_7cf53 G fu _ _ _) sw_RJ1_38 ⟨by decide, by decide⟩ rfl (Nat.le_of_ble_eq_true rfl) rfl dJ1_indexOf_4cfef_18 rfl (fun y6 m7 => ?_)
    refine rf_istore_n C (n := 22) [(3, .int y6), (2, .int y4), (0, zV G a0), (1, .int x1)] dJ1_indexOf_4cfef_21 rfl rfl (by decide) rfl ?_
    refine rf_iload_n C (n := 23) (q := 1) dJ1_indexOf_4cfef_22 rfl rfl rfl ?_
    refine rf_iload_n C (n := 24) (q := 0) dJ1_indexOf_4cfef_23 rfl rfl rfl ?_
    refine rf_icmp_lt C (tgt := 29) (n := 27) dJ1_indexOf_4cfef_24 (by decide) rfl (fun h8 => ?_) (fun h8 => ?_)
    · refine rz_aload_nV C (n := 30) (q := 2) dJ1_indexOf_4cfef_29 rfl rfl rfl ?_
      refine rf_iload_n C (n := 31) (q := 3) dJ1_indexOf_4cfef_30 rfl rfl rfl ?_
      refine rf_iload_n C (n := 32) (q := 1) dJ1_indexOf_4cfef_31 rfl rfl rfl ?_
      refine rf_iload_n C (n := 33) (q := 0) dJ1_indexOf_4cfef_32 rfl rfl rfl ?_
      refine rz_callSi C (n := 36) Z (c_J1_indexOfChar_4cfef G fu _ _ _ _ _) sw_RJ1_95 ⟨by decide, by decide⟩ rfl (Nat.le_of_ble_eq_true rfl) rfl dJ1_indexOf_4cfef_33 rfl (fun y9 m10 => ?_)
      exact rf_iret C K dJ1_indexOf_4cfef_36
    · refine rf_iconst C (n := 28) (v := (-1)) dJ1_indexOf_4cfef_27 rfl (by decide) ?_
      exact rf_iret C K dJ1_indexOf_4cfef_28
  · refine rf_iconst C (n := 8) (v := (-1)) dJ1_indexOf_4cfef_7 rfl (by decide) ?_
    exact rf_iret C K dJ1_indexOf_4cfef_8
noncomputable def f_J0_indexOf_7cf53 (fu : Nat) (a0 : Nat) (x1 : Int32) (x2 : Int32) (m : hM) : Option (Int32 × hM) :=
  if a0 < 9 then (hBd (f_J0_isLatin1_aae02 fu a0 m) fun y1 m2 =>
if y1 = 0 then (
none) else (
hBd (f_J0_length_8abf5 fu a0 m2) fun y4 m5 =>
hBd (f_J1_indexOf_4cfef fu a0 x1 x2 y4 m5) fun y6 m7 =>
some (y6, m7))) else none
set_option maxRecDepth 100000 in
set_option maxHeartbeats 4000000 in
theorem c_J0_indexOf_7cf53 (G : hG) (fu : Nat) (a0 : Nat) (x1 : Int32) (x2 : Int32) (m : hM) : Mt2 vI G 3 yJ0_indexOf_7cf53 cJ0_indexOf_7cf53 3 (some .int) [zK G a0, .int x1, .int x2] m (f_J0_indexOf_7cf53 fu a0 x1 x2 m) := by
  refine mt2_of (by decide +kernel) (Nat.le_of_ble_eq_true rfl) (fun X C K Z => ?_)
  have C : Cx G X 3 cJ0_indexOf_7cf53 3 RJ0 (some .int) := C
  show Rf vI G X 0 [(0, zK G a0), (1, .int x1), (2, .int x2)] [] m _
  unfold f_J0_indexOf_7cf53
  refine rf_guard (fun ha0 => ?_)
  refine rz_aload_nK C (n := 1) (q := 0) dJ0_indexOf_7cf53_0 rfl rfl rfl ?_
  refine rz_callTi C (n := 4) Z (c_J0_isLatin1_aae02 G fu _ _) mw_RJ0_492 ha0 ⟨by decide, by decide⟩ rfl (Nat.le_of_ble_eq_true rfl) rfl dJ0_indexOf_7cf53_1 rfl (fun y1 m2 => ?_)
  refine rf_if_eq C (tgt := 23) (n := 7) dJ0_indexOf_7cf53_4 (by decide) rfl (fun h3 => ?_) (fun h3 => ?_)
  · exact rf_none
  · refine rz_aload_nK C (n := 8) (q := 0) dJ0_indexOf_7cf53_7 rfl rfl rfl ?_
    refine rz_getSV C (n := 11) Z ha0 sf_RJ0_9 dJ0_indexOf_7cf53_8 rfl ?_
    refine rf_iload_n C (n := 12) (q := 1) dJ0_indexOf_7cf53_11 rfl rfl rfl ?_
    refine rf_iload_n C (n := 13) (q := 2) dJ0_indexOf_7cf53_12 rfl rfl rfl ?_
    refine rz_aload_nK C (n := 14) (q := 0) dJ0_indexOf_7cf53_13 rfl rfl rfl ?_
    refine rz_callTi C (n := 17) Z (c_J0_length_8abf5 G fu _ _) mw_RJ0_505 ha0 ⟨by decide, by decide⟩ rfl (Nat.le_of_ble_eq_true rfl) rfl dJ0_indexOf_7cf53_14 rfl (fun y4 m5 => ?_)
    refine rz_callSi C (n := 20) Z (c_J1_indexOf_4cfef G fu _ _ _ _ _) sw_RJ0_637 ⟨by decide, by decide⟩ rfl (Nat.le_of_ble_eq_true rfl) rfl dJ0_indexOf_7cf53_17 rfl (fun y6 m7 => ?_)
    refine rf_goto C (n := 36) dJ0_indexOf_7cf53_20 (by decide) ?_
    exact rf_iret C K dJ0_indexOf_7cf53_36
noncomputable def f_J0_indexOf_0f7a4 (fu : Nat) (a0 : Nat) (x1 : Int32) (m : hM) : Option (Int32 × hM) :=
  if a0 < 9 then (hBd (f_J0_indexOf_7cf53 fu a0 x1 0 m) fun y1 m2 =>
some (y1, m2)) else none
set_option maxRecDepth 100000 in
set_option maxHeartbeats 4000000 in
theorem c_J0_indexOf_0f7a4 (G : hG) (fu : Nat) (a0 : Nat) (x1 : Int32) (m : hM) : Mt2 vI G 4 yJ0_indexOf_0f7a4 cJ0_indexOf_0f7a4 2 (some .int) [zK G a0, .int x1] m (f_J0_indexOf_0f7a4 fu a0 x1 m) := by
  refine mt2_of (by decide +kernel) (Nat.le_of_ble_eq_true rfl) (fun X C K Z => ?_)
  have C : Cx G X 4 cJ0_indexOf_0f7a4 2 RJ0 (some .int) := C
  show Rf vI G X 0 [(0, zK G a0), (1, .int x1)] [] m _
  unfold f_J0_indexOf_0f7a4
  refine rf_guard (fun ha0 => ?_)
  refine rz_aload_nK C (n := 1) (q := 0) dJ0_indexOf_0f7a4_0 rfl rfl rfl ?_
  refine rf_iload_n C (n := 2) (q := 1) dJ0_indexOf_0f7a4_1 rfl rfl rfl ?_
  refine rf_iconst C (n := 3) (v := 0) dJ0_indexOf_0f7a4_2 rfl (by decide) ?_
  refine rz_callTi C (n := 6) Z (c_J0_indexOf_7cf53 G fu _ _ _ _) mw_RJ0_633 ha0 ⟨by decide, by decide⟩ rfl (Nat.le_of_ble_eq_true rfl) rfl dJ0_indexOf_0f7a4_3 rfl (fun y1 m2 => ?_)
  exact rf_iret C K dJ0_indexOf_0f7a4_6
noncomputable def f_J3_checkIndex_8e157 (fu : Nat) (x0 : Int32) (x1 : Int32) (m : hM) : Option (Int32 × hM) :=
  if x0 < 0 then (
none) else (
if x0 < x1 then (
some (x0, m)) else (
none))
set_option maxRecDepth 100000 in
set_option maxHeartbeats 4000000 in
theorem c_J3_checkIndex_8e157 (G : hG) (fu : Nat) (v2 : Option Nat) (x0 : Int32) (x1 : Int32) (m : hM) : Mt2 vI G 1 yJ3_checkIndex_8e157 cJ3_checkIndex_8e157 3 (some .int) [.int x0, .int x1, va_rf v2] m (f_J3_checkIndex_8e157 fu x0 x1 m) := by
  refine mt2_of (by decide +kernel) (by cases v2 <;> exact Nat.le_of_ble_eq_true rfl) (fun X C K Z => ?_)
  have C : Cx G X 1 cJ3_checkIndex_8e157 3 RJ3 (some .int) := C

  unfold f_J3_checkIndex_8e157
  refine rf_iload_n C (n := 1) (q := 0) dJ3_checkIndex_8e157_0 rfl rfl rfl ?_
  refine rf_if_lt C (tgt := 9) (n := 4) dJ3_checkIndex_8e157_1 (by decide) rfl (fun h1 => ?_) (fun h1 => ?_)
  · exact rf_none
  · refine rf_iload_n C (n := 5) (q := 0) dJ3_checkIndex_8e157_4 rfl rfl rfl ?_
    refine rf_iload_n C (n := 6) (q := 1) dJ3_checkIndex_8e157_5 rfl rfl rfl ?_
    refine rf_icmp_lt C (tgt := 16) (n := 9) dJ3_checkIndex_8e157_6 (by decide) rfl (fun h2 => ?_) (fun h2 => ?_)
    · refine rf_iload_n C (n := 17) (q := 0) dJ3_checkIndex_8e157_16 rfl rfl rfl ?_
      exact rf_iret C K dJ3_checkIndex_8e157_17
    · exact rf_none
noncomputable def f_J0_checkIndex_df160 (fu : Nat) (x0 : Int32) (x1 : Int32) (m : hM) : Option (Unit × hM) :=
  hBd (f_J3_checkIndex_8e157 fu x0 x1 m) fun y2 m3 =>
some ((), m3)
set_option maxRecDepth 100000 in
set_option maxHeartbeats 4000000 in
theorem c_J0_checkIndex_df160 (G : hG) (fu : Nat) (x0 : Int32) (x1 : Int32) (m : hM) : Mt2 vU G 2 yJ0_checkIndex_df160 cJ0_checkIndex_df160 2 none [.int x0, .int x1] m (f_J0_checkIndex_df160 fu x0 x1 m) := by
  refine mt2_of (by decide +kernel) (Nat.le_of_ble_eq_true rfl) (fun X C K Z => ?_)
  have C : Cx G X 2 cJ0_checkIndex_df160 2 RJ0 none := C
  show Rf vU G X 0 [(0, .int x0), (1, .int x1)] [] m _
  unfold f_J0_checkIndex_df160
  refine rf_iload_n C (n := 1) (q := 0) dJ0_checkIndex_df160_0 rfl rfl rfl ?_
  refine rf_iload_n C (n := 2) (q := 1) dJ0_checkIndex_df160_1 rfl rfl rfl ?_
  refine rz_getsF C (n := 5) Z sf_RJ0_1053 dJ0_checkIndex_df160_2 rfl (fun v1 => ?_)
  refine rz_callSi C (n := 8) Z (c_J3_checkIndex_8e157 G fu _ _ _ _) sw_RJ0_1059 ⟨by decide, by decide⟩ rfl (Nat.le_of_ble_eq_true rfl) rfl dJ0_checkIndex_df160_5 rfl (fun y2 m3 => ?_)
  refine rf_pop C (n := 9) dJ0_checkIndex_df160_8 rfl rfl ?_
  exact rf_vret C K dJ0_checkIndex_df160_9
noncomputable def f_J1_charAt_3b067 (fu : Nat) (a0 : Nat) (x1 : Int32) (m : hM) : Option (Int32 × hM) :=
  if a0 < 9 then (hBd (f_J0_checkIndex_df160 fu x1 (Int32.ofNat (lnS.getD a0 0)) m) fun _ m1 =>
if hIn x1 (lnS.getD a0 0) then (
if narrow .char (.int ((Int32.toUInt32 (((byS.getD a0 []).getD (Int32.toNatClampNeg x1) 0) &&& 255) % 65536).toInt32)) = .int ((Int32.toUInt32 (((byS.getD a0 []).getD (Int32.toNatClampNeg x1) 0) &&& 255) % 65536).toInt32) then (
some ((Int32.toUInt32 (((byS.getD a0 []).getD (Int32.toNatClampNeg x1) 0) &&& 255) % 65536).toInt32, m1)) else none) else none) else none
set_option maxRecDepth 100000 in
set_option maxHeartbeats 4000000 in
theorem c_J1_charAt_3b067 (G : hG) (fu : Nat) (a0 : Nat) (x1 : Int32) (m : hM) : Mt2 vI G 3 yJ1_charAt_3b067 cJ1_charAt_3b067 2 (some .char) [zV G a0, .int x1] m (f_J1_charAt_3b067 fu a0 x1 m) := by
  refine mt2_of (by decide +kernel) (Nat.le_of_ble_eq_true rfl) (fun X C K Z => ?_)
  have C : Cx G X 3 cJ1_charAt_3b067 2 RJ1 (some .char) := C
  show Rf vI G X 0 [(0, zV G a0), (1, .int x1)] [] m _
  unfold f_J1_charAt_3b067
  refine rf_guard (fun ha0 => ?_)
  refine rf_iload_n C (n := 1) (q := 1) dJ1_charAt_3b067_0 rfl rfl rfl ?_
  refine rz_aload_nV C (n := 2) (q := 0) dJ1_charAt_3b067_1 rfl rfl rfl ?_
  refine rz_tlen C (n := 3) Z ha0 dJ1_charAt_3b067_2 rfl ?_
  refine rz_callSv C (n := 6) Z (c_J0_checkIndex_df160 G fu _ _ _) sw_RJ1_9 ⟨by decide, by decide⟩ rfl (Nat.le_of_ble_eq_true rfl) rfl dJ1_charAt_3b067_3 rfl (fun _ m1 => ?_)
  refine rz_aload_nV C (n := 7) (q := 0) dJ1_charAt_3b067_6 rfl rfl rfl ?_
  refine rf_iload_n C (n := 8) (q := 1) dJ1_charAt_3b067_7 rfl rfl rfl ?_
  refine rf_guard (fun h2 => ?_)
  refine rz_tb C (n := 9) Z ha0 h2 dJ1_charAt_3b067_8 rfl ?_
  refine rf_sipush C (n := 12) (v := 255) dJ1_charAt_3b067_9 rfl (by decide) ?_
  refine rf_iand C (n := 13) dJ1_charAt_3b067_12 rfl ?_
  refine rf_i2c C (n := 14) dJ1_charAt_3b067_13 rfl ?_
  refine rf_guard (fun h3 => ?_)
  exact rf_cret C K h3 dJ1_charAt_3b067_14
noncomputable def f_J0_charAt_5068e (fu : Nat) (a0 : Nat) (x1 : Int32) (m : hM) : Option (Int32 × hM) :=
  if a0 < 9 then (hBd (f_J0_isLatin1_aae02 fu a0 m) fun y1 m2 =>
if y1 = 0 then (
none) else (
hBd (f_J1_charAt_3b067 fu a0 x1 m2) fun y4 m5 =>
if narrow .char (.int y4) = .int y4 then (
some (y4, m5)) else none)) else none
set_option maxRecDepth 100000 in
set_option maxHeartbeats 4000000 in
theorem c_J0_charAt_5068e (G : hG) (fu : Nat) (a0 : Nat) (x1 : Int32) (m : hM) : Mt2 vI G 4 yJ0_charAt_5068e cJ0_charAt_5068e 2 (some .char) [zK G a0, .int x1] m (f_J0_charAt_5068e fu a0 x1 m) := by
  refine mt2_of (by decide +kernel) (Nat.le_of_ble_eq_true rfl) (fun X C K Z => ?_)
  have C : Cx G X 4 cJ0_charAt_5068e 2 RJ0 (some .char) := C
  show Rf vI G X 0 [(0, zK G a0), (1, .int x1)] [] m _
  unfold f_J0_charAt_5068e
  refine rf_guard (fun ha0 => ?_)
  refine rz_aload_nK C (n := 1) (q := 0) dJ0_charAt_5068e_0 rfl rfl rfl ?_
  refine rz_callTi C (n := 4) Z (c_J0_isLatin1_aae02 G fu _ _) mw_RJ0_492 ha0 ⟨by decide, by decide⟩ rfl (Nat.le_of_ble_eq_true rfl) rfl dJ0_charAt_5068e_1 rfl (fun y1 m2 => ?_)
  refine rf_if_eq C (tgt := 16) (n := 7) dJ0_charAt_5068e_4 (by decide) rfl (fun h3 => ?_) (fun h3 => ?_)
  · exact rf_none
  · refine rz_aload_nK C (n := 8) (q := 0) dJ0_charAt_5068e_7 rfl rfl rfl ?_
    refine rz_getSV C (n := 11) Z ha0 sf_RJ0_9 dJ0_charAt_5068e_8 rfl ?_
    refine rf_iload_n C (n := 12) (q := 1) dJ0_charAt_5068e_11 rfl rfl rfl ?_
    refine rz_callSi C (n := 15) Z (c_J1_charAt_3b067 G fu _ _ _) sw_RJ0_495 ⟨by decide, by decide⟩ rfl (Nat.le_of_ble_eq_true rfl) rfl dJ0_charAt_5068e_12 rfl (fun y4 m5 => ?_)
    refine rf_guard (fun h6 => ?_)
    exact rf_cret C K h6 dJ0_charAt_5068e_15
noncomputable def s_X11_among_2 (fu : Nat) (ih : Nat → Int32 → hM → Option (Int32 × hM)) (a1 : Nat) (x2 : Int32) (m : hM) : Option (Int32 × hM) :=
  hBd (f_J0_length_8abf5 fu a1 m) fun y1 m2 =>
if y1 ≤ x2 then (
some ((-1), m2)) else (
if (gI m2 96 31) ≤ (gI m2 96 30) then (
some ((-1), m2)) else (
hBd (f_J0_charAt_5068e fu a1 x2 m2) fun y5 m6 =>
if hIn (gI m6 96 30) 60 then (
if ¬ y5 = (gI m6 119 (Int32.toNatClampNeg (gI m6 96 30))) then (
hLet (x2 + 1) fun y9 =>
ih a1 y9 m6) else (
some (x2, m6))) else none))
noncomputable def f_X11_among_2 (fu : Nat) (n : Nat) : Nat → Int32 → hM → Option (Int32 × hM) :=
  Nat.rec (motive := fun _ => Nat → Int32 → hM → Option (Int32 × hM)) (fun _ _ _ => none) (fun _ ih => s_X11_among_2 fu ih) n
theorem f_X11_among_2_s (fu : Nat) (n : Nat) (a1 : Nat) (x2 : Int32) (m : hM) : f_X11_among_2 fu (n + 1) a1 x2 m = s_X11_among_2 fu (f_X11_among_2 fu n) a1 x2 m := rfl
set_option maxRecDepth 100000 in
set_option maxHeartbeats 4000000 in
theorem r_X11_among_2 {G : hG} {X : hX} (C : Cx G X 5 cX11_among 3 RX11 (some .int)) (K : Cr G X) (Z : Cz G X) (fu : Nat) (n : Nat) : ∀ (a1 : Nat) (ha1 : a1 < 9) (x2 : Int32) (m : hM), Rf vI G X 2 [(0, hA G 96), (1, zK G a1), (2, .int x2)] [] m (f_X11_among_2 fu n a1 x2 m) := by
  induction n with
  | zero => intros; exact rf_none
  | succ n ih =>
    intro a1 ha1 x2 m
    show Rf vI G X 2 [(0, hA G 96), (1, zK G a1), (2, .int x2)] [] m (s_X11_among_2 fu (f_X11_among_2 fu n) a1 x2 m)
    unfold s_X11_among_2
    refine rf_iload_n C (n := 3) (q := 2) dX11_among_2 rfl rfl rfl ?_
    refine rz_aload_nK C (n := 4) (q := 1) dX11_among_3 rfl rfl rfl ?_
    refine rz_callTi C (n := 7) Z (c_J0_length_8abf5 G fu _ _) mw_RX11_186 ha1 ⟨by decide, by decide⟩ rfl (Nat.le_of_ble_eq_true rfl) rfl dX11_among_4 rfl (fun y1 m2 => ?_)
    refine rf_icmp_ge C (tgt := 46) (n := 10) dX11_among_7 (by decide) rfl (fun h3 => ?_) (fun h3 => ?_)
    · refine rf_iconst C (n := 47) (v := (-1)) dX11_among_46 rfl (by decide) ?_
      exact rf_iret C K dX11_among_47
    · refine rf_aload_n C (n := 11) (q := 0) dX11_among_10 rfl rfl rfl ?_
      refine rf_getI C (n := 14) fl_RX11_176 ly_96 rfl dX11_among_11 rfl ?_
      refine rf_aload_n C (n := 15) (q := 0) dX11_among_14 rfl rfl rfl ?_
      refine rf_getI C (n := 18) fl_RX11_179 ly_96 rfl dX11_among_15 rfl ?_
      refine rf_icmp_ge C (tgt := 46) (n := 21) dX11_among_18 (by decide) rfl (fun h4 => ?_) (fun h4 => ?_)
      · refine rf_iconst C (n := 47) (v := (-1)) dX11_among_46 rfl (by decide) ?_
        exact rf_iret C K dX11_among_47
      · refine rz_aload_nK C (n := 22) (q := 1) dX11_among_21 rfl rfl rfl ?_
        refine rf_iload_n C (n := 23) (q := 2) dX11_among_22 rfl rfl rfl ?_
        refine rz_callTi C (n := 26) Z (c_J0_charAt_5068e G fu _ _ _) mw_RX11_192 ha1 ⟨by decide, by decide⟩ rfl (Nat.le_of_ble_eq_true rfl) rfl dX11_among_23 rfl (fun y5 m6 => ?_)
        refine rf_aload_n C (n := 27) (q := 0) dX11_among_26 rfl rfl rfl ?_
        refine rf_getS C (n := 30) fl_RX11_173 ly_96 rfl dX11_among_27 rfl ?_
        refine rf_aload_n C (n := 31) (q := 0) dX11_among_30 rfl rfl rfl ?_
        refine rf_getI C (n := 34) fl_RX11_176 ly_96 rfl dX11_among_31 rfl ?_
        refine rf_guard (fun h7 => ?_)
        refine rf_iald C (n := 35) ly_119 h7 rfl dX11_among_34 rfl ?_
        refine rf_icmp_ne C (tgt := 40) (n := 38) dX11_among_35 (by decide) rfl (fun h8 => ?_) (fun h8 => ?_)
        · refine rf_iinc2 C (n := 43) (q := 2) (fun y9 => [(2, .int y9), (0, hA G 96), (1, zK G a1)]) dX11_among_40 rfl rfl (by decide) (by decide) (fun _ => rfl) (fun y9 => ?_)
          refine rf_goto C (n := 2) dX11_among_43 (by decide) ?_
          exact rf_lv _ [1, 2, 0] rfl (ih _ ha1 _ _)
        · refine rf_iload_n C (n := 39) (q := 2) dX11_among_38 rfl rfl rfl ?_
          exact rf_iret C K dX11_among_39
noncomputable def f_X11_among (fu : Nat) (a1 : Nat) (m : hM) : Option (Int32 × hM) :=
  if a1 < 9 then (f_X11_among_2 fu fu a1 0 m) else none
set_option maxRecDepth 100000 in
set_option maxHeartbeats 4000000 in
theorem c_X11_among (G : hG) (fu : Nat) (a1 : Nat) (m : hM) : Mt2 vI G 5 yX11_among cX11_among 3 (some .int) [hA G 96, zK G a1] m (f_X11_among fu a1 m) := by
  refine mt2_of (by decide +kernel) (Nat.le_of_ble_eq_true rfl) (fun X C K Z => ?_)
  have C : Cx G X 5 cX11_among 3 RX11 (some .int) := C
  show Rf vI G X 0 [(0, hA G 96), (1, zK G a1)] [] m _
  unfold f_X11_among
  refine rf_guard (fun ha1 => ?_)
  refine rf_iconst C (n := 1) (v := 0) dX11_among_0 rfl (by decide) ?_
  refine rf_istore_n C (n := 2) [(2, .int 0), (0, hA G 96), (1, zK G a1)] dX11_among_1 rfl rfl (by decide) rfl ?_
  exact rf_lv _ [1, 2, 0] rfl (r_X11_among_2 C K Z fu fu _ ha1 _ _)
