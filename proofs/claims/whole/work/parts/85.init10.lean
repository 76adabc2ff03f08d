/-! ===== a constructor ===== -/
def K_X10i_0 (G : hG) (f : kM) : kM := (kU (kU (K_X7i_87 G (kU (kU (K_X7i_78 G (kU (kU (K_X7i_69 G (kU (kU (kU (kU (K_X1i_66 G (kU (kU (kU (kU (kU (K_X7i_55 G (kU (K_X7i_46 G (kU (K_X3i_41 G (kU (K_X9i_34 G (kU (K_X8i_32 G (kU (K_X6i_28 G (kU (K_X5i_25 G (kU (K_X4i_18 G (kU (K_X0i_1 G (kU f 0 (.inr (10, [.null, .null, .null, .null, .null, .null, .null, .null, .null, .null, .null, .null, .null, .int 0])))) 0 (.inr (10, [hA G 1, .null, .null, .null, .null, .null, .null, .null, .null, .null, .null, .null, .null, .int 0])))) 0 (.inr (10, [hA G 1, hA G 18, .null, .null, .null, .null, .null, .null, .null, .null, .null, .null, .null, .int 0])))) 0 (.inr (10, [hA G 1, hA G 18, hA G 25, .null, .null, .null, .null, .null, .null, .null, .null, .null, .null, .int 0])))) 0 (.inr (10, [hA G 1, hA G 18, hA G 25, hA G 28, .null, .null, .null, .null, .null, .null, .null, .null, .null, .int 0])))) 0 (.inr (10, [hA G 1, hA G 18, hA G 25, hA G 28, hA G 32, .null, .null, .null, .null, .null, .null, .null, .null, .int 0])))) 0 (.inr (10, [hA G 1, hA G 18, hA G 25, hA G 28, hA G 32, hA G 34, .null, .null, .null, .null, .null, .null, .null, .int 0])))) 0 (.inr (10, [hA G 1, hA G 18, hA G 25, hA G 28, hA G 32, hA G 34, hA G 41, .null, .null, .null, .null, .null, .null, .int 0])))) 0 (.inr (10, [hA G 1, hA G 18, hA G 25, hA G 28, hA G 32, hA G 34, hA G 41, hA G 46, .null, .null, .null, .null, .null, .int 0])))) 0 (.inr (10, [hA G 1, hA G 18, hA G 25, hA G 28, hA G 32, hA G 34, hA G 41, hA G 46, hA G 55, .null, .null, .null, .null, .int 0]))) 64 (.inl (G.2.2.1 5, 3, .inr (.inr (.inr (.inr (fun _ => none))))))) 0 (.inr (10, [hA G 1, hA G 18, hA G 25, hA G 28, hA G 32, hA G 34, hA G 41, hA G 46, hA G 55, hA G 64, .null, .null, .null, .int 0]))) 65 (.inl (G.2.2.1 0, 3, .inl (fun _ => 0)))) 0 (.inr (10, [hA G 1, hA G 18, hA G 25, hA G 28, hA G 32, hA G 34, hA G 41, hA G 46, hA G 55, hA G 64, hA G 65, .null, .null, .int 0])))) 0 (.inr (10, [hA G 1, hA G 18, hA G 25, hA G 28, hA G 32, hA G 34, hA G 41, hA G 46, hA G 55, hA G 64, hA G 65, hA G 66, .null, .int 0]))) 68 (.inl (G.2.2.1 2, 60, .inl (fun _ => 0)))) 0 (.inr (10, [hA G 1, hA G 18, hA G 25, hA G 28, hA G 32, hA G 34, hA G 41, hA G 46, hA G 55, hA G 64, hA G 65, hA G 66, hA G 68, .int 0]))) 0 (.inr (10, [hA G 1, hA G 18, hA G 25, hA G 28, hA G 32, hA G 34, hA G 41, hA G 46, hA G 55, hA G 64, hA G 65, hA G 66, hA G 68, .int 0])))) 64 (.inl (G.2.2.1 5, 3, .inr (.inr (.inr (.inr (va_up (fun _ => none) 0 (some (G.2.2.2.1 + 69))))))))) 65 (.inl (G.2.2.1 0, 3, .inl (upd (fun _ => 0) 0 (-1)))))) 64 (.inl (G.2.2.1 5, 3, .inr (.inr (.inr (.inr (va_up (va_up (fun _ => none) 0 (some (G.2.2.2.1 + 69))) 1 (some (G.2.2.2.1 + 78))))))))) 65 (.inl (G.2.2.1 0, 3, .inl (upd (upd (fun _ => 0) 0 (-1)) 1 (-1)))))) 64 (.inl (G.2.2.1 5, 3, .inr (.inr (.inr (.inr (va_up (va_up (va_up (fun _ => none) 0 (some (G.2.2.2.1 + 69))) 1 (some (G.2.2.2.1 + 78))) 2 (some (G.2.2.2.1 + 87))))))))) 65 (.inl (G.2.2.1 0, 3, .inl (upd (upd (upd (fun _ => 0) 0 (-1)) 1 (-1)) 2 (-1)))))
set_option maxRecDepth 100000 in
set_option maxHeartbeats 4000000 in
theorem k_X10i_0 (G : hG) (f : kM) : Mk G 3 95 8439 yX10_init cX10_init 2 [hA G 0] 1 (kU f 0 (.inr (10, [.null, .null, .null, .null, .null, .null, .null, .null, .null, .null, .null, .null, .null, .int 0]))) (K_X10i_0 G f) := by
  refine mk_of (by decide +kernel) rfl (Nat.le_of_ble_eq_true rfl) (fun X C K => ?_)
  have C : Ck G X 1 95 8439 3 cX10_init 2 RX10 := C
  unfold K_X10i_0 at K
  show Rk G X 1 0 [(0, hA G 0)] [] (kU f 0 (.inr (10, [.null, .null, .null, .null, .null, .null, .null, .null, .null, .null, .null, .null, .null, .int 0]))) 0 0
  refine rk_aload_n C (n := 1) (q := 0) dX10_init_0 rfl rfl rfl ?_
  refine rk_objInit C (n := 4) oi_RX10_3 wo_1 wo_2 (by decide) (Nat.le_of_ble_eq_true rfl) dX10_init_1 rfl ?_
  refine rk_aload_n C (n := 5) (q := 0) dX10_init_4 rfl rfl rfl ?_
  refine rk_newW C (n := 8) (ci := 0) (N := 7) (q := 1) (cs' := 1) (sl' := 7) tyX0 [.null, .null, .null, .null, .int 0, .int 0, .int 0] rfl inB0 tyX0_ok cl_RX10_9 wi_0 wz_0 wd_0 (by decide) (by decide) dX10_init_5 rfl rfl rfl rfl ?_
  refine rk_dup C (n := 9) dX10_init_8 rfl rfl ?_
  refine rk_callIW C (n := 12) (nn := 2) (cs' := 17) (sl' := 3503) rfl rfl rfl (k_X0i_1 G _) ci_RX10_11 (by decide) rfl (Nat.le_of_ble_eq_true rfl) rfl (by decide) (by decide) dX10_init_9 rfl ?_
  refine rk_putFW C K (n := 15) (fs' := [hA G 1, .null, .null, .null, .null, .null, .null, .null, .null, .null, .null, .null, .null, .int 0]) pf_RX10_12 (by decide) (show _ = Sum.inr (10, [.null, .null, .null, .null, .null, .null, .null, .null, .null, .null, .null, .null, .null, .int 0]) from rfl) rfl ⟨rfl, rfl⟩ (Nat.le_of_ble_eq_true rfl) dX10_init_12 rfl ?_
  refine rk_aload_n C (n := 16) (q := 0) dX10_init_15 rfl rfl rfl ?_
  refine rk_newW C (n := 19) (ci := 4) (N := 7) (q := 18) (cs' := 18) (sl' := 3510) tyX4 [.null, .null, .null, .null, .null, .null, .int 0] rfl inB4 tyX4_ok cl_RX10_16 wi_4 wz_4 wd_4 (by decide) (by decide) dX10_init_16 rfl rfl rfl rfl ?_
  refine rk_dup C (n := 20) dX10_init_19 rfl rfl ?_
  refine rk_callJW C (n := 23) (nn := 19) (cs' := 24) (sl' := 3558) rfl rfl rfl (k_X4i_18 G _) cj_RX10_18 (by decide) rfl (Nat.le_of_ble_eq_true rfl) rfl (by decide) (by decide) dX10_init_20 rfl ?_
  refine rk_putFW C K (n := 26) (fs' := [hA G 1, hA G 18, .null, .null, .null, .null, .null, .null, .null, .null, .null, .null, .null, .int 0]) pf_RX10_19 (by decide) (show _ = Sum.inr (10, [hA G 1, .null, .null, .null, .null, .null, .null, .null, .null, .null, .null, .null, .null, .int 0]) from rfl) rfl ⟨rfl, rfl⟩ (Nat.le_of_ble_eq_true rfl) dX10_init_23 rfl ?_
  refine rk_aload_n C (n := 27) (q := 0) dX10_init_26 rfl rfl rfl ?_
  refine rk_newW C (n := 30) (ci := 5) (N := 4) (q := 25) (cs' := 25) (sl' := 3562) tyX5 [.null, .int 0, .null, .int 0] rfl inB5 tyX5_ok cl_RX10_23 wi_5 wz_5 wd_5 (by decide) (by decide) dX10_init_27 rfl rfl rfl rfl ?_
  refine rk_dup C (n := 31) dX10_init_30 rfl rfl ?_
  refine rk_callJW C (n := 34) (nn := 26) (cs' := 27) (sl' := 3642) rfl rfl rfl (k_X5i_25 G _) cj_RX10_25 (by decide) rfl (Nat.le_of_ble_eq_true rfl) rfl (by decide) (by decide) dX10_init_31 rfl ?_
  refine rk_putFW C K (n := 37) (fs' := [hA G 1, hA G 18, hA G 25, .null, .null, .null, .null, .null, .null, .null, .null, .null, .null, .int 0]) pf_RX10_26 (by decide) (show _ = Sum.inr (10, [hA G 1, hA G 18, .null, .null, .null, .null, .null, .null, .null, .null, .null, .null, .null, .int 0]) from rfl) rfl ⟨rfl, rfl⟩ (Nat.le_of_ble_eq_true rfl) dX10_init_34 rfl ?_
  refine rk_aload_n C (n := 38) (q := 0) dX10_init_37 rfl rfl rfl ?_
  refine rk_newW C (n := 41) (ci := 6) (N := 8) (q := 28) (cs' := 28) (sl' := 3650) tyX6 [.null, .int 0, .null, .int 0, .int 0, .null, .int 0, .int 0] rfl inB6 tyX6_ok cl_RX10_30 wi_6 wz_6 wd_6 (by decide) (by decide) dX10_init_38 rfl rfl rfl rfl ?_
  refine rk_dup C (n := 42) dX10_init_41 rfl rfl ?_
  refine rk_callJW C (n := 45) (nn := 29) (cs' := 31) (sl' := 3736) rfl rfl rfl (k_X6i_28 G _) cj_RX10_32 (by decide) rfl (Nat.le_of_ble_eq_true rfl) rfl (by decide) (by decide) dX10_init_42 rfl ?_
  refine rk_putFW C K (n := 48) (fs' := [hA G 1, hA G 18, hA G 25, hA G 28, .null, .null, .null, .null, .null, .null, .null, .null, .null, .int 0]) pf_RX10_33 (by decide) (show _ = Sum.inr (10, [hA G 1, hA G 18, hA G 25, .null, .null, .null, .null, .null, .null, .null, .null, .null, .null, .int 0]) from rfl) rfl ⟨rfl, rfl⟩ (Nat.le_of_ble_eq_true rfl) dX10_init_45 rfl ?_
  refine rk_aload_n C (n := 49) (q := 0) dX10_init_48 rfl rfl rfl ?_
  refine rk_newW C (n := 52) (ci := 8) (N := 8) (q := 32) (cs' := 32) (sl' := 3744) tyX8 [.null, .null, .null, .int 0, .int 0, .int 0, .null, .int 0] rfl inB8 tyX8_ok cl_RX10_37 wi_8 wz_8 wd_8 (by decide) (by decide) dX10_init_49 rfl rfl rfl rfl ?_
  refine rk_dup C (n := 53) dX10_init_52 rfl rfl ?_
  refine rk_aload_n C (n := 54) (q := 0) dX10_init_53 rfl rfl rfl ?_
  refine rk_get C (n := 57) gf_RX10_12 (by decide) (show _ = Sum.inr (10, [hA G 1, hA G 18, hA G 25, hA G 28, .null, .null, .null, .null, .null, .null, .null, .null, .null, .int 0]) from rfl) rfl dX10_init_54 rfl ?_
  refine rk_aload_n C (n := 58) (q := 0) dX10_init_57 rfl rfl rfl ?_
  refine rk_get C (n := 61) gf_RX10_19 (by decide) (show _ = Sum.inr (10, [hA G 1, hA G 18, hA G 25, hA G 28, .null, .null, .null, .null, .null, .null, .null, .null, .null, .int 0]) from rfl) rfl dX10_init_58 rfl ?_
  refine rk_aload_n C (n := 62) (q := 0) dX10_init_61 rfl rfl rfl ?_
  refine rk_get C (n := 65) gf_RX10_26 (by decide) (show _ = Sum.inr (10, [hA G 1, hA G 18, hA G 25, hA G 28, .null, .null, .null, .null, .null, .null, .null, .null, .null, .int 0]) from rfl) rfl dX10_init_62 rfl ?_
  refine rk_callIW C (n := 68) (nn := 33) (cs' := 33) (sl' := 3750) rfl rfl rfl (k_X8i_32 G _) ci_RX10_39 (by decide) rfl (Nat.le_of_ble_eq_true rfl) rfl (by decide) (by decide) dX10_init_65 rfl ?_
  refine rk_putFW C K (n := 71) (fs' := [hA G 1, hA G 18, hA G 25, hA G 28, hA G 32, .null, .null, .null, .null, .null, .null, .null, .null, .int 0]) pf_RX10_42 (by decide) (show _ = Sum.inr (10, [hA G 1, hA G 18, hA G 25, hA G 28, .null, .null, .null, .null, .null, .null, .null, .null, .null, .int 0]) from rfl) rfl ⟨rfl, rfl⟩ (Nat.le_of_ble_eq_true rfl) dX10_init_68 rfl ?_
  refine rk_aload_n C (n := 72) (q := 0) dX10_init_71 rfl rfl rfl ?_
  refine rk_newW C (n := 75) (ci := 9) (N := 9) (q := 34) (cs' := 34) (sl' := 3759) tyX9 [.null, .null, .null, .null, .int 0, .int 0, .null, .null, .null] rfl inB9 tyX9_ok cl_RX10_46 wi_9 wz_9 wd_9 (by decide) (by decide) dX10_init_72 rfl rfl rfl rfl ?_
  refine rk_dup C (n := 76) dX10_init_75 rfl rfl ?_
  refine rk_aload_n C (n := 77) (q := 0) dX10_init_76 rfl rfl rfl ?_
  refine rk_get C (n := 80) gf_RX10_12 (by decide) (show _ = Sum.inr (10, [hA G 1, hA G 18, hA G 25, hA G 28, hA G 32, .null, .null, .null, .null, .null, .null, .null, .null, .int 0]) from rfl) rfl dX10_init_77 rfl ?_
  refine rk_callIW C (n := 83) (nn := 35) (cs' := 40) (sl' := 7674) rfl rfl rfl (k_X9i_34 G _) ci_RX10_48 (by decide) rfl (Nat.le_of_ble_eq_true rfl) rfl (by decide) (by decide) dX10_init_80 rfl ?_
  refine rk_putFW C K (n := 86) (fs' := [hA G 1, hA G 18, hA G 25, hA G 28, hA G 32, hA G 34, .null, .null, .null, .null, .null, .null, .null, .int 0]) pf_RX10_51 (by decide) (show _ = Sum.inr (10, [hA G 1, hA G 18, hA G 25, hA G 28, hA G 32, .null, .null, .null, .null, .null, .null, .null, .null, .int 0]) from rfl) rfl ⟨rfl, rfl⟩ (Nat.le_of_ble_eq_true rfl) dX10_init_83 rfl ?_
  refine rk_aload_n C (n := 87) (q := 0) dX10_init_86 rfl rfl rfl ?_
  refine rk_newW C (n := 90) (ci := 3) (N := 5) (q := 41) (cs' := 41) (sl' := 7679) tyX3 [.null, .null, .null, .null, .int 0] rfl inB3 tyX3_ok cl_RX10_55 wi_3 wz_3 wd_3 (by decide) (by decide) dX10_init_87 rfl rfl rfl rfl ?_
  refine rk_dup C (n := 91) dX10_init_90 rfl rfl ?_
  refine rk_callJW C (n := 94) (nn := 42) (cs' := 45) (sl' := 7715) rfl rfl rfl (k_X3i_41 G _) cj_RX10_57 (by decide) rfl (Nat.le_of_ble_eq_true rfl) rfl (by decide) (by decide) dX10_init_91 rfl ?_
  refine rk_putFW C K (n := 97) (fs' := [hA G 1, hA G 18, hA G 25, hA G 28, hA G 32, hA G 34, hA G 41, .null, .null, .null, .null, .null, .null, .int 0]) pf_RX10_58 (by decide) (show _ = Sum.inr (10, [hA G 1, hA G 18, hA G 25, hA G 28, hA G 32, hA G 34, .null, .null, .null, .null, .null, .null, .null, .int 0]) from rfl) rfl ⟨rfl, rfl⟩ (Nat.le_of_ble_eq_true rfl) dX10_init_94 rfl ?_
  refine rk_aload_n C (n := 98) (q := 0) dX10_init_97 rfl rfl rfl ?_
  refine rk_newW C (n := 101) (ci := 7) (N := 13) (q := 46) (cs' := 46) (sl' := 7728) tyX7 [.int 0, .int 0, .int 0, .null, .null, .null, .null, .null, .null, .null, .int 0, .null, .int 0] rfl inB7 tyX7_ok cl_RX10_62 wi_7 wz_7 wd_7 (by decide) (by decide) dX10_init_98 rfl rfl rfl rfl ?_
  refine rk_dup C (n := 102) dX10_init_101 rfl rfl ?_
  refine rk_callJW C (n := 105) (nn := 47) (cs' := 54) (sl' := 7844) rfl rfl rfl (k_X7i_46 G _) cj_RX10_64 (by decide) rfl (Nat.le_of_ble_eq_true rfl) rfl (by decide) (by decide) dX10_init_102 rfl ?_
  refine rk_putFW C K (n := 108) (fs' := [hA G 1, hA G 18, hA G 25, hA G 28, hA G 32, hA G 34, hA G 41, hA G 46, .null, .null, .null, .null, .null, .int 0]) pf_RX10_65 (by decide) (show _ = Sum.inr (10, [hA G 1, hA G 18, hA G 25, hA G 28, hA G 32, hA G 34, hA G 41, .null, .null, .null, .null, .null, .null, .int 0]) from rfl) rfl ⟨rfl, rfl⟩ (Nat.le_of_ble_eq_true rfl) dX10_init_105 rfl ?_
  refine rk_aload_n C (n := 109) (q := 0) dX10_init_108 rfl rfl rfl ?_
  refine rk_newW C (n := 112) (ci := 7) (N := 13) (q := 55) (cs' := 55) (sl' := 7857) tyX7 [.int 0, .int 0, .int 0, .null, .null, .null, .null, .null, .null, .null, .int 0, .null, .int 0] rfl inB7 tyX7_ok cl_RX10_62 wi_7 wz_7 wd_7 (by decide) (by decide) dX10_init_109 rfl rfl rfl rfl ?_
  refine rk_dup C (n := 113) dX10_init_112 rfl rfl ?_
  refine rk_callJW C (n := 116) (nn := 56) (cs' := 63) (sl' := 7973) rfl rfl rfl (k_X7i_55 G _) cj_RX10_64 (by decide) rfl (Nat.le_of_ble_eq_true rfl) rfl (by decide) (by decide) dX10_init_113 rfl ?_
  refine rk_putFW C K (n := 119) (fs' := [hA G 1, hA G 18, hA G 25, hA G 28, hA G 32, hA G 34, hA G 41, hA G 46, hA G 55, .null, .null, .null, .null, .int 0]) pf_RX10_69 (by decide) (show _ = Sum.inr (10, [hA G 1, hA G 18, hA G 25, hA G 28, hA G 32, hA G 34, hA G 41, hA G 46, .null, .null, .null, .null, .null, .int 0]) from rfl) rfl ⟨rfl, rfl⟩ (Nat.le_of_ble_eq_true rfl) dX10_init_116 rfl ?_
  refine rk_aload_n C (n := 120) (q := 0) dX10_init_119 rfl rfl rfl ?_
  refine rk_iconst C (n := 121) (v := 3) dX10_init_120 rfl (by decide) ?_
  refine rk_anewW C (n := 124) (tk := 5) (N := 3) (q := 64) (cs' := 64) (sl' := 7976) cl_RX10_62 (fun U h => h.2.2) rfl (by decide) (by decide) (by decide) (by decide) (by decide) dX10_init_121 rfl rfl rfl rfl ?_
  refine rk_putFW C K (n := 127) (fs' := [hA G 1, hA G 18, hA G 25, hA G 28, hA G 32, hA G 34, hA G 41, hA G 46, hA G 55, hA G 64, .null, .null, .null, .int 0]) pf_RX10_72 (by decide) (show _ = Sum.inr (10, [hA G 1, hA G 18, hA G 25, hA G 28, hA G 32, hA G 34, hA G 41, hA G 46, hA G 55, .null, .null, .null, .null, .int 0]) from rfl) rfl ⟨rfl, rfl⟩ (Nat.le_of_ble_eq_true rfl) dX10_init_124 rfl ?_
  refine rk_aload_n C (n := 128) (q := 0) dX10_init_127 rfl rfl rfl ?_
  refine rk_iconst C (n := 129) (v := 3) dX10_init_128 rfl (by decide) ?_
  refine rk_newaW C (n := 131) (tk := 0) (N := 3) (q := 65) (cs' := 65) (sl' := 7979) (a0 := (3, .inl (fun _ => 0))) wa_int rfl rfl (fun _ _ h => h) (fun _ => rfl) (by decide) (by decide) (by decide) (by decide) (by decide) dX10_init_129 rfl rfl rfl rfl ?_
  refine rk_putFW C K (n := 134) (fs' := [hA G 1, hA G 18, hA G 25, hA G 28, hA G 32, hA G 34, hA G 41, hA G 46, hA G 55, hA G 64, hA G 65, .null, .null, .int 0]) pf_RX10_76 (by decide) (show _ = Sum.inr (10, [hA G 1, hA G 18, hA G 25, hA G 28, hA G 32, hA G 34, hA G 41, hA G 46, hA G 55, hA G 64, .null, .null, .null, .int 0]) from rfl) rfl ⟨rfl, rfl⟩ (Nat.le_of_ble_eq_true rfl) dX10_init_131 rfl ?_
  refine rk_aload_n C (n := 135) (q := 0) dX10_init_134 rfl rfl rfl ?_
  refine rk_newW C (n := 138) (ci := 1) (N := 2) (q := 66) (cs' := 66) (sl' := 7981) tyX1 [.null, .int 0] rfl inB1 tyX1_ok cl_RX10_80 wi_1 wz_1 wd_1 (by decide) (by decide) dX10_init_135 rfl rfl rfl rfl ?_
  refine rk_dup C (n := 139) dX10_init_138 rfl rfl ?_
  refine rk_callJW C (n := 142) (nn := 67) (cs' := 67) (sl' := 7992) rfl rfl rfl (k_X1i_66 G _) cj_RX10_82 (by decide) rfl (Nat.le_of_ble_eq_true rfl) rfl (by decide) (by decide) dX10_init_139 rfl ?_
  refine rk_putFW C K (n := 145) (fs' := [hA G 1, hA G 18, hA G 25, hA G 28, hA G 32, hA G 34, hA G 41, hA G 46, hA G 55, hA G 64, hA G 65, hA G 66, .null, .int 0]) pf_RX10_83 (by decide) (show _ = Sum.inr (10, [hA G 1, hA G 18, hA G 25, hA G 28, hA G 32, hA G 34, hA G 41, hA G 46, hA G 55, hA G 64, hA G 65, .null, .null, .int 0]) from rfl) rfl ⟨rfl, rfl⟩ (Nat.le_of_ble_eq_true rfl) dX10_init_142 rfl ?_
  refine rk_aload_n C (n := 146) (q := 0) dX10_init_145 rfl rfl rfl ?_
  refine rk_bipush C (n := 148) (v := 60) dX10_init_146 rfl (by decide) ?_
  refine rk_newaW C (n := 150) (tk := 2) (N := 60) (q := 68) (cs' := 68) (sl' := 8052) (a0 := (60, .inl (fun _ => 0))) wa_char rfl rfl (fun _ _ h => h) (fun _ => rfl) (by decide) (by decide) (by decide) (by decide) (by decide) dX10_init_148 rfl rfl rfl rfl ?_
  refine rk_putFW C K (n := 153) (fs' := [hA G 1, hA G 18, hA G 25, hA G 28, hA G 32, hA G 34, hA G 41, hA G 46, hA G 55, hA G 64, hA G 65, hA G 66, hA G 68, .int 0]) pf_RX10_87 (by decide) (show _ = Sum.inr (10, [hA G 1, hA G 18, hA G 25, hA G 28, hA G 32, hA G 34, hA G 41, hA G 46, hA G 55, hA G 64, hA G 65, hA G 66, .null, .int 0]) from rfl) rfl ⟨rfl, rfl⟩ (Nat.le_of_ble_eq_true rfl) dX10_init_150 rfl ?_
  refine rk_aload_n C (n := 154) (q := 0) dX10_init_153 rfl rfl rfl ?_
  refine rk_iconst C (n := 155) (v := 0) dX10_init_154 rfl (by decide) ?_
  refine rk_putW C (n := 158) (fs' := [hA G 1, hA G 18, hA G 25, hA G 28, hA G 32, hA G 34, hA G 41, hA G 46, hA G 55, hA G 64, hA G 65, hA G 66, hA G 68, .int 0]) pf_RX10_91 (by decide) (show _ = Sum.inr (10, [hA G 1, hA G 18, hA G 25, hA G 28, hA G 32, hA G 34, hA G 41, hA G 46, hA G 55, hA G 64, hA G 65, hA G 66, hA G 68, .int 0]) from rfl) rfl ⟨rfl, rfl⟩ (Nat.le_of_ble_eq_true rfl) dX10_init_155 rfl ?_
  refine rk_iconst C (n := 159) (v := 0) dX10_init_158 rfl (by decide) ?_
  refine rk_istore_n C (n := 160) [(1, .int 0), (0, hA G 0)] dX10_init_159 rfl rfl (by decide) rfl ?_
  refine rk_iload_n C (n := 161) (q := 0) dX10_init_160 rfl rfl rfl ?_
  refine rk_aload_n C (n := 162) (q := 1) dX10_init_161 rfl rfl rfl ?_
  refine rk_get C (n := 165) gf_RX10_72 (by decide) (show _ = Sum.inr (10, [hA G 1, hA G 18, hA G 25, hA G 28, hA G 32, hA G 34, hA G 41, hA G 46, hA G 55, hA G 64, hA G 65, hA G 66, hA G 68, .int 0]) from rfl) rfl dX10_init_162 rfl ?_
  refine rk_alen C (n := 166) (tk := 5) (v := 3) (by decide) (show _ = Sum.inl (G.2.2.1 5, _) from rfl) rfl rfl dX10_init_165 rfl ?_
  refine rk_ge_f C (n := 169) (tgt := 195) dX10_init_166 (by decide) rfl (by decide) ?_
  refine rk_aload_n C (n := 170) (q := 1) dX10_init_169 rfl rfl rfl ?_
  refine rk_get C (n := 173) gf_RX10_72 (by decide) (show _ = Sum.inr (10, [hA G 1, hA G 18, hA G 25, hA G 28, hA G 32, hA G 34, hA G 41, hA G 46, hA G 55, hA G 64, hA G 65, hA G 66, hA G 68, .int 0]) from rfl) rfl dX10_init_170 rfl ?_
  refine rk_iload_n C (n := 174) (q := 0) dX10_init_173 rfl rfl rfl ?_
  refine rk_newW C (n := 177) (ci := 7) (N := 13) (q := 69) (cs' := 69) (sl' := 8065) tyX7 [.int 0, .int 0, .int 0, .null, .null, .null, .null, .null, .null, .null, .int 0, .null, .int 0] rfl inB7 tyX7_ok cl_RX10_62 wi_7 wz_7 wd_7 (by decide) (by decide) dX10_init_174 rfl rfl rfl rfl ?_
  refine rk_dup C (n := 178) dX10_init_177 rfl rfl ?_
  refine rk_callJW C (n := 181) (nn := 70) (cs' := 77) (sl' := 8181) rfl rfl rfl (k_X7i_69 G _) cj_RX10_64 (by decide) rfl (Nat.le_of_ble_eq_true rfl) rfl (by decide) (by decide) dX10_init_178 rfl ?_
  refine rk_aastW C (n := 182) (j := 0) (tk := 5) (ci := 7) (r := (RX7, TX7, 13)) (by decide) (by decide) (show _ = Sum.inl (G.2.2.1 5, 3, Sum.inr (Sum.inr (Sum.inr (Sum.inr (fun _ => none))))) from rfl) rfl (show _ = Sum.inr (7, [.int 0, .int 0, .int 0, hA G 70, hA G 71, hA G 72, hA G 73, hA G 74, hA G 75, hA G 76, .int 0, hA G 77, .int 0]) from rfl) rfl (by decide) (by decide) dX10_init_181 rfl ?_
  refine rk_aload_n C (n := 183) (q := 1) dX10_init_182 rfl rfl rfl ?_
  refine rk_get C (n := 186) gf_RX10_76 (by decide) (show _ = Sum.inr (10, [hA G 1, hA G 18, hA G 25, hA G 28, hA G 32, hA G 34, hA G 41, hA G 46, hA G 55, hA G 64, hA G 65, hA G 66, hA G 68, .int 0]) from rfl) rfl dX10_init_183 rfl ?_
  refine rk_iload_n C (n := 187) (q := 0) dX10_init_186 rfl rfl rfl ?_
  refine rk_iconst C (n := 188) (v := (-1)) dX10_init_187 rfl (by decide) ?_
  refine rk_iastW C (n := 189) (j := 0) (by decide) (show _ = Sum.inl (G.2.2.1 0, 3, Sum.inl (fun _ => 0)) from rfl) (by decide) (by decide) dX10_init_188 rfl ?_
  refine rk_iinc C (n := 192) (q := 0) (v := 1) [(1, .int 1), (0, hA G 0)] dX10_init_189 rfl rfl (by decide) (by decide) rfl ?_
  refine rk_goto C (n := 160) dX10_init_192 (by decide) ?_
  refine rk_iload_n C (n := 161) (q := 0) dX10_init_160 rfl rfl rfl ?_
  refine rk_aload_n C (n := 162) (q := 1) dX10_init_161 rfl rfl rfl ?_
  refine rk_get C (n := 165) gf_RX10_72 (by decide) (show _ = Sum.inr (10, [hA G 1, hA G 18, hA G 25, hA G 28, hA G 32, hA G 34, hA G 41, hA G 46, hA G 55, hA G 64, hA G 65, hA G 66, hA G 68, .int 0]) from rfl) rfl dX10_init_162 rfl ?_
  refine rk_alen C (n := 166) (tk := 5) (v := 3) (by decide) (show _ = Sum.inl (G.2.2.1 5, _) from rfl) rfl rfl dX10_init_165 rfl ?_
  refine rk_ge_f C (n := 169) (tgt := 195) dX10_init_166 (by decide) rfl (by decide) ?_
  refine rk_aload_n C (n := 170) (q := 1) dX10_init_169 rfl rfl rfl ?_
  refine rk_get C (n := 173) gf_RX10_72 (by decide) (show _ = Sum.inr (10, [hA G 1, hA G 18, hA G 25, hA G 28, hA G 32, hA G 34, hA G 41, hA G 46, hA G 55, hA G 64, hA G 65, hA G 66, hA G 68, .int 0]) from rfl) rfl dX10_init_170 rfl ?_
  refine rk_iload_n C (n := 174) (q := 0) dX10_init_173 rfl rfl rfl ?_
  refine rk_newW C (n := 177) (ci := 7) (N := 13) (q := 78) (cs' := 78) (sl' := 8194) tyX7 [.int 0, .int 0, .int 0, .null, .null, .null, .null, .null, .null, .null, .int 0, .null, .int 0] rfl inB7 tyX7_ok cl_RX10_62 wi_7 wz_7 wd_7 (by decide) (by decide) dX10_init_174 rfl rfl rfl rfl ?_
  refine rk_dup C (n := 178) dX10_init_177 rfl rfl ?_
  refine rk_callJW C (n := 181) (nn := 79) (cs' := 86) (sl' := 8310) rfl rfl rfl (k_X7i_78 G _) cj_RX10_64 (by decide) rfl (Nat.le_of_ble_eq_true rfl) rfl (by decide) (by decide) dX10_init_178 rfl ?_
  refine rk_aastW C (n := 182) (j := 1) (tk := 5) (ci := 7) (r := (RX7, TX7, 13)) (by decide) (by decide) (show _ = Sum.inl (G.2.2.1 5, 3, Sum.inr (Sum.inr (Sum.inr (Sum.inr (va_up (fun _ => none) 0 (some (G.2.2.2.1 + 69))))))) from rfl) rfl (show _ = Sum.inr (7, [.int 0, .int 0, .int 0, hA G 79, hA G 80, hA G 81, hA G 82, hA G 83, hA G 84, hA G 85, .int 0, hA G 86, .int 0]) from rfl) rfl (by decide) (by decide) dX10_init_181 rfl ?_
  refine rk_aload_n C (n := 183) (q := 1) dX10_init_182 rfl rfl rfl ?_
  refine rk_get C (n := 186) gf_RX10_76 (by decide) (show _ = Sum.inr (10, [hA G 1, hA G 18, hA G 25, hA G 28, hA G 32, hA G 34, hA G 41, hA G 46, hA G 55, hA G 64, hA G 65, hA G 66, hA G 68, .int 0]) from rfl) rfl dX10_init_183 rfl ?_
  refine rk_iload_n C (n := 187) (q := 0) dX10_init_186 rfl rfl rfl ?_
  refine rk_iconst C (n := 188) (v := (-1)) dX10_init_187 rfl (by decide) ?_
  refine rk_iastW C (n := 189) (j := 1) (by decide) (show _ = Sum.inl (G.2.2.1 0, 3, Sum.inl (upd (fun _ => 0) 0 (-1))) from rfl) (by decide) (by decide) dX10_init_188 rfl ?_
  refine rk_iinc C (n := 192) (q := 0) (v := 2) [(1, .int 2), (0, hA G 0)] dX10_init_189 rfl rfl (by decide) (by decide) rfl ?_
  refine rk_goto C (n := 160) dX10_init_192 (by decide) ?_
  refine rk_iload_n C (n := 161) (q := 0) dX10_init_160 rfl rfl rfl ?_
  refine rk_aload_n C (n := 162) (q := 1) dX10_init_161 rfl rfl rfl ?_
  refine rk_get C (n := 165) gf_RX10_72 (by decide) (show _ = Sum.inr (10, [hA G 1, hA G 18, hA G 25, hA G 28, hA G 32, hA G 34, hA G 41, hA G 46, hA G 55, hA G 64, hA G 65, hA G 66, hA G 68, .int 0]) from rfl) rfl dX10_init_162 rfl ?_
  refine rk_alen C (n := 166) (tk := 5) (v := 3) (by decide) (show _ = Sum.inl (G.2.2.1 5, _) from rfl) rfl rfl dX10_init_165 rfl ?_
  refine rk_ge_f C (n := 169) (tgt := 195) dX10_init_166 (by decide) rfl (by decide) ?_
  refine rk_aload_n C (n := 170) (q := 1) dX10_init_169 rfl rfl rfl ?_
  refine rk_get C (n := 173) gf_RX10_72 (by decide) (show _ = Sum.inr (10, [hA G 1, hA G 18, hA G 25, hA G 28, hA G 32, hA G 34, hA G 41, hA G 46, hA G 55, hA G 64, hA G 65, hA G 66, hA G 68, .int 0]) from rfl) rfl dX10_init_170 rfl ?_
  refine rk_iload_n C (n := 174) (q := 0) dX10_init_173 rfl rfl rfl ?_
  refine rk_newW C (n := 177) (ci := 7) (N := 13) (q := 87) (cs' := 87) (sl' := 8323) tyX7 [.int 0, .int 0, .int 0, .null, .null, .null, .null, .null, .null, .null, .int 0, .null, .int 0] rfl inB7 tyX7_ok cl_RX10_62 wi_7 wz_7 wd_7 (by decide) (by decide) dX10_init_174 rfl rfl rfl rfl ?_
  refine rk_dup C (n := 178) dX10_init_177 rfl rfl ?_
  refine rk_callJW C (n := 181) (nn := 88) (cs' := 95) (sl' := 8439) rfl rfl rfl (k_X7i_87 G _) cj_RX10_64 (by decide) rfl (Nat.le_of_ble_eq_true rfl) rfl (by decide) (by decide) dX10_init_178 rfl ?_
  refine rk_aastW C (n := 182) (j := 2) (tk := 5) (ci := 7) (r := (RX7, TX7, 13)) (by decide) (by decide) (show _ = Sum.inl (G.2.2.1 5, 3, Sum.inr (Sum.inr (Sum.inr (Sum.inr (va_up (va_up (fun _ => none) 0 (some (G.2.2.2.1 + 69))) 1 (some (G.2.2.2.1 + 78))))))) from rfl) rfl (show _ = Sum.inr (7, [.int 0, .int 0, .int 0, hA G 88, hA G 89, hA G 90, hA G 91, hA G 92, hA G 93, hA G 94, .int 0, hA G 95, .int 0]) from rfl) rfl (by decide) (by decide) dX10_init_181 rfl ?_
  refine rk_aload_n C (n := 183) (q := 1) dX10_init_182 rfl rfl rfl ?_
  refine rk_get C (n := 186) gf_RX10_76 (by decide) (show _ = Sum.inr (10, [hA G 1, hA G 18, hA G 25, hA G 28, hA G 32, hA G 34, hA G 41, hA G 46, hA G 55, hA G 64, hA G 65, hA G 66, hA G 68, .int 0]) from rfl) rfl dX10_init_183 rfl ?_
  refine rk_iload_n C (n := 187) (q := 0) dX10_init_186 rfl rfl rfl ?_
  refine rk_iconst C (n := 188) (v := (-1)) dX10_init_187 rfl (by decide) ?_
  refine rk_iastW C (n := 189) (j := 2) (by decide) (show _ = Sum.inl (G.2.2.1 0, 3, Sum.inl (upd (upd (fun _ => 0) 0 (-1)) 1 (-1))) from rfl) (by decide) (by decide) dX10_init_188 rfl ?_
  refine rk_iinc C (n := 192) (q := 0) (v := 3) [(1, .int 3), (0, hA G 0)] dX10_init_189 rfl rfl (by decide) (by decide) rfl ?_
  refine rk_goto C (n := 160) dX10_init_192 (by decide) ?_
  refine rk_iload_n C (n := 161) (q := 0) dX10_init_160 rfl rfl rfl ?_
  refine rk_aload_n C (n := 162) (q := 1) dX10_init_161 rfl rfl rfl ?_
  refine rk_get C (n := 165) gf_RX10_72 (by decide) (show _ = Sum.inr (10, [hA G 1, hA G 18, hA G 25, hA G 28, hA G 32, hA G 34, hA G 41, hA G 46, hA G 55, hA G 64, hA G 65, hA G 66, hA G 68, .int 0]) from rfl) rfl dX10_init_162 rfl ?_
  refine rk_alen C (n := 166) (tk := 5) (v := 3) (by decide) (show _ = Sum.inl (G.2.2.1 5, _) from rfl) rfl rfl dX10_init_165 rfl ?_
  refine rk_ge_t C (n := 195) dX10_init_166 (by decide) (by decide) ?_
  exact rk_ret C K rfl rfl rfl dX10_init_195
