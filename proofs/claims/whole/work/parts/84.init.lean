/-! ===== constructors: the class, the reference ===== -/
def K_X2i_6 (G : hG) (f : kM) : kM := (kU (kU (kU f 6 (.inr (2, [.int 0, .int 0, .int 0, .int 0, .int 0, .int 0, .int 0, .int 0, .null]))) 7 (.inl (G.2.2.1 1, 100, .inl (fun _ => 0)))) 6 (.inr (2, [.int 0, .int 0, .int 0, .int 0, .int 0, .int 0, .int 0, .int 0, hA G 7])))
set_option maxRecDepth 100000 in
set_option maxHeartbeats 4000000 in
theorem k_X2i_6 (G : hG) (f : kM) : Mk G 1 1 100 yX2_init cX2_init 1 [hA G 6] 7 (kU f 6 (.inr (2, [.int 0, .int 0, .int 0, .int 0, .int 0, .int 0, .int 0, .int 0, .null]))) (K_X2i_6 G f) := by
  refine mk_of (by decide +kernel) rfl (Nat.le_of_ble_eq_true rfl) (fun X C K => ?_)
  have C : Ck G X 7 1 100 1 cX2_init 1 RX2 := C
  unfold K_X2i_6 at K
  show Rk G X 7 0 [(0, hA G 6)] [] (kU f 6 (.inr (2, [.int 0, .int 0, .int 0, .int 0, .int 0, .int 0, .int 0, .int 0, .null]))) 0 0
  refine rk_aload_n C (n := 1) (q := 0) dX2_init_0 rfl rfl rfl ?_
  refine rk_objInit C (n := 4) oi_RX2_3 wo_1 wo_2 (by decide) (Nat.le_of_ble_eq_true rfl) dX2_init_1 rfl ?_
  refine rk_aload_n C (n := 5) (q := 0) dX2_init_4 rfl rfl rfl ?_
  refine rk_bipush C (n := 7) (v := 100) dX2_init_5 rfl (by decide) ?_
  refine rk_newaW C (n := 9) (tk := 1) (N := 100) (q := 7) (cs' := 1) (sl' := 100) (a0 := (100, .inl (fun _ => 0))) wa_boolean rfl rfl (fun _ _ h => h) (fun _ => rfl) (by decide) (by decide) (by decide) (by decide) (by decide) dX2_init_7 rfl rfl rfl rfl ?_
  refine rk_putFW C K (n := 12) (fs' := [.int 0, .int 0, .int 0, .int 0, .int 0, .int 0, .int 0, .int 0, hA G 7]) pf_RX2_9 (by decide) (show _ = Sum.inr (2, [.int 0, .int 0, .int 0, .int 0, .int 0, .int 0, .int 0, .int 0, .null]) from rfl) rfl ⟨rfl, rfl⟩ (Nat.le_of_ble_eq_true rfl) dX2_init_9 rfl ?_
  exact rk_ret C K rfl rfl rfl dX2_init_12
def K_X2i_8 (G : hG) (f : kM) : kM := (kU (kU (kU f 8 (.inr (2, [.int 0, .int 0, .int 0, .int 0, .int 0, .int 0, .int 0, .int 0, .null]))) 9 (.inl (G.2.2.1 1, 100, .inl (fun _ => 0)))) 8 (.inr (2, [.int 0, .int 0, .int 0, .int 0, .int 0, .int 0, .int 0, .int 0, hA G 9])))
set_option maxRecDepth 100000 in
set_option maxHeartbeats 4000000 in
theorem k_X2i_8 (G : hG) (f : kM) : Mk G 1 1 100 yX2_init cX2_init 1 [hA G 8] 9 (kU f 8 (.inr (2, [.int 0, .int 0, .int 0, .int 0, .int 0, .int 0, .int 0, .int 0, .null]))) (K_X2i_8 G f) := by
  refine mk_of (by decide +kernel) rfl (Nat.le_of_ble_eq_true rfl) (fun X C K => ?_)
  have C : Ck G X 9 1 100 1 cX2_init 1 RX2 := C
  unfold K_X2i_8 at K
  show Rk G X 9 0 [(0, hA G 8)] [] (kU f 8 (.inr (2, [.int 0, .int 0, .int 0, .int 0, .int 0, .int 0, .int 0, .int 0, .null]))) 0 0
  refine rk_aload_n C (n := 1) (q := 0) dX2_init_0 rfl rfl rfl ?_
  refine rk_objInit C (n := 4) oi_RX2_3 wo_1 wo_2 (by decide) (Nat.le_of_ble_eq_true rfl) dX2_init_1 rfl ?_
  refine rk_aload_n C (n := 5) (q := 0) dX2_init_4 rfl rfl rfl ?_
  refine rk_bipush C (n := 7) (v := 100) dX2_init_5 rfl (by decide) ?_
  refine rk_newaW C (n := 9) (tk := 1) (N := 100) (q := 9) (cs' := 1) (sl' := 100) (a0 := (100, .inl (fun _ => 0))) wa_boolean rfl rfl (fun _ _ h => h) (fun _ => rfl) (by decide) (by decide) (by decide) (by decide) (by decide) dX2_init_7 rfl rfl rfl rfl ?_
  refine rk_putFW C K (n := 12) (fs' := [.int 0, .int 0, .int 0, .int 0, .int 0, .int 0, .int 0, .int 0, hA G 9]) pf_RX2_9 (by decide) (show _ = Sum.inr (2, [.int 0, .int 0, .int 0, .int 0, .int 0, .int 0, .int 0, .int 0, .null]) from rfl) rfl ⟨rfl, rfl⟩ (Nat.le_of_ble_eq_true rfl) dX2_init_9 rfl ?_
  exact rk_ret C K rfl rfl rfl dX2_init_12
def K_X2i_10 (G : hG) (f : kM) : kM := (kU (kU (kU f 10 (.inr (2, [.int 0, .int 0, .int 0, .int 0, .int 0, .int 0, .int 0, .int 0, .null]))) 11 (.inl (G.2.2.1 1, 100, .inl (fun _ => 0)))) 10 (.inr (2, [.int 0, .int 0, .int 0, .int 0, .int 0, .int 0, .int 0, .int 0, hA G 11])))
set_option maxRecDepth 100000 in
set_option maxHeartbeats 4000000 in
theorem k_X2i_10 (G : hG) (f : kM) : Mk G 1 1 100 yX2_init cX2_init 1 [hA G 10] 11 (kU f 10 (.inr (2, [.int 0, .int 0, .int 0, .int 0, .int 0, .int 0, .int 0, .int 0, .null]))) (K_X2i_10 G f) := by
  refine mk_of (by decide +kernel) rfl (Nat.le_of_ble_eq_true rfl) (fun X C K => ?_)
  have C : Ck G X 11 1 100 1 cX2_init 1 RX2 := C
  unfold K_X2i_10 at K
  show Rk G X 11 0 [(0, hA G 10)] [] (kU f 10 (.inr (2, [.int 0, .int 0, .int 0, .int 0, .int 0, .int 0, .int 0, .int 0, .null]))) 0 0
  refine rk_aload_n C (n := 1) (q := 0) dX2_init_0 rfl rfl rfl ?_
  refine rk_objInit C (n := 4) oi_RX2_3 wo_1 wo_2 (by decide) (Nat.le_of_ble_eq_true rfl) dX2_init_1 rfl ?_
  refine rk_aload_n C (n := 5) (q := 0) dX2_init_4 rfl rfl rfl ?_
  refine rk_bipush C (n := 7) (v := 100) dX2_init_5 rfl (by decide) ?_
  refine rk_newaW C (n := 9) (tk := 1) (N := 100) (q := 11) (cs' := 1) (sl' := 100) (a0 := (100, .inl (fun _ => 0))) wa_boolean rfl rfl (fun _ _ h => h) (fun _ => rfl) (by decide) (by decide) (by decide) (by decide) (by decide) dX2_init_7 rfl rfl rfl rfl ?_
  refine rk_putFW C K (n := 12) (fs' := [.int 0, .int 0, .int 0, .int 0, .int 0, .int 0, .int 0, .int 0, hA G 11]) pf_RX2_9 (by decide) (show _ = Sum.inr (2, [.int 0, .int 0, .int 0, .int 0, .int 0, .int 0, .int 0, .int 0, .null]) from rfl) rfl ⟨rfl, rfl⟩ (Nat.le_of_ble_eq_true rfl) dX2_init_9 rfl ?_
  exact rk_ret C K rfl rfl rfl dX2_init_12
def K_X2i_12 (G : hG) (f : kM) : kM := (kU (kU (kU f 12 (.inr (2, [.int 0, .int 0, .int 0, .int 0, .int 0, .int 0, .int 0, .int 0, .null]))) 13 (.inl (G.2.2.1 1, 100, .inl (fun _ => 0)))) 12 (.inr (2, [.int 0, .int 0, .int 0, .int 0, .int 0, .int 0, .int 0, .int 0, hA G 13])))
set_option maxRecDepth 100000 in
set_option maxHeartbeats 4000000 in
theorem k_X2i_12 (G : hG) (f : kM) : Mk G 1 1 100 yX2_init cX2_init 1 [hA G 12] 13 (kU f 12 (.inr (2, [.int 0, .int 0, .int 0, .int 0, .int 0, .int 0, .int 0, .int 0, .null]))) (K_X2i_12 G f) := by
  refine mk_of (by decide +kernel) rfl (Nat.le_of_ble_eq_true rfl) (fun X C K => ?_)
  have C : Ck G X 13 1 100 1 cX2_init 1 RX2 := C
  unfold K_X2i_12 at K
  show Rk G X 13 0 [(0, hA G 12)] [] (kU f 12 (.inr (2, [.int 0, .int 0, .int 0, .int 0, .int 0, .int 0, .int 0, .int 0, .null]))) 0 0
  refine rk_aload_n C (n := 1) (q := 0) dX2_init_0 rfl rfl rfl ?_
  refine rk_objInit C (n := 4) oi_RX2_3 wo_1 wo_2 (by decide) (Nat.le_of_ble_eq_true rfl) dX2_init_1 rfl ?_
  refine rk_aload_n C (n := 5) (q := 0) dX2_init_4 rfl rfl rfl ?_
  refine rk_bipush C (n := 7) (v := 100) dX2_init_5 rfl (by decide) ?_
  refine rk_newaW C (n := 9) (tk := 1) (N := 100) (q := 13) (cs' := 1) (sl' := 100) (a0 := (100, .inl (fun _ => 0))) wa_boolean rfl rfl (fun _ _ h => h) (fun _ => rfl) (by decide) (by decide) (by decide) (by decide) (by decide) dX2_init_7 rfl rfl rfl rfl ?_
  refine rk_putFW C K (n := 12) (fs' := [.int 0, .int 0, .int 0, .int 0, .int 0, .int 0, .int 0, .int 0, hA G 13]) pf_RX2_9 (by decide) (show _ = Sum.inr (2, [.int 0, .int 0, .int 0, .int 0, .int 0, .int 0, .int 0, .int 0, .null]) from rfl) rfl ⟨rfl, rfl⟩ (Nat.le_of_ble_eq_true rfl) dX2_init_9 rfl ?_
  exact rk_ret C K rfl rfl rfl dX2_init_12
def K_X2i_14 (G : hG) (f : kM) : kM := (kU (kU (kU f 14 (.inr (2, [.int 0, .int 0, .int 0, .int 0, .int 0, .int 0, .int 0, .int 0, .null]))) 15 (.inl (G.2.2.1 1, 100, .inl (fun _ => 0)))) 14 (.inr (2, [.int 0, .int 0, .int 0, .int 0, .int 0, .int 0, .int 0, .int 0, hA G 15])))
set_option maxRecDepth 100000 in
set_option maxHeartbeats 4000000 in
theorem k_X2i_14 (G : hG) (f : kM) : Mk G 1 1 100 yX2_init cX2_init 1 [hA G 14] 15 (kU f 14 (.inr (2, [.int 0, .int 0, .int 0, .int 0, .int 0, .int 0, .int 0, .int 0, .null]))) (K_X2i_14 G f) := by
  refine mk_of (by decide +kernel) rfl (Nat.le_of_ble_eq_true rfl) (fun X C K => ?_)
  have C : Ck G X 15 1 100 1 cX2_init 1 RX2 := C
  unfold K_X2i_14 at K
  show Rk G X 15 0 [(0, hA G 14)] [] (kU f 14 (.inr (2, [.int 0, .int 0, .int 0, .int 0, .int 0, .int 0, .int 0, .int 0, .null]))) 0 0
  refine rk_aload_n C (n := 1) (q := 0) dX2_init_0 rfl rfl rfl ?_
  refine rk_objInit C (n := 4) oi_RX2_3 wo_1 wo_2 (by decide) (Nat.le_of_ble_eq_true rfl) dX2_init_1 rfl ?_
  refine rk_aload_n C (n := 5) (q := 0) dX2_init_4 rfl rfl rfl ?_
  refine rk_bipush C (n := 7) (v := 100) dX2_init_5 rfl (by decide) ?_
  refine rk_newaW C (n := 9) (tk := 1) (N := 100) (q := 15) (cs' := 1) (sl' := 100) (a0 := (100, .inl (fun _ => 0))) wa_boolean rfl rfl (fun _ _ h => h) (fun _ => rfl) (by decide) (by decide) (by decide) (by decide) (by decide) dX2_init_7 rfl rfl rfl rfl ?_
  refine rk_putFW C K (n := 12) (fs' := [.int 0, .int 0, .int 0, .int 0, .int 0, .int 0, .int 0, .int 0, hA G 15]) pf_RX2_9 (by decide) (show _ = Sum.inr (2, [.int 0, .int 0, .int 0, .int 0, .int 0, .int 0, .int 0, .int 0, .null]) from rfl) rfl ⟨rfl, rfl⟩ (Nat.le_of_ble_eq_true rfl) dX2_init_9 rfl ?_
  exact rk_ret C K rfl rfl rfl dX2_init_12
def K_X2i_16 (G : hG) (f : kM) : kM := (kU (kU (kU f 16 (.inr (2, [.int 0, .int 0, .int 0, .int 0, .int 0, .int 0, .int 0, .int 0, .null]))) 17 (.inl (G.2.2.1 1, 100, .inl (fun _ => 0)))) 16 (.inr (2, [.int 0, .int 0, .int 0, .int 0, .int 0, .int 0, .int 0, .int 0, hA G 17])))
set_option maxRecDepth 100000 in
set_option maxHeartbeats 4000000 in
theorem k_X2i_16 (G : hG) (f : kM) : Mk G 1 1 100 yX2_init cX2_init 1 [hA G 16] 17 (kU f 16 (.inr (2, [.int 0, .int 0, .int 0, .int 0, .int 0, .int 0, .int 0, .int 0, .null]))) (K_X2i_16 G f) := by
  refine mk_of (by decide +kernel) rfl (Nat.le_of_ble_eq_true rfl) (fun X C K => ?_)
  have C : Ck G X 17 1 100 1 cX2_init 1 RX2 := C
  unfold K_X2i_16 at K
  show Rk G X 17 0 [(0, hA G 16)] [] (kU f 16 (.inr (2, [.int 0, .int 0, .int 0, .int 0, .int 0, .int 0, .int 0, .int 0, .null]))) 0 0
  refine rk_aload_n C (n := 1) (q := 0) dX2_init_0 rfl rfl rfl ?_
  refine rk_objInit C (n := 4) oi_RX2_3 wo_1 wo_2 (by decide) (Nat.le_of_ble_eq_true rfl) dX2_init_1 rfl ?_
  refine rk_aload_n C (n := 5) (q := 0) dX2_init_4 rfl rfl rfl ?_
  refine rk_bipush C (n := 7) (v := 100) dX2_init_5 rfl (by decide) ?_
  refine rk_newaW C (n := 9) (tk := 1) (N := 100) (q := 17) (cs' := 1) (sl' := 100) (a0 := (100, .inl (fun _ => 0))) wa_boolean rfl rfl (fun _ _ h => h) (fun _ => rfl) (by decide) (by decide) (by decide) (by decide) (by decide) dX2_init_7 rfl rfl rfl rfl ?_
  refine rk_putFW C K (n := 12) (fs' := [.int 0, .int 0, .int 0, .int 0, .int 0, .int 0, .int 0, .int 0, hA G 17]) pf_RX2_9 (by decide) (show _ = Sum.inr (2, [.int 0, .int 0, .int 0, .int 0, .int 0, .int 0, .int 0, .int 0, .null]) from rfl) rfl ⟨rfl, rfl⟩ (Nat.le_of_ble_eq_true rfl) dX2_init_9 rfl ?_
  exact rk_ret C K rfl rfl rfl dX2_init_12
def K_X0i_1 (G : hG) (f : kM) : kM := (kU (kU (K_X2i_16 G (kU (kU (K_X2i_14 G (kU (kU (K_X2i_12 G (kU (kU (K_X2i_10 G (kU (kU (K_X2i_8 G (kU (kU (K_X2i_6 G (kU (kU (kU (kU (kU (kU (kU (kU (kU (kU (kU (kU f 1 (.inr (0, [.null, .null, .null, .null, .int 0, .int 0, .int 0]))) 2 (.inl (G.2.2.1 4, 6, .inr (.inr (.inr (.inr (fun _ => none))))))) 1 (.inr (0, [hA G 2, .null, .null, .null, .int 0, .int 0, .int 0]))) 3 (.inl (G.2.2.1 0, 36, .inl (fun _ => 0)))) 1 (.inr (0, [hA G 2, hA G 3, .null, .null, .int 0, .int 0, .int 0]))) 4 (.inl (G.2.2.1 0, 2560, .inl (fun _ => 0)))) 1 (.inr (0, [hA G 2, hA G 3, hA G 4, .null, .int 0, .int 0, .int 0]))) 5 (.inl (G.2.2.1 3, 240, .inr (.inl (fun _ => 0))))) 1 (.inr (0, [hA G 2, hA G 3, hA G 4, hA G 5, .int 0, .int 0, .int 0]))) 1 (.inr (0, [hA G 2, hA G 3, hA G 4, hA G 5, .int 0, .int 0, .int 0]))) 1 (.inr (0, [hA G 2, hA G 3, hA G 4, hA G 5, .int 0, .int 4, .int 0]))) 1 (.inr (0, [hA G 2, hA G 3, hA G 4, hA G 5, .int 0, .int 4, .int 10])))) 2 (.inl (G.2.2.1 4, 6, .inr (.inr (.inr (.inr (va_up (fun _ => none) 0 (some (G.2.2.2.1 + 6))))))))) 3 (.inl (G.2.2.1 0, 36, .inl (upd (fun _ => 0) 0 9))))) 2 (.inl (G.2.2.1 4, 6, .inr (.inr (.inr (.inr (va_up (va_up (fun _ => none) 0 (some (G.2.2.2.1 + 6))) 1 (some (G.2.2.2.1 + 8))))))))) 3 (.inl (G.2.2.1 0, 36, .inl (upd (upd (fun _ => 0) 0 9) 7 9))))) 2 (.inl (G.2.2.1 4, 6, .inr (.inr (.inr (.inr (va_up (va_up (va_up (fun _ => none) 0 (some (G.2.2.2.1 + 6))) 1 (some (G.2.2.2.1 + 8))) 2 (some (G.2.2.2.1 + 10))))))))) 3 (.inl (G.2.2.1 0, 36, .inl (upd (upd (upd (fun _ => 0) 0 9) 7 9) 14 9))))) 2 (.inl (G.2.2.1 4, 6, .inr (.inr (.inr (.inr (va_up (va_up (va_up (va_up (fun _ => none) 0 (some (G.2.2.2.1 + 6))) 1 (some (G.2.2.2.1 + 8))) 2 (some (G.2.2.2.1 + 10))) 3 (some (G.2.2.2.1 + 12))))))))) 3 (.inl (G.2.2.1 0, 36, .inl (upd (upd (upd (upd (fun _ => 0) 0 9) 7 9) 14 9) 21 9))))) 2 (.inl (G.2.2.1 4, 6, .inr (.inr (.inr (.inr (va_up (va_up (va_up (va_up (va_up (fun _ => none) 0 (some (G.2.2.2.1 + 6))) 1 (some (G.2.2.2.1 + 8))) 2 (some (G.2.2.2.1 + 10))) 3 (some (G.2.2.2.1 + 12))) 4 (some (G.2.2.2.1 + 14))))))))) 3 (.inl (G.2.2.1 0, 36, .inl (upd (upd (upd (upd (upd (fun _ => 0) 0 9) 7 9) 14 9) 21 9) 28 9))))) 2 (.inl (G.2.2.1 4, 6, .inr (.inr (.inr (.inr (va_up (va_up (va_up (va_up (va_up (va_up (fun _ => none) 0 (some (G.2.2.2.1 + 6))) 1 (some (G.2.2.2.1 + 8))) 2 (some (G.2.2.2.1 + 10))) 3 (some (G.2.2.2.1 + 12))) 4 (some (G.2.2.2.1 + 14))) 5 (some (G.2.2.2.1 + 16))))))))) 3 (.inl (G.2.2.1 0, 36, .inl (upd (upd (upd (upd (upd (upd (fun _ => 0) 0 9) 7 9) 14 9) 21 9) 28 9) 35 9))))
set_option maxRecDepth 100000 in
set_option maxHeartbeats 4000000 in
theorem k_X0i_1 (G : hG) (f : kM) : Mk G 2 16 3496 yX0_init cX0_init 2 [hA G 1] 2 (kU f 1 (.inr (0, [.null, .null, .null, .null, .int 0, .int 0, .int 0]))) (K_X0i_1 G f) := by
  refine mk_of (by decide +kernel) rfl (Nat.le_of_ble_eq_true rfl) (fun X C K => ?_)
  have C : Ck G X 2 16 3496 2 cX0_init 2 RX0 := C
  unfold K_X0i_1 at K
  show Rk G X 2 0 [(0, hA G 1)] [] (kU f 1 (.inr (0, [.null, .null, .null, .null, .int 0, .int 0, .int 0]))) 0 0
  refine rk_aload_n C (n := 1) (q := 0) dX0_init_0 rfl rfl rfl ?_
  refine rk_objInit C (n := 4) oi_RX0_3 wo_1 wo_2 (by decide) (Nat.le_of_ble_eq_true rfl) dX0_init_1 rfl ?_
  refine rk_aload_n C (n := 5) (q := 0) dX0_init_4 rfl rfl rfl ?_
  refine rk_bipush C (n := 7) (v := 6) dX0_init_5 rfl (by decide) ?_
  refine rk_anewW C (n := 10) (tk := 4) (N := 6) (q := 2) (cs' := 1) (sl' := 6) cl_RX0_9 (fun U h => h.2.1) rfl (by decide) (by decide) (by decide) (by decide) (by decide) dX0_init_7 rfl rfl rfl rfl ?_
  refine rk_putFW C K (n := 13) (fs' := [hA G 2, .null, .null, .null, .int 0, .int 0, .int 0]) pf_RX0_11 (by decide) (show _ = Sum.inr (0, [.null, .null, .null, .null, .int 0, .int 0, .int 0]) from rfl) rfl ⟨rfl, rfl⟩ (Nat.le_of_ble_eq_true rfl) dX0_init_10 rfl ?_
  refine rk_aload_n C (n := 14) (q := 0) dX0_init_13 rfl rfl rfl ?_
  refine rk_bipush C (n := 16) (v := 36) dX0_init_14 rfl (by decide) ?_
  refine rk_newaW C (n := 18) (tk := 0) (N := 36) (q := 3) (cs' := 2) (sl' := 42) (a0 := (36, .inl (fun _ => 0))) wa_int rfl rfl (fun _ _ h => h) (fun _ => rfl) (by decide) (by decide) (by decide) (by decide) (by decide) dX0_init_16 rfl rfl rfl rfl ?_
  refine rk_putFW C K (n := 21) (fs' := [hA G 2, hA G 3, .null, .null, .int 0, .int 0, .int 0]) pf_RX0_17 (by decide) (show _ = Sum.inr (0, [hA G 2, .null, .null, .null, .int 0, .int 0, .int 0]) from rfl) rfl ⟨rfl, rfl⟩ (Nat.le_of_ble_eq_true rfl) dX0_init_18 rfl ?_
  refine rk_aload_n C (n := 22) (q := 0) dX0_init_21 rfl rfl rfl ?_
  refine rk_sipush C (n := 25) (v := 2560) dX0_init_22 rfl (by decide) ?_
  refine rk_newaW C (n := 27) (tk := 0) (N := 2560) (q := 4) (cs' := 3) (sl' := 2602) (a0 := (2560, .inl (fun _ => 0))) wa_int rfl rfl (fun _ _ h => h) (fun _ => rfl) (by decide) (by decide) (by decide) (by decide) (by decide) dX0_init_25 rfl rfl rfl rfl ?_
  refine rk_putFW C K (n := 30) (fs' := [hA G 2, hA G 3, hA G 4, .null, .int 0, .int 0, .int 0]) pf_RX0_21 (by decide) (show _ = Sum.inr (0, [hA G 2, hA G 3, .null, .null, .int 0, .int 0, .int 0]) from rfl) rfl ⟨rfl, rfl⟩ (Nat.le_of_ble_eq_true rfl) dX0_init_27 rfl ?_
  refine rk_aload_n C (n := 31) (q := 0) dX0_init_30 rfl rfl rfl ?_
  refine rk_sipush C (n := 34) (v := 240) dX0_init_31 rfl (by decide) ?_
  refine rk_newaW C (n := 36) (tk := 3) (N := 240) (q := 5) (cs' := 4) (sl' := 2842) (a0 := (240, .inr (.inl (fun _ => 0)))) wa_long rfl rfl (fun _ _ h => h) (fun _ => rfl) (by decide) (by decide) (by decide) (by decide) (by decide) dX0_init_34 rfl rfl rfl rfl ?_
  refine rk_putFW C K (n := 39) (fs' := [hA G 2, hA G 3, hA G 4, hA G 5, .int 0, .int 0, .int 0]) pf_RX0_24 (by decide) (show _ = Sum.inr (0, [hA G 2, hA G 3, hA G 4, .null, .int 0, .int 0, .int 0]) from rfl) rfl ⟨rfl, rfl⟩ (Nat.le_of_ble_eq_true rfl) dX0_init_36 rfl ?_
  refine rk_aload_n C (n := 40) (q := 0) dX0_init_39 rfl rfl rfl ?_
  refine rk_iconst C (n := 41) (v := 0) dX0_init_40 rfl (by decide) ?_
  refine rk_putW C (n := 44) (fs' := [hA G 2, hA G 3, hA G 4, hA G 5, .int 0, .int 0, .int 0]) pf_RX0_28 (by decide) (show _ = Sum.inr (0, [hA G 2, hA G 3, hA G 4, hA G 5, .int 0, .int 0, .int 0]) from rfl) rfl ⟨rfl, rfl⟩ (Nat.le_of_ble_eq_true rfl) dX0_init_41 rfl ?_
  refine rk_aload_n C (n := 45) (q := 0) dX0_init_44 rfl rfl rfl ?_
  refine rk_iconst C (n := 46) (v := 4) dX0_init_45 rfl (by decide) ?_
  refine rk_putW C (n := 49) (fs' := [hA G 2, hA G 3, hA G 4, hA G 5, .int 0, .int 4, .int 0]) pf_RX0_32 (by decide) (show _ = Sum.inr (0, [hA G 2, hA G 3, hA G 4, hA G 5, .int 0, .int 0, .int 0]) from rfl) rfl ⟨rfl, rfl⟩ (Nat.le_of_ble_eq_true rfl) dX0_init_46 rfl ?_
  refine rk_aload_n C (n := 50) (q := 0) dX0_init_49 rfl rfl rfl ?_
  refine rk_bipush C (n := 52) (v := 10) dX0_init_50 rfl (by decide) ?_
  refine rk_putW C (n := 55) (fs' := [hA G 2, hA G 3, hA G 4, hA G 5, .int 0, .int 4, .int 10]) pf_RX0_35 (by decide) (show _ = Sum.inr (0, [hA G 2, hA G 3, hA G 4, hA G 5, .int 0, .int 4, .int 0]) from rfl) rfl ⟨rfl, rfl⟩ (Nat.le_of_ble_eq_true rfl) dX0_init_52 rfl ?_
  refine rk_iconst C (n := 56) (v := 0) dX0_init_55 rfl (by decide) ?_
  refine rk_istore_n C (n := 57) [(1, .int 0), (0, hA G 1)] dX0_init_56 rfl rfl (by decide) rfl ?_
  refine rk_iload_n C (n := 58) (q := 0) dX0_init_57 rfl rfl rfl ?_
  refine rk_bipush C (n := 60) (v := 6) dX0_init_58 rfl (by decide) ?_
  refine rk_ge_f C (n := 63) (tgt := 95) dX0_init_60 (by decide) rfl (by decide) ?_
  refine rk_aload_n C (n := 64) (q := 1) dX0_init_63 rfl rfl rfl ?_
  refine rk_get C (n := 67) gf_RX0_11 (by decide) (show _ = Sum.inr (0, [hA G 2, hA G 3, hA G 4, hA G 5, .int 0, .int 4, .int 10]) from rfl) rfl dX0_init_64 rfl ?_
  refine rk_iload_n C (n := 68) (q := 0) dX0_init_67 rfl rfl rfl ?_
  refine rk_newW C (n := 71) (ci := 2) (N := 9) (q := 6) (cs' := 5) (sl' := 2851) tyX2 [.int 0, .int 0, .int 0, .int 0, .int 0, .int 0, .int 0, .int 0, .null] rfl inB2 tyX2_ok cl_RX0_9 wi_2 wz_2 wd_2 (by decide) (by decide) dX0_init_68 rfl rfl rfl rfl ?_
  refine rk_dup C (n := 72) dX0_init_71 rfl rfl ?_
  refine rk_callJW C (n := 75) (nn := 7) (cs' := 6) (sl' := 2951) rfl rfl rfl (k_X2i_6 G _) cj_RX0_38 (by decide) rfl (Nat.le_of_ble_eq_true rfl) rfl (by decide) (by decide) dX0_init_72 rfl ?_
  refine rk_aastW C (n := 76) (j := 0) (tk := 4) (ci := 2) (r := (RX2, TX2, 9)) (by decide) (by decide) (show _ = Sum.inl (G.2.2.1 4, 6, Sum.inr (Sum.inr (Sum.inr (Sum.inr (fun _ => none))))) from rfl) rfl (show _ = Sum.inr (2, [.int 0, .int 0, .int 0, .int 0, .int 0, .int 0, .int 0, .int 0, hA G 7]) from rfl) rfl (by decide) (by decide) dX0_init_75 rfl ?_
  refine rk_aload_n C (n := 77) (q := 1) dX0_init_76 rfl rfl rfl ?_
  refine rk_get C (n := 80) gf_RX0_17 (by decide) (show _ = Sum.inr (0, [hA G 2, hA G 3, hA G 4, hA G 5, .int 0, .int 4, .int 10]) from rfl) rfl dX0_init_77 rfl ?_
  refine rk_iload_n C (n := 81) (q := 0) dX0_init_80 rfl rfl rfl ?_
  refine rk_bipush C (n := 83) (v := 6) dX0_init_81 rfl (by decide) ?_
  refine rk_imulW C (n := 84) (v := 0) dX0_init_83 rfl (by decide) ?_
  refine rk_iload_n C (n := 85) (q := 0) dX0_init_84 rfl rfl rfl ?_
  refine rk_iaddW C (n := 86) (v := 0) dX0_init_85 rfl (by decide) ?_
  refine rk_bipush C (n := 88) (v := 9) dX0_init_86 rfl (by decide) ?_
  refine rk_iastW C (n := 89) (j := 0) (by decide) (show _ = Sum.inl (G.2.2.1 0, 36, Sum.inl (fun _ => 0)) from rfl) (by decide) (by decide) dX0_init_88 rfl ?_
  refine rk_iinc C (n := 92) (q := 0) (v := 1) [(1, .int 1), (0, hA G 1)] dX0_init_89 rfl rfl (by decide) (by decide) rfl ?_
  refine rk_goto C (n := 57) dX0_init_92 (by decide) ?_
  refine rk_iload_n C (n := 58) (q := 0) dX0_init_57 rfl rfl rfl ?_
  refine rk_bipush C (n := 60) (v := 6) dX0_init_58 rfl (by decide) ?_
  refine rk_ge_f C (n := 63) (tgt := 95) dX0_init_60 (by decide) rfl (by decide) ?_
  refine rk_aload_n C (n := 64) (q := 1) dX0_init_63 rfl rfl rfl ?_
  refine rk_get C (n := 67) gf_RX0_11 (by decide) (show _ = Sum.inr (0, [hA G 2, hA G 3, hA G 4, hA G 5, .int 0, .int 4, .int 10]) from rfl) rfl dX0_init_64 rfl ?_
  refine rk_iload_n C (n := 68) (q := 0) dX0_init_67 rfl rfl rfl ?_
  refine rk_newW C (n := 71) (ci := 2) (N := 9) (q := 8) (cs' := 7) (sl' := 2960) tyX2 [.int 0, .int 0, .int 0, .int 0, .int 0, .int 0, .int 0, .int 0, .null] rfl inB2 tyX2_ok cl_RX0_9 wi_2 wz_2 wd_2 (by decide) (by decide) dX0_init_68 rfl rfl rfl rfl ?_
  refine rk_dup C (n := 72) dX0_init_71 rfl rfl ?_
  refine rk_callJW C (n := 75) (nn := 9) (cs' := 8) (sl' := 3060) rfl rfl rfl (k_X2i_8 G _) cj_RX0_38 (by decide) rfl (Nat.le_of_ble_eq_true rfl) rfl (by decide) (by decide) dX0_init_72 rfl ?_
  refine rk_aastW C (n := 76) (j := 1) (tk := 4) (ci := 2) (r := (RX2, TX2, 9)) (by decide) (by decide) (show _ = Sum.inl (G.2.2.1 4, 6, Sum.inr (Sum.inr (Sum.inr (Sum.inr (va_up (fun _ => none) 0 (some (G.2.2.2.1 + 6))))))) from rfl) rfl (show _ = Sum.inr (2, [.int 0, .int 0, .int 0, .int 0, .int 0, .int 0, .int 0, .int 0, hA G 9]) from rfl) rfl (by decide) (by decide) dX0_init_75 rfl ?_
  refine rk_aload_n C (n := 77) (q := 1) dX0_init_76 rfl rfl rfl ?_
  refine rk_get C (n := 80) gf_RX0_17 (by decide) (show _ = Sum.inr (0, [hA G 2, hA G 3, hA G 4, hA G 5, .int 0, .int 4, .int 10]) from rfl) rfl dX0_init_77 rfl ?_
  refine rk_iload_n C (n := 81) (q := 0) dX0_init_80 rfl rfl rfl ?_
  refine rk_bipush C (n := 83) (v := 6) dX0_init_81 rfl (by decide) ?_
  refine rk_imulW C (n := 84) (v := 6) dX0_init_83 rfl (by decide) ?_
  refine rk_iload_n C (n := 85) (q := 0) dX0_init_84 rfl rfl rfl ?_
  refine rk_iaddW C (n := 86) (v := 7) dX0_init_85 rfl (by decide) ?_
  refine rk_bipush C (n := 88) (v := 9) dX0_init_86 rfl (by decide) ?_
  refine rk_iastW C (n := 89) (j := 7) (by decide) (show _ = Sum.inl (G.2.2.1 0, 36, Sum.inl (upd (fun _ => 0) 0 9)) from rfl) (by decide) (by decide) dX0_init_88 rfl ?_
  refine rk_iinc C (n := 92) (q := 0) (v := 2) [(1, .int 2), (0, hA G 1)] dX0_init_89 rfl rfl (by decide) (by decide) rfl ?_
  refine rk_goto C (n := 57) dX0_init_92 (by decide) ?_
  refine rk_iload_n C (n := 58) (q := 0) dX0_init_57 rfl rfl rfl ?_
  refine rk_bipush C (n := 60) (v := 6) dX0_init_58 rfl (by decide) ?_
  refine rk_ge_f C (n := 63) (tgt := 95) dX0_init_60 (by decide) rfl (by decide) ?_
  refine rk_aload_n C (n := 64) (q := 1) dX0_init_63 rfl rfl rfl ?_
  refine rk_get C (n := 67) gf_RX0_11 (by decide) (show _ = Sum.inr (0, [hA G 2, hA G 3, hA G 4, hA G 5, .int 0, .int 4, .int 10]) from rfl) rfl dX0_init_64 rfl ?_
  refine rk_iload_n C (n := 68) (q := 0) dX0_init_67 rfl rfl rfl ?_
  refine rk_newW C (n := 71) (ci := 2) (N := 9) (q := 10) (cs' := 9) (sl' := 3069) tyX2 [.int 0, .int 0, .int 0, .int 0, .int 0, .int 0, .int 0, .int 0, .null] rfl inB2 tyX2_ok cl_RX0_9 wi_2 wz_2 wd_2 (by decide) (by decide) dX0_init_68 rfl rfl rfl rfl ?_
  refine rk_dup C (n := 72) dX0_init_71 rfl rfl ?_
  refine rk_callJW C (n := 75) (nn := 11) (cs' := 10) (sl' := 3169) rfl rfl rfl (k_X2i_10 G _) cj_RX0_38 (by decide) rfl (Nat.le_of_ble_eq_true rfl) rfl (by decide) (by decide) dX0_init_72 rfl ?_
  refine rk_aastW C (n := 76) (j := 2) (tk := 4) (ci := 2) (r := (RX2, TX2, 9)) (by decide) (by decide) (show _ = Sum.inl (G.2.2.1 4, 6, Sum.inr (Sum.inr (Sum.inr (Sum.inr (va_up (va_up (fun _ => none) 0 (some (G.2.2.2.1 + 6))) 1 (some (G.2.2.2.1 + 8))))))) from rfl) rfl (show _ = Sum.inr (2, [.int 0, .int 0, .int 0, .int 0, .int 0, .int 0, .int 0, .int 0, hA G 11]) from rfl) rfl (by decide) (by decide) dX0_init_75 rfl ?_
  refine rk_aload_n C (n := 77) (q := 1) dX0_init_76 rfl rfl rfl ?_
  refine rk_get C (n := 80) gf_RX0_17 (by decide) (show _ = Sum.inr (0, [hA G 2, hA G 3, hA G 4, hA G 5, .int 0, .int 4, .int 10]) from rfl) rfl dX0_init_77 rfl ?_
  refine rk_iload_n C (n := 81) (q := 0) dX0_init_80 rfl rfl rfl ?_
  refine rk_bipush C (n := 83) (v := 6) dX0_init_81 rfl (by decide) ?_
  refine rk_imulW C (n := 84) (v := 12) dX0_init_83 rfl (by decide) ?_
  refine rk_iload_n C (n := 85) (q := 0) dX0_init_84 rfl rfl rfl ?_
  refine rk_iaddW C (n := 86) (v := 14) dX0_init_85 rfl (by decide) ?_
  refine rk_bipush C (n := 88) (v := 9) dX0_init_86 rfl (by decide) ?_
  refine rk_iastW C (n := 89) (j := 14) (by decide) (show _ = Sum.inl (G.2.2.1 0, 36, Sum.inl (upd (upd (fun _ => 0) 0 9) 7 9)) from rfl) (by decide) (by decide) dX0_init_88 rfl ?_
  refine rk_iinc C (n := 92) (q := 0) (v := 3) [(1, .int 3), (0, hA G 1)] dX0_init_89 rfl rfl (by decide) (by decide) rfl ?_
  refine rk_goto C (n := 57) dX0_init_92 (by decide) ?_
  refine rk_iload_n C (n := 58) (q := 0) dX0_init_57 rfl rfl rfl ?_
  refine rk_bipush C (n := 60) (v := 6) dX0_init_58 rfl (by decide) ?_
  refine rk_ge_f C (n := 63) (tgt := 95) dX0_init_60 (by decide) rfl (by decide) ?_
  refine rk_aload_n C (n := 64) (q := 1) dX0_init_63 rfl rfl rfl ?_
  refine rk_get C (n := 67) gf_RX0_11 (by decide) (show _ = Sum.inr (0, [hA G 2, hA G 3, hA G 4, hA G 5, .int 0, .int 4, .int 10]) from rfl) rfl dX0_init_64 rfl ?_
  refine rk_iload_n C (n := 68) (q := 0) dX0_init_67 rfl rfl rfl ?_
  refine rk_newW C (n := 71) (ci := 2) (N := 9) (q := 12) (cs' := 11) (sl' := 3178) tyX2 [.int 0, .int 0, .int 0, .int 0, .int 0, .int 0, .int 0, .int 0, .null] rfl inB2 tyX2_ok cl_RX0_9 wi_2 wz_2 wd_2 (by decide) (by decide) dX0_init_68 rfl rfl rfl rfl ?_
  refine rk_dup C (n := 72) dX0_init_71 rfl rfl ?_
  refine rk_callJW C (n := 75) (nn := 13) (cs' := 12) (sl' := 3278) rfl rfl rfl (k_X2i_12 G _) cj_RX0_38 (by decide) rfl (Nat.le_of_ble_eq_true rfl) rfl (by decide) (by decide) dX0_init_72 rfl ?_
  refine rk_aastW C (n := 76) (j := 3) (tk := 4) (ci := 2) (r := (RX2, TX2, 9)) (by decide) (by decide) (show _ = Sum.inl (G.2.2.1 4, 6, Sum.inr (Sum.inr (Sum.inr (Sum.inr (va_up (va_up (va_up (fun _ => none) 0 (some (G.2.2.2.1 + 6))) 1 (some (G.2.2.2.1 + 8))) 2 (some (G.2.2.2.1 + 10))))))) from rfl) rfl (show _ = Sum.inr (2, [.int 0, .int 0, .int 0, .int 0, .int 0, .int 0, .int 0, .int 0, hA G 13]) from rfl) rfl (by decide) (by decide) dX0_init_75 rfl ?_
  refine rk_aload_n C (n := 77) (q := 1) dX0_init_76 rfl rfl rfl ?_
  refine rk_get C (n := 80) gf_RX0_17 (by decide) (show _ = Sum.inr (0, [hA G 2, hA G 3, hA G 4, hA G 5, .int 0, .int 4, .int 10]) from rfl) rfl dX0_init_77 rfl ?_
  refine rk_iload_n C (n := 81) (q := 0) dX0_init_80 rfl rfl rfl ?_
  refine rk_bipush C (n := 83) (v := 6) dX0_init_81 rfl (by decide) ?_
  refine rk_imulW C (n := 84) (v := 18) dX0_init_83 rfl (by decide) ?_
  refine rk_iload_n C (n := 85) (q := 0) dX0_init_84 rfl rfl rfl ?_
  refine rk_iaddW C (n := 86) (v := 21) dX0_init_85 rfl (by decide) ?_
  refine rk_bipush C (n := 88) (v := 9) dX0_init_86 rfl (by decide) ?_
  refine rk_iastW C (n := 89) (j := 21) (by decide) (show _ = Sum.inl (G.2.2.1 0, 36, Sum.inl (upd (upd (upd (fun _ => 0) 0 9) 7 9) 14 9)) from rfl) (by decide) (by decide) dX0_init_88 rfl ?_
  refine rk_iinc C (n := 92) (q := 0) (v := 4) [(1, .int 4), (0, hA G 1)] dX0_init_89 rfl rfl (by decide) (by decide) rfl ?_
  refine rk_goto C (n := 57) dX0_init_92 (by decide) ?_
  refine rk_iload_n C (n := 58) (q := 0) dX0_init_57 rfl rfl rfl ?_
  refine rk_bipush C (n := 60) (v := 6) dX0_init_58 rfl (by decide) ?_
  refine rk_ge_f C (n := 63) (tgt := 95) dX0_init_60 (by decide) rfl (by decide) ?_
  refine rk_aload_n C (n := 64) (q := 1) dX0_init_63 rfl rfl rfl ?_
  refine rk_get C (n := 67) gf_RX0_11 (by decide) (show _ = Sum.inr (0, [hA G 2, hA G 3, hA G 4, hA G 5, .int 0, .int 4, .int 10]) from rfl) rfl dX0_init_64 rfl ?_
  refine rk_iload_n C (n := 68) (q := 0) dX0_init_67 rfl rfl rfl ?_
  refine rk_newW C (n := 71) (ci := 2) (N := 9) (q := 14) (cs' := 13) (sl' := 3287) tyX2 [.int 0, .int 0, .int 0, .int 0, .int 0, .int 0, .int 0, .int 0, .null] rfl inB2 tyX2_ok cl_RX0_9 wi_2 wz_2 wd_2 (by decide) (by decide) dX0_init_68 rfl rfl rfl rfl ?_
  refine rk_dup C (n := 72) dX0_init_71 rfl rfl ?_
  refine rk_callJW C (n := 75) (nn := 15) (cs' := 14) (sl' := 3387) rfl rfl rfl (k_X2i_14 G _) cj_RX0_38 (by decide) rfl (Nat.le_of_ble_eq_true rfl) rfl (by decide) (by decide) dX0_init_72 rfl ?_
  refine rk_aastW C (n := 76) (j := 4) (tk := 4) (ci := 2) (r := (RX2, TX2, 9)) (by decide) (by decide) (show _ = Sum.inl (G.2.2.1 4, 6, Sum.inr (Sum.inr (Sum.inr (Sum.inr (va_up (va_up (va_up (va_up (fun _ => none) 0 (some (G.2.2.2.1 + 6))) 1 (some (G.2.2.2.1 + 8))) 2 (some (G.2.2.2.1 + 10))) 3 (some (G.2.2.2.1 + 12))))))) from rfl) rfl (show _ = Sum.inr (2, [.int 0, .int 0, .int 0, .int 0, .int 0, .int 0, .int 0, .int 0, hA G 15]) from rfl) rfl (by decide) (by decide) dX0_init_75 rfl ?_
  refine rk_aload_n C (n := 77) (q := 1) dX0_init_76 rfl rfl rfl ?_
  refine rk_get C (n := 80) gf_RX0_17 (by decide) (show _ = Sum.inr (0, [hA G 2, hA G 3, hA G 4, hA G 5, .int 0, .int 4, .int 10]) from rfl) rfl dX0_init_77 rfl ?_
  refine rk_iload_n C (n := 81) (q := 0) dX0_init_80 rfl rfl rfl ?_
  refine rk_bipush C (n := 83) (v := 6) dX0_init_81 rfl (by decide) ?_
  refine rk_imulW C (n := 84) (v := 24) dX0_init_83 rfl (by decide) ?_
  refine rk_iload_n C (n := 85) (q := 0) dX0_init_84 rfl rfl rfl ?_
  refine rk_iaddW C (n := 86) (v := 28) dX0_init_85 rfl (by decide) ?_
  refine rk_bipush C (n := 88) (v := 9) dX0_init_86 rfl (by decide) ?_
  refine rk_iastW C (n := 89) (j := 28) (by decide) (show _ = Sum.inl (G.2.2.1 0, 36, Sum.inl (upd (upd (upd (upd (fun _ => 0) 0 9) 7 9) 14 9) 21 9)) from rfl) (by decide) (by decide) dX0_init_88 rfl ?_
  refine rk_iinc C (n := 92) (q := 0) (v := 5) [(1, .int 5), (0, hA G 1)] dX0_init_89 rfl rfl (by decide) (by decide) rfl ?_
  refine rk_goto C (n := 57) dX0_init_92 (by decide) ?_
  refine rk_iload_n C (n := 58) (q := 0) dX0_init_57 rfl rfl rfl ?_
  refine rk_bipush C (n := 60) (v := 6) dX0_init_58 rfl (by decide) ?_
  refine rk_ge_f C (n := 63) (tgt := 95) dX0_init_60 (by decide) rfl (by decide) ?_
  refine rk_aload_n C (n := 64) (q := 1) dX0_init_63 rfl rfl rfl ?_
  refine rk_get C (n := 67) gf_RX0_11 (by decide) (show _ = Sum.inr (0, [hA G 2, hA G 3, hA G 4, hA G 5, .int 0, .int 4, .int 10]) from rfl) rfl dX0_init_64 rfl ?_
  refine rk_iload_n C (n := 68) (q := 0) dX0_init_67 rfl rfl rfl ?_
  refine rk_newW C (n := 71) (ci := 2) (N := 9) (q := 16) (cs' := 15) (sl' := 3396) tyX2 [.int 0, .int 0, .int 0, .int 0, .int 0, .int 0, .int 0, .int 0, .null] rfl inB2 tyX2_ok cl_RX0_9 wi_2 wz_2 wd_2 (by decide) (by decide) dX0_init_68 rfl rfl rfl rfl ?_
  refine rk_dup C (n := 72) dX0_init_71 rfl rfl ?_
  refine rk_callJW C (n := 75) (nn := 17) (cs' := 16) (sl' := 3496) rfl rfl rfl (k_X2i_16 G _) cj_RX0_38 (by decide) rfl (Nat.le_of_ble_eq_true rfl) rfl (by decide) (by decide) dX0_init_72 rfl ?_
  refine rk_aastW C (n := 76) (j := 5) (tk := 4) (ci := 2) (r := (RX2, TX2, 9)) (by decide) (by decide) (show _ = Sum.inl (G.2.2.1 4, 6, Sum.inr (Sum.inr (Sum.inr (Sum.inr (va_up (va_up (va_up (va_up (va_up (fun _ => none) 0 (some (G.2.2.2.1 + 6))) 1 (some (G.2.2.2.1 + 8))) 2 (some (G.2.2.2.1 + 10))) 3 (some (G.2.2.2.1 + 12))) 4 (some (G.2.2.2.1 + 14))))))) from rfl) rfl (show _ = Sum.inr (2, [.int 0, .int 0, .int 0, .int 0, .int 0, .int 0, .int 0, .int 0, hA G 17]) from rfl) rfl (by decide) (by decide) dX0_init_75 rfl ?_
  refine rk_aload_n C (n := 77) (q := 1) dX0_init_76 rfl rfl rfl ?_
  refine rk_get C (n := 80) gf_RX0_17 (by decide) (show _ = Sum.inr (0, [hA G 2, hA G 3, hA G 4, hA G 5, .int 0, .int 4, .int 10]) from rfl) rfl dX0_init_77 rfl ?_
  refine rk_iload_n C (n := 81) (q := 0) dX0_init_80 rfl rfl rfl ?_
  refine rk_bipush C (n := 83) (v := 6) dX0_init_81 rfl (by decide) ?_
  refine rk_imulW C (n := 84) (v := 30) dX0_init_83 rfl (by decide) ?_
  refine rk_iload_n C (n := 85) (q := 0) dX0_init_84 rfl rfl rfl ?_
  refine rk_iaddW C (n := 86) (v := 35) dX0_init_85 rfl (by decide) ?_
  refine rk_bipush C (n := 88) (v := 9) dX0_init_86 rfl (by decide) ?_
  refine rk_iastW C (n := 89) (j := 35) (by decide) (show _ = Sum.inl (G.2.2.1 0, 36, Sum.inl (upd (upd (upd (upd (upd (fun _ => 0) 0 9) 7 9) 14 9) 21 9) 28 9)) from rfl) (by decide) (by decide) dX0_init_88 rfl ?_
  refine rk_iinc C (n := 92) (q := 0) (v := 6) [(1, .int 6), (0, hA G 1)] dX0_init_89 rfl rfl (by decide) (by decide) rfl ?_
  refine rk_goto C (n := 57) dX0_init_92 (by decide) ?_
  refine rk_iload_n C (n := 58) (q := 0) dX0_init_57 rfl rfl rfl ?_
  refine rk_bipush C (n := 60) (v := 6) dX0_init_58 rfl (by decide) ?_
  refine rk_ge_t C (n := 95) dX0_init_60 (by decide) (by decide) ?_
  exact rk_ret C K rfl rfl rfl dX0_init_95
def K_X4i_18 (G : hG) (f : kM) : kM := (kU (kU (kU (kU (kU (kU (kU (kU (kU (kU (kU (kU (kU (kU f 18 (.inr (4, [.null, .null, .null, .null, .null, .null, .int 0]))) 19 (.inl (G.2.2.1 0, 8, .inl (fun _ => 0)))) 18 (.inr (4, [hA G 19, .null, .null, .null, .null, .null, .int 0]))) 20 (.inl (G.2.2.1 0, 8, .inl (fun _ => 0)))) 18 (.inr (4, [hA G 19, hA G 20, .null, .null, .null, .null, .int 0]))) 21 (.inl (G.2.2.1 0, 8, .inl (fun _ => 0)))) 18 (.inr (4, [hA G 19, hA G 20, hA G 21, .null, .null, .null, .int 0]))) 22 (.inl (G.2.2.1 0, 8, .inl (fun _ => 0)))) 18 (.inr (4, [hA G 19, hA G 20, hA G 21, hA G 22, .null, .null, .int 0]))) 23 (.inl (G.2.2.1 0, 8, .inl (fun _ => 0)))) 18 (.inr (4, [hA G 19, hA G 20, hA G 21, hA G 22, hA G 23, .null, .int 0]))) 24 (.inl (G.2.2.1 0, 8, .inl (fun _ => 0)))) 18 (.inr (4, [hA G 19, hA G 20, hA G 21, hA G 22, hA G 23, hA G 24, .int 0]))) 18 (.inr (4, [hA G 19, hA G 20, hA G 21, hA G 22, hA G 23, hA G 24, .int 0])))
set_option maxRecDepth 100000 in
set_option maxHeartbeats 4000000 in
theorem k_X4i_18 (G : hG) (f : kM) : Mk G 1 6 48 yX4_init cX4_init 1 [hA G 18] 19 (kU f 18 (.inr (4, [.null, .null, .null, .null, .null, .null, .int 0]))) (K_X4i_18 G f) := by
  refine mk_of (by decide +kernel) rfl (Nat.le_of_ble_eq_true rfl) (fun X C K => ?_)
  have C : Ck G X 19 6 48 1 cX4_init 1 RX4 := C
  unfold K_X4i_18 at K
  show Rk G X 19 0 [(0, hA G 18)] [] (kU f 18 (.inr (4, [.null, .null, .null, .null, .null, .null, .int 0]))) 0 0
  refine rk_aload_n C (n := 1) (q := 0) dX4_init_0 rfl rfl rfl ?_
  refine rk_objInit C (n := 4) oi_RX4_3 wo_1 wo_2 (by decide) (Nat.le_of_ble_eq_true rfl) dX4_init_1 rfl ?_
  refine rk_aload_n C (n := 5) (q := 0) dX4_init_4 rfl rfl rfl ?_
  refine rk_bipush C (n := 7) (v := 8) dX4_init_5 rfl (by decide) ?_
  refine rk_newaW C (n := 9) (tk := 0) (N := 8) (q := 19) (cs' := 1) (sl' := 8) (a0 := (8, .inl (fun _ => 0))) wa_int rfl rfl (fun _ _ h => h) (fun _ => rfl) (by decide) (by decide) (by decide) (by decide) (by decide) dX4_init_7 rfl rfl rfl rfl ?_
  refine rk_putFW C K (n := 12) (fs' := [hA G 19, .null, .null, .null, .null, .null, .int 0]) pf_RX4_9 (by decide) (show _ = Sum.inr (4, [.null, .null, .null, .null, .null, .null, .int 0]) from rfl) rfl ⟨rfl, rfl⟩ (Nat.le_of_ble_eq_true rfl) dX4_init_9 rfl ?_
  refine rk_aload_n C (n := 13) (q := 0) dX4_init_12 rfl rfl rfl ?_
  refine rk_bipush C (n := 15) (v := 8) dX4_init_13 rfl (by decide) ?_
  refine rk_newaW C (n := 17) (tk := 0) (N := 8) (q := 20) (cs' := 2) (sl' := 16) (a0 := (8, .inl (fun _ => 0))) wa_int rfl rfl (fun _ _ h => h) (fun _ => rfl) (by decide) (by decide) (by decide) (by decide) (by decide) dX4_init_15 rfl rfl rfl rfl ?_
  refine rk_putFW C K (n := 20) (fs' := [hA G 19, hA G 20, .null, .null, .null, .null, .int 0]) pf_RX4_15 (by decide) (show _ = Sum.inr (4, [hA G 19, .null, .null, .null, .null, .null, .int 0]) from rfl) rfl ⟨rfl, rfl⟩ (Nat.le_of_ble_eq_true rfl) dX4_init_17 rfl ?_
  refine rk_aload_n C (n := 21) (q := 0) dX4_init_20 rfl rfl rfl ?_
  refine rk_bipush C (n := 23) (v := 8) dX4_init_21 rfl (by decide) ?_
  refine rk_newaW C (n := 25) (tk := 0) (N := 8) (q := 21) (cs' := 3) (sl' := 24) (a0 := (8, .inl (fun _ => 0))) wa_int rfl rfl (fun _ _ h => h) (fun _ => rfl) (by decide) (by decide) (by decide) (by decide) (by decide) dX4_init_23 rfl rfl rfl rfl ?_
  refine rk_putFW C K (n := 28) (fs' := [hA G 19, hA G 20, hA G 21, .null, .null, .null, .int 0]) pf_RX4_18 (by decide) (show _ = Sum.inr (4, [hA G 19, hA G 20, .null, .null, .null, .null, .int 0]) from rfl) rfl ⟨rfl, rfl⟩ (Nat.le_of_ble_eq_true rfl) dX4_init_25 rfl ?_
  refine rk_aload_n C (n := 29) (q := 0) dX4_init_28 rfl rfl rfl ?_
  refine rk_bipush C (n := 31) (v := 8) dX4_init_29 rfl (by decide) ?_
  refine rk_newaW C (n := 33) (tk := 0) (N := 8) (q := 22) (cs' := 4) (sl' := 32) (a0 := (8, .inl (fun _ => 0))) wa_int rfl rfl (fun _ _ h => h) (fun _ => rfl) (by decide) (by decide) (by decide) (by decide) (by decide) dX4_init_31 rfl rfl rfl rfl ?_
  refine rk_putFW C K (n := 36) (fs' := [hA G 19, hA G 20, hA G 21, hA G 22, .null, .null, .int 0]) pf_RX4_21 (by decide) (show _ = Sum.inr (4, [hA G 19, hA G 20, hA G 21, .null, .null, .null, .int 0]) from rfl) rfl ⟨rfl, rfl⟩ (Nat.le_of_ble_eq_true rfl) dX4_init_33 rfl ?_
  refine rk_aload_n C (n := 37) (q := 0) dX4_init_36 rfl rfl rfl ?_
  refine rk_bipush C (n := 39) (v := 8) dX4_init_37 rfl (by decide) ?_
  refine rk_newaW C (n := 41) (tk := 0) (N := 8) (q := 23) (cs' := 5) (sl' := 40) (a0 := (8, .inl (fun _ => 0))) wa_int rfl rfl (fun _ _ h => h) (fun _ => rfl) (by decide) (by decide) (by decide) (by decide) (by decide) dX4_init_39 rfl rfl rfl rfl ?_
  refine rk_putFW C K (n := 44) (fs' := [hA G 19, hA G 20, hA G 21, hA G 22, hA G 23, .null, .int 0]) pf_RX4_24 (by decide) (show _ = Sum.inr (4, [hA G 19, hA G 20, hA G 21, hA G 22, .null, .null, .int 0]) from rfl) rfl ⟨rfl, rfl⟩ (Nat.le_of_ble_eq_true rfl) dX4_init_41 rfl ?_
  refine rk_aload_n C (n := 45) (q := 0) dX4_init_44 rfl rfl rfl ?_
  refine rk_bipush C (n := 47) (v := 8) dX4_init_45 rfl (by decide) ?_
  refine rk_newaW C (n := 49) (tk := 0) (N := 8) (q := 24) (cs' := 6) (sl' := 48) (a0 := (8, .inl (fun _ => 0))) wa_int rfl rfl (fun _ _ h => h) (fun _ => rfl) (by decide) (by decide) (by decide) (by decide) (by decide) dX4_init_47 rfl rfl rfl rfl ?_
  refine rk_putFW C K (n := 52) (fs' := [hA G 19, hA G 20, hA G 21, hA G 22, hA G 23, hA G 24, .int 0]) pf_RX4_27 (by decide) (show _ = Sum.inr (4, [hA G 19, hA G 20, hA G 21, hA G 22, hA G 23, .null, .int 0]) from rfl) rfl ⟨rfl, rfl⟩ (Nat.le_of_ble_eq_true rfl) dX4_init_49 rfl ?_
  refine rk_aload_n C (n := 53) (q := 0) dX4_init_52 rfl rfl rfl ?_
  refine rk_iconst C (n := 54) (v := 0) dX4_init_53 rfl (by decide) ?_
  refine rk_putW C (n := 57) (fs' := [hA G 19, hA G 20, hA G 21, hA G 22, hA G 23, hA G 24, .int 0]) pf_RX4_30 (by decide) (show _ = Sum.inr (4, [hA G 19, hA G 20, hA G 21, hA G 22, hA G 23, hA G 24, .int 0]) from rfl) rfl ⟨rfl, rfl⟩ (Nat.le_of_ble_eq_true rfl) dX4_init_54 rfl ?_
  exact rk_ret C K rfl rfl rfl dX4_init_57
def K_X5i_25 (G : hG) (f : kM) : kM := (kU (kU (kU (kU (kU (kU (kU f 25 (.inr (5, [.null, .int 0, .null, .int 0]))) 26 (.inl (G.2.2.1 0, 40, .inl (fun _ => 0)))) 25 (.inr (5, [hA G 26, .int 0, .null, .int 0]))) 25 (.inr (5, [hA G 26, .int 0, .null, .int 0]))) 27 (.inl (G.2.2.1 0, 40, .inl (fun _ => 0)))) 25 (.inr (5, [hA G 26, .int 0, hA G 27, .int 0]))) 25 (.inr (5, [hA G 26, .int 0, hA G 27, .int 0])))
set_option maxRecDepth 100000 in
set_option maxHeartbeats 4000000 in
theorem k_X5i_25 (G : hG) (f : kM) : Mk G 1 2 80 yX5_init cX5_init 1 [hA G 25] 26 (kU f 25 (.inr (5, [.null, .int 0, .null, .int 0]))) (K_X5i_25 G f) := by
  refine mk_of (by decide +kernel) rfl (Nat.le_of_ble_eq_true rfl) (fun X C K => ?_)
  have C : Ck G X 26 2 80 1 cX5_init 1 RX5 := C
  unfold K_X5i_25 at K
  show Rk G X 26 0 [(0, hA G 25)] [] (kU f 25 (.inr (5, [.null, .int 0, .null, .int 0]))) 0 0
  refine rk_aload_n C (n := 1) (q := 0) dX5_init_0 rfl rfl rfl ?_
  refine rk_objInit C (n := 4) oi_RX5_3 wo_1 wo_2 (by decide) (Nat.le_of_ble_eq_true rfl) dX5_init_1 rfl ?_
  refine rk_aload_n C (n := 5) (q := 0) dX5_init_4 rfl rfl rfl ?_
  refine rk_bipush C (n := 7) (v := 40) dX5_init_5 rfl (by decide) ?_
  refine rk_newaW C (n := 9) (tk := 0) (N := 40) (q := 26) (cs' := 1) (sl' := 40) (a0 := (40, .inl (fun _ => 0))) wa_int rfl rfl (fun _ _ h => h) (fun _ => rfl) (by decide) (by decide) (by decide) (by decide) (by decide) dX5_init_7 rfl rfl rfl rfl ?_
  refine rk_putFW C K (n := 12) (fs' := [hA G 26, .int 0, .null, .int 0]) pf_RX5_9 (by decide) (show _ = Sum.inr (5, [.null, .int 0, .null, .int 0]) from rfl) rfl ⟨rfl, rfl⟩ (Nat.le_of_ble_eq_true rfl) dX5_init_9 rfl ?_
  refine rk_aload_n C (n := 13) (q := 0) dX5_init_12 rfl rfl rfl ?_
  refine rk_iconst C (n := 14) (v := 0) dX5_init_13 rfl (by decide) ?_
  refine rk_putW C (n := 17) (fs' := [hA G 26, .int 0, .null, .int 0]) pf_RX5_15 (by decide) (show _ = Sum.inr (5, [hA G 26, .int 0, .null, .int 0]) from rfl) rfl ⟨rfl, rfl⟩ (Nat.le_of_ble_eq_true rfl) dX5_init_14 rfl ?_
  refine rk_aload_n C (n := 18) (q := 0) dX5_init_17 rfl rfl rfl ?_
  refine rk_bipush C (n := 20) (v := 40) dX5_init_18 rfl (by decide) ?_
  refine rk_newaW C (n := 22) (tk := 0) (N := 40) (q := 27) (cs' := 2) (sl' := 80) (a0 := (40, .inl (fun _ => 0))) wa_int rfl rfl (fun _ _ h => h) (fun _ => rfl) (by decide) (by decide) (by decide) (by decide) (by decide) dX5_init_20 rfl rfl rfl rfl ?_
  refine rk_putFW C K (n := 25) (fs' := [hA G 26, .int 0, hA G 27, .int 0]) pf_RX5_19 (by decide) (show _ = Sum.inr (5, [hA G 26, .int 0, .null, .int 0]) from rfl) rfl ⟨rfl, rfl⟩ (Nat.le_of_ble_eq_true rfl) dX5_init_22 rfl ?_
  refine rk_aload_n C (n := 26) (q := 0) dX5_init_25 rfl rfl rfl ?_
  refine rk_iconst C (n := 27) (v := 0) dX5_init_26 rfl (by decide) ?_
  refine rk_putW C (n := 30) (fs' := [hA G 26, .int 0, hA G 27, .int 0]) pf_RX5_22 (by decide) (show _ = Sum.inr (5, [hA G 26, .int 0, hA G 27, .int 0]) from rfl) rfl ⟨rfl, rfl⟩ (Nat.le_of_ble_eq_true rfl) dX5_init_27 rfl ?_
  exact rk_ret C K rfl rfl rfl dX5_init_30
def K_X6i_28 (G : hG) (f : kM) : kM := (kU (kU (kU (kU (kU (kU (kU (kU (kU (kU (kU (kU f 28 (.inr (6, [.null, .int 0, .null, .int 0, .int 0, .null, .int 0, .int 0]))) 29 (.inl (G.2.2.1 0, 40, .inl (fun _ => 0)))) 28 (.inr (6, [hA G 29, .int 0, .null, .int 0, .int 0, .null, .int 0, .int 0]))) 28 (.inr (6, [hA G 29, .int 0, .null, .int 0, .int 0, .null, .int 0, .int 0]))) 30 (.inl (G.2.2.1 0, 40, .inl (fun _ => 0)))) 28 (.inr (6, [hA G 29, .int 0, hA G 30, .int 0, .int 0, .null, .int 0, .int 0]))) 28 (.inr (6, [hA G 29, .int 0, hA G 30, .int 0, .int 0, .null, .int 0, .int 0]))) 28 (.inr (6, [hA G 29, .int 0, hA G 30, .int 0, .int 0, .null, .int 0, .int 0]))) 31 (.inl (G.2.2.1 1, 6, .inl (fun _ => 0)))) 28 (.inr (6, [hA G 29, .int 0, hA G 30, .int 0, .int 0, hA G 31, .int 0, .int 0]))) 28 (.inr (6, [hA G 29, .int 0, hA G 30, .int 0, .int 0, hA G 31, .int 1, .int 0]))) 28 (.inr (6, [hA G 29, .int 0, hA G 30, .int 0, .int 0, hA G 31, .int 1, .int 0])))
set_option maxRecDepth 100000 in
set_option maxHeartbeats 4000000 in
theorem k_X6i_28 (G : hG) (f : kM) : Mk G 1 3 86 yX6_init cX6_init 1 [hA G 28] 29 (kU f 28 (.inr (6, [.null, .int 0, .null, .int 0, .int 0, .null, .int 0, .int 0]))) (K_X6i_28 G f) := by
  refine mk_of (by decide +kernel) rfl (Nat.le_of_ble_eq_true rfl) (fun X C K => ?_)
  have C : Ck G X 29 3 86 1 cX6_init 1 RX6 := C
  unfold K_X6i_28 at K
  show Rk G X 29 0 [(0, hA G 28)] [] (kU f 28 (.inr (6, [.null, .int 0, .null, .int 0, .int 0, .null, .int 0, .int 0]))) 0 0
  refine rk_aload_n C (n := 1) (q := 0) dX6_init_0 rfl rfl rfl ?_
  refine rk_objInit C (n := 4) oi_RX6_3 wo_1 wo_2 (by decide) (Nat.le_of_ble_eq_true rfl) dX6_init_1 rfl ?_
  refine rk_aload_n C (n := 5) (q := 0) dX6_init_4 rfl rfl rfl ?_
  refine rk_bipush C (n := 7) (v := 40) dX6_init_5 rfl (by decide) ?_
  refine rk_newaW C (n := 9) (tk := 0) (N := 40) (q := 29) (cs' := 1) (sl' := 40) (a0 := (40, .inl (fun _ => 0))) wa_int rfl rfl (fun _ _ h => h) (fun _ => rfl) (by decide) (by decide) (by decide) (by decide) (by decide) dX6_init_7 rfl rfl rfl rfl ?_
  refine rk_putFW C K (n := 12) (fs' := [hA G 29, .int 0, .null, .int 0, .int 0, .null, .int 0, .int 0]) pf_RX6_9 (by decide) (show _ = Sum.inr (6, [.null, .int 0, .null, .int 0, .int 0, .null, .int 0, .int 0]) from rfl) rfl ⟨rfl, rfl⟩ (Nat.le_of_ble_eq_true rfl) dX6_init_9 rfl ?_
  refine rk_aload_n C (n := 13) (q := 0) dX6_init_12 rfl rfl rfl ?_
  refine rk_iconst C (n := 14) (v := 0) dX6_init_13 rfl (by decide) ?_
  refine rk_putW C (n := 17) (fs' := [hA G 29, .int 0, .null, .int 0, .int 0, .null, .int 0, .int 0]) pf_RX6_15 (by decide) (show _ = Sum.inr (6, [hA G 29, .int 0, .null, .int 0, .int 0, .null, .int 0, .int 0]) from rfl) rfl ⟨rfl, rfl⟩ (Nat.le_of_ble_eq_true rfl) dX6_init_14 rfl ?_
  refine rk_aload_n C (n := 18) (q := 0) dX6_init_17 rfl rfl rfl ?_
  refine rk_bipush C (n := 20) (v := 40) dX6_init_18 rfl (by decide) ?_
  refine rk_newaW C (n := 22) (tk := 0) (N := 40) (q := 30) (cs' := 2) (sl' := 80) (a0 := (40, .inl (fun _ => 0))) wa_int rfl rfl (fun _ _ h => h) (fun _ => rfl) (by decide) (by decide) (by decide) (by decide) (by decide) dX6_init_20 rfl rfl rfl rfl ?_
  refine rk_putFW C K (n := 25) (fs' := [hA G 29, .int 0, hA G 30, .int 0, .int 0, .null, .int 0, .int 0]) pf_RX6_19 (by decide) (show _ = Sum.inr (6, [hA G 29, .int 0, .null, .int 0, .int 0, .null, .int 0, .int 0]) from rfl) rfl ⟨rfl, rfl⟩ (Nat.le_of_ble_eq_true rfl) dX6_init_22 rfl ?_
  refine rk_aload_n C (n := 26) (q := 0) dX6_init_25 rfl rfl rfl ?_
  refine rk_iconst C (n := 27) (v := 0) dX6_init_26 rfl (by decide) ?_
  refine rk_putW C (n := 30) (fs' := [hA G 29, .int 0, hA G 30, .int 0, .int 0, .null, .int 0, .int 0]) pf_RX6_22 (by decide) (show _ = Sum.inr (6, [hA G 29, .int 0, hA G 30, .int 0, .int 0, .null, .int 0, .int 0]) from rfl) rfl ⟨rfl, rfl⟩ (Nat.le_of_ble_eq_true rfl) dX6_init_27 rfl ?_
  refine rk_aload_n C (n := 31) (q := 0) dX6_init_30 rfl rfl rfl ?_
  refine rk_iconst C (n := 32) (v := 0) dX6_init_31 rfl (by decide) ?_
  refine rk_putW C (n := 35) (fs' := [hA G 29, .int 0, hA G 30, .int 0, .int 0, .null, .int 0, .int 0]) pf_RX6_25 (by decide) (show _ = Sum.inr (6, [hA G 29, .int 0, hA G 30, .int 0, .int 0, .null, .int 0, .int 0]) from rfl) rfl ⟨rfl, rfl⟩ (Nat.le_of_ble_eq_true rfl) dX6_init_32 rfl ?_
  refine rk_aload_n C (n := 36) (q := 0) dX6_init_35 rfl rfl rfl ?_
  refine rk_bipush C (n := 38) (v := 6) dX6_init_36 rfl (by decide) ?_
  refine rk_newaW C (n := 40) (tk := 1) (N := 6) (q := 31) (cs' := 3) (sl' := 86) (a0 := (6, .inl (fun _ => 0))) wa_boolean rfl rfl (fun _ _ h => h) (fun _ => rfl) (by decide) (by decide) (by decide) (by decide) (by decide) dX6_init_38 rfl rfl rfl rfl ?_
  refine rk_putFW C K (n := 43) (fs' := [hA G 29, .int 0, hA G 30, .int 0, .int 0, hA G 31, .int 0, .int 0]) pf_RX6_28 (by decide) (show _ = Sum.inr (6, [hA G 29, .int 0, hA G 30, .int 0, .int 0, .null, .int 0, .int 0]) from rfl) rfl ⟨rfl, rfl⟩ (Nat.le_of_ble_eq_true rfl) dX6_init_40 rfl ?_
  refine rk_aload_n C (n := 44) (q := 0) dX6_init_43 rfl rfl rfl ?_
  refine rk_iconst C (n := 45) (v := 1) dX6_init_44 rfl (by decide) ?_
  refine rk_putW C (n := 48) (fs' := [hA G 29, .int 0, hA G 30, .int 0, .int 0, hA G 31, .int 1, .int 0]) pf_RX6_32 (by decide) (show _ = Sum.inr (6, [hA G 29, .int 0, hA G 30, .int 0, .int 0, hA G 31, .int 0, .int 0]) from rfl) rfl ⟨rfl, rfl⟩ (Nat.le_of_ble_eq_true rfl) dX6_init_45 rfl ?_
  refine rk_aload_n C (n := 49) (q := 0) dX6_init_48 rfl rfl rfl ?_
  refine rk_iconst C (n := 50) (v := 0) dX6_init_49 rfl (by decide) ?_
  refine rk_putW C (n := 53) (fs' := [hA G 29, .int 0, hA G 30, .int 0, .int 0, hA G 31, .int 1, .int 0]) pf_RX6_36 (by decide) (show _ = Sum.inr (6, [hA G 29, .int 0, hA G 30, .int 0, .int 0, hA G 31, .int 1, .int 0]) from rfl) rfl ⟨rfl, rfl⟩ (Nat.le_of_ble_eq_true rfl) dX6_init_50 rfl ?_
  exact rk_ret C K rfl rfl rfl dX6_init_53
def K_X8i_32 (G : hG) (f : kM) : kM := (kU (kU (kU (kU (kU (kU (kU (kU (kU (kU f 32 (.inr (8, [.null, .null, .null, .int 0, .int 0, .int 0, .null, .int 0]))) 32 (.inr (8, [.null, .null, .null, .int 1, .int 0, .int 0, .null, .int 0]))) 32 (.inr (8, [.null, .null, .null, .int 1, .int 1, .int 0, .null, .int 0]))) 32 (.inr (8, [.null, .null, .null, .int 1, .int 1, .int 0, .null, .int 0]))) 33 (.inl (G.2.2.1 0, 6, .inl (fun _ => 0)))) 32 (.inr (8, [.null, .null, .null, .int 1, .int 1, .int 0, hA G 33, .int 0]))) 32 (.inr (8, [.null, .null, .null, .int 1, .int 1, .int 0, hA G 33, .int 0]))) 32 (.inr (8, [hA G 1, .null, .null, .int 1, .int 1, .int 0, hA G 33, .int 0]))) 32 (.inr (8, [hA G 1, hA G 18, .null, .int 1, .int 1, .int 0, hA G 33, .int 0]))) 32 (.inr (8, [hA G 1, hA G 18, hA G 25, .int 1, .int 1, .int 0, hA G 33, .int 0])))
set_option maxRecDepth 100000 in
set_option maxHeartbeats 4000000 in
theorem k_X8i_32 (G : hG) (f : kM) : Mk G 1 1 6 yX8_init cX8_init 4 [hA G 32, hA G 1, hA G 18, hA G 25] 33 (kU f 32 (.inr (8, [.null, .null, .null, .int 0, .int 0, .int 0, .null, .int 0]))) (K_X8i_32 G f) := by
  refine mk_of (by decide +kernel) rfl (Nat.le_of_ble_eq_true rfl) (fun X C K => ?_)
  have C : Ck G X 33 1 6 1 cX8_init 4 RX8 := C
  unfold K_X8i_32 at K
  show Rk G X 33 0 [(0, hA G 32), (1, hA G 1), (2, hA G 18), (3, hA G 25)] [] (kU f 32 (.inr (8, [.null, .null, .null, .int 0, .int 0, .int 0, .null, .int 0]))) 0 0
  refine rk_aload_n C (n := 1) (q := 0) dX8_init_0 rfl rfl rfl ?_
  refine rk_objInit C (n := 4) oi_RX8_3 wo_1 wo_2 (by decide) (Nat.le_of_ble_eq_true rfl) dX8_init_1 rfl ?_
  refine rk_aload_n C (n := 5) (q := 0) dX8_init_4 rfl rfl rfl ?_
  refine rk_iconst C (n := 6) (v := 1) dX8_init_5 rfl (by decide) ?_
  refine rk_putW C (n := 9) (fs' := [.null, .null, .null, .int 1, .int 0, .int 0, .null, .int 0]) pf_RX8_9 (by decide) (show _ = Sum.inr (8, [.null, .null, .null, .int 0, .int 0, .int 0, .null, .int 0]) from rfl) rfl ⟨rfl, rfl⟩ (Nat.le_of_ble_eq_true rfl) dX8_init_6 rfl ?_
  refine rk_aload_n C (n := 10) (q := 0) dX8_init_9 rfl rfl rfl ?_
  refine rk_iconst C (n := 11) (v := 1) dX8_init_10 rfl (by decide) ?_
  refine rk_putW C (n := 14) (fs' := [.null, .null, .null, .int 1, .int 1, .int 0, .null, .int 0]) pf_RX8_15 (by decide) (show _ = Sum.inr (8, [.null, .null, .null, .int 1, .int 0, .int 0, .null, .int 0]) from rfl) rfl ⟨rfl, rfl⟩ (Nat.le_of_ble_eq_true rfl) dX8_init_11 rfl ?_
  refine rk_aload_n C (n := 15) (q := 0) dX8_init_14 rfl rfl rfl ?_
  refine rk_iconst C (n := 16) (v := 0) dX8_init_15 rfl (by decide) ?_
  refine rk_putW C (n := 19) (fs' := [.null, .null, .null, .int 1, .int 1, .int 0, .null, .int 0]) pf_RX8_18 (by decide) (show _ = Sum.inr (8, [.null, .null, .null, .int 1, .int 1, .int 0, .null, .int 0]) from rfl) rfl ⟨rfl, rfl⟩ (Nat.le_of_ble_eq_true rfl) dX8_init_16 rfl ?_
  refine rk_aload_n C (n := 20) (q := 0) dX8_init_19 rfl rfl rfl ?_
  refine rk_bipush C (n := 22) (v := 6) dX8_init_20 rfl (by decide) ?_
  refine rk_newaW C (n := 24) (tk := 0) (N := 6) (q := 33) (cs' := 1) (sl' := 6) (a0 := (6, .inl (fun _ => 0))) wa_int rfl rfl (fun _ _ h => h) (fun _ => rfl) (by decide) (by decide) (by decide) (by decide) (by decide) dX8_init_22 rfl rfl rfl rfl ?_
  refine rk_putFW C K (n := 27) (fs' := [.null, .null, .null, .int 1, .int 1, .int 0, hA G 33, .int 0]) pf_RX8_22 (by decide) (show _ = Sum.inr (8, [.null, .null, .null, .int 1, .int 1, .int 0, .null, .int 0]) from rfl) rfl ⟨rfl, rfl⟩ (Nat.le_of_ble_eq_true rfl) dX8_init_24 rfl ?_
  refine rk_aload_n C (n := 28) (q := 0) dX8_init_27 rfl rfl rfl ?_
  refine rk_iconst C (n := 29) (v := 0) dX8_init_28 rfl (by decide) ?_
  refine rk_putW C (n := 32) (fs' := [.null, .null, .null, .int 1, .int 1, .int 0, hA G 33, .int 0]) pf_RX8_26 (by decide) (show _ = Sum.inr (8, [.null, .null, .null, .int 1, .int 1, .int 0, hA G 33, .int 0]) from rfl) rfl ⟨rfl, rfl⟩ (Nat.le_of_ble_eq_true rfl) dX8_init_29 rfl ?_
  refine rk_aload_n C (n := 33) (q := 0) dX8_init_32 rfl rfl rfl ?_
  refine rk_aload_n C (n := 34) (q := 1) dX8_init_33 rfl rfl rfl ?_
  refine rk_putFW C K (n := 37) (fs' := [hA G 1, .null, .null, .int 1, .int 1, .int 0, hA G 33, .int 0]) pf_RX8_29 (by decide) (show _ = Sum.inr (8, [.null, .null, .null, .int 1, .int 1, .int 0, hA G 33, .int 0]) from rfl) rfl ⟨rfl, rfl⟩ (Nat.le_of_ble_eq_true rfl) dX8_init_34 rfl ?_
  refine rk_aload_n C (n := 38) (q := 0) dX8_init_37 rfl rfl rfl ?_
  refine rk_aload_n C (n := 39) (q := 2) dX8_init_38 rfl rfl rfl ?_
  refine rk_putFW C K (n := 42) (fs' := [hA G 1, hA G 18, .null, .int 1, .int 1, .int 0, hA G 33, .int 0]) pf_RX8_33 (by decide) (show _ = Sum.inr (8, [hA G 1, .null, .null, .int 1, .int 1, .int 0, hA G 33, .int 0]) from rfl) rfl ⟨rfl, rfl⟩ (Nat.le_of_ble_eq_true rfl) dX8_init_39 rfl ?_
  refine rk_aload_n C (n := 43) (q := 0) dX8_init_42 rfl rfl rfl ?_
  refine rk_aload_n C (n := 44) (q := 3) dX8_init_43 rfl rfl rfl ?_
  refine rk_putFW C K (n := 47) (fs' := [hA G 1, hA G 18, hA G 25, .int 1, .int 1, .int 0, hA G 33, .int 0]) pf_RX8_37 (by decide) (show _ = Sum.inr (8, [hA G 1, hA G 18, .null, .int 1, .int 1, .int 0, hA G 33, .int 0]) from rfl) rfl ⟨rfl, rfl⟩ (Nat.le_of_ble_eq_true rfl) dX8_init_44 rfl ?_
  exact rk_ret C K rfl rfl rfl dX8_init_47
def K_X9i_34 (G : hG) (f : kM) : kM := (kU (kU (kU (kU (kU (kU (kU (kU (kU (kU (kU (kU (kU (kU (kU (kU f 34 (.inr (9, [.null, .null, .null, .null, .int 0, .int 0, .null, .null, .null]))) 35 (.inl (G.2.2.1 0, 156, .inl (fun _ => 0)))) 34 (.inr (9, [.null, hA G 35, .null, .null, .int 0, .int 0, .null, .null, .null]))) 36 (.inl (G.2.2.1 0, 156, .inl (fun _ => 0)))) 34 (.inr (9, [.null, hA G 35, hA G 36, .null, .int 0, .int 0, .null, .null, .null]))) 37 (.inl (G.2.2.1 0, 156, .inl (fun _ => 0)))) 34 (.inr (9, [.null, hA G 35, hA G 36, hA G 37, .int 0, .int 0, .null, .null, .null]))) 34 (.inr (9, [.null, hA G 35, hA G 36, hA G 37, .int 0, .int 0, .null, .null, .null]))) 34 (.inr (9, [.null, hA G 35, hA G 36, hA G 37, .int 0, .int 0, .null, .null, .null]))) 38 (.inl (G.2.2.1 0, 156, .inl (fun _ => 0)))) 34 (.inr (9, [.null, hA G 35, hA G 36, hA G 37, .int 0, .int 0, hA G 38, .null, .null]))) 39 (.inl (G.2.2.1 0, 3255, .inl (fun _ => 0)))) 34 (.inr (9, [.null, hA G 35, hA G 36, hA G 37, .int 0, .int 0, hA G 38, hA G 39, .null]))) 40 (.inl (G.2.2.1 0, 36, .inl (fun _ => 0)))) 34 (.inr (9, [.null, hA G 35, hA G 36, hA G 37, .int 0, .int 0, hA G 38, hA G 39, hA G 40]))) 34 (.inr (9, [hA G 1, hA G 35, hA G 36, hA G 37, .int 0, .int 0, hA G 38, hA G 39, hA G 40])))
set_option maxRecDepth 100000 in
set_option maxHeartbeats 4000000 in
theorem k_X9i_34 (G : hG) (f : kM) : Mk G 1 6 3915 yX9_init cX9_init 2 [hA G 34, hA G 1] 35 (kU f 34 (.inr (9, [.null, .null, .null, .null, .int 0, .int 0, .null, .null, .null]))) (K_X9i_34 G f) := by
  refine mk_of (by decide +kernel) rfl (Nat.le_of_ble_eq_true rfl) (fun X C K => ?_)
  have C : Ck G X 35 6 3915 1 cX9_init 2 RX9 := C
  unfold K_X9i_34 at K
  show Rk G X 35 0 [(0, hA G 34), (1, hA G 1)] [] (kU f 34 (.inr (9, [.null, .null, .null, .null, .int 0, .int 0, .null, .null, .null]))) 0 0
  refine rk_aload_n C (n := 1) (q := 0) dX9_init_0 rfl rfl rfl ?_
  refine rk_objInit C (n := 4) oi_RX9_3 wo_1 wo_2 (by decide) (Nat.le_of_ble_eq_true rfl) dX9_init_1 rfl ?_
  refine rk_aload_n C (n := 5) (q := 0) dX9_init_4 rfl rfl rfl ?_
  refine rk_sipush C (n := 8) (v := 156) dX9_init_5 rfl (by decide) ?_
  refine rk_newaW C (n := 10) (tk := 0) (N := 156) (q := 35) (cs' := 1) (sl' := 156) (a0 := (156, .inl (fun _ => 0))) wa_int rfl rfl (fun _ _ h => h) (fun _ => rfl) (by decide) (by decide) (by decide) (by decide) (by decide) dX9_init_8 rfl rfl rfl rfl ?_
  refine rk_putFW C K (n := 13) (fs' := [.null, hA G 35, .null, .null, .int 0, .int 0, .null, .null, .null]) pf_RX9_9 (by decide) (show _ = Sum.inr (9, [.null, .null, .null, .null, .int 0, .int 0, .null, .null, .null]) from rfl) rfl ⟨rfl, rfl⟩ (Nat.le_of_ble_eq_true rfl) dX9_init_10 rfl ?_
  refine rk_aload_n C (n := 14) (q := 0) dX9_init_13 rfl rfl rfl ?_
  refine rk_sipush C (n := 17) (v := 156) dX9_init_14 rfl (by decide) ?_
  refine rk_newaW C (n := 19) (tk := 0) (N := 156) (q := 36) (cs' := 2) (sl' := 312) (a0 := (156, .inl (fun _ => 0))) wa_int rfl rfl (fun _ _ h => h) (fun _ => rfl) (by decide) (by decide) (by decide) (by decide) (by decide) dX9_init_17 rfl rfl rfl rfl ?_
  refine rk_putFW C K (n := 22) (fs' := [.null, hA G 35, hA G 36, .null, .int 0, .int 0, .null, .null, .null]) pf_RX9_15 (by decide) (show _ = Sum.inr (9, [.null, hA G 35, .null, .null, .int 0, .int 0, .null, .null, .null]) from rfl) rfl ⟨rfl, rfl⟩ (Nat.le_of_ble_eq_true rfl) dX9_init_19 rfl ?_
  refine rk_aload_n C (n := 23) (q := 0) dX9_init_22 rfl rfl rfl ?_
  refine rk_sipush C (n := 26) (v := 156) dX9_init_23 rfl (by decide) ?_
  refine rk_newaW C (n := 28) (tk := 0) (N := 156) (q := 37) (cs' := 3) (sl' := 468) (a0 := (156, .inl (fun _ => 0))) wa_int rfl rfl (fun _ _ h => h) (fun _ => rfl) (by decide) (by decide) (by decide) (by decide) (by decide) dX9_init_26 rfl rfl rfl rfl ?_
  refine rk_putFW C K (n := 31) (fs' := [.null, hA G 35, hA G 36, hA G 37, .int 0, .int 0, .null, .null, .null]) pf_RX9_18 (by decide) (show _ = Sum.inr (9, [.null, hA G 35, hA G 36, .null, .int 0, .int 0, .null, .null, .null]) from rfl) rfl ⟨rfl, rfl⟩ (Nat.le_of_ble_eq_true rfl) dX9_init_28 rfl ?_
  refine rk_aload_n C (n := 32) (q := 0) dX9_init_31 rfl rfl rfl ?_
  refine rk_iconst C (n := 33) (v := 0) dX9_init_32 rfl (by decide) ?_
  refine rk_putW C (n := 36) (fs' := [.null, hA G 35, hA G 36, hA G 37, .int 0, .int 0, .null, .null, .null]) pf_RX9_21 (by decide) (show _ = Sum.inr (9, [.null, hA G 35, hA G 36, hA G 37, .int 0, .int 0, .null, .null, .null]) from rfl) rfl ⟨rfl, rfl⟩ (Nat.le_of_ble_eq_true rfl) dX9_init_33 rfl ?_
  refine rk_aload_n C (n := 37) (q := 0) dX9_init_36 rfl rfl rfl ?_
  refine rk_iconst C (n := 38) (v := 0) dX9_init_37 rfl (by decide) ?_
  refine rk_putW C (n := 41) (fs' := [.null, hA G 35, hA G 36, hA G 37, .int 0, .int 0, .null, .null, .null]) pf_RX9_25 (by decide) (show _ = Sum.inr (9, [.null, hA G 35, hA G 36, hA G 37, .int 0, .int 0, .null, .null, .null]) from rfl) rfl ⟨rfl, rfl⟩ (Nat.le_of_ble_eq_true rfl) dX9_init_38 rfl ?_
  refine rk_aload_n C (n := 42) (q := 0) dX9_init_41 rfl rfl rfl ?_
  refine rk_sipush C (n := 45) (v := 156) dX9_init_42 rfl (by decide) ?_
  refine rk_newaW C (n := 47) (tk := 0) (N := 156) (q := 38) (cs' := 4) (sl' := 624) (a0 := (156, .inl (fun _ => 0))) wa_int rfl rfl (fun _ _ h => h) (fun _ => rfl) (by decide) (by decide) (by decide) (by decide) (by decide) dX9_init_45 rfl rfl rfl rfl ?_
  refine rk_putFW C K (n := 50) (fs' := [.null, hA G 35, hA G 36, hA G 37, .int 0, .int 0, hA G 38, .null, .null]) pf_RX9_28 (by decide) (show _ = Sum.inr (9, [.null, hA G 35, hA G 36, hA G 37, .int 0, .int 0, .null, .null, .null]) from rfl) rfl ⟨rfl, rfl⟩ (Nat.le_of_ble_eq_true rfl) dX9_init_47 rfl ?_
  refine rk_aload_n C (n := 51) (q := 0) dX9_init_50 rfl rfl rfl ?_
  refine rk_sipush C (n := 54) (v := 3255) dX9_init_51 rfl (by decide) ?_
  refine rk_newaW C (n := 56) (tk := 0) (N := 3255) (q := 39) (cs' := 5) (sl' := 3879) (a0 := (3255, .inl (fun _ => 0))) wa_int rfl rfl (fun _ _ h => h) (fun _ => rfl) (by decide) (by decide) (by decide) (by decide) (by decide) dX9_init_54 rfl rfl rfl rfl ?_
  refine rk_putFW C K (n := 59) (fs' := [.null, hA G 35, hA G 36, hA G 37, .int 0, .int 0, hA G 38, hA G 39, .null]) pf_RX9_31 (by decide) (show _ = Sum.inr (9, [.null, hA G 35, hA G 36, hA G 37, .int 0, .int 0, hA G 38, .null, .null]) from rfl) rfl ⟨rfl, rfl⟩ (Nat.le_of_ble_eq_true rfl) dX9_init_56 rfl ?_
  refine rk_aload_n C (n := 60) (q := 0) dX9_init_59 rfl rfl rfl ?_
  refine rk_bipush C (n := 62) (v := 36) dX9_init_60 rfl (by decide) ?_
  refine rk_newaW C (n := 64) (tk := 0) (N := 36) (q := 40) (cs' := 6) (sl' := 3915) (a0 := (36, .inl (fun _ => 0))) wa_int rfl rfl (fun _ _ h => h) (fun _ => rfl) (by decide) (by decide) (by decide) (by decide) (by decide) dX9_init_62 rfl rfl rfl rfl ?_
  refine rk_putFW C K (n := 67) (fs' := [.null, hA G 35, hA G 36, hA G 37, .int 0, .int 0, hA G 38, hA G 39, hA G 40]) pf_RX9_34 (by decide) (show _ = Sum.inr (9, [.null, hA G 35, hA G 36, hA G 37, .int 0, .int 0, hA G 38, hA G 39, .null]) from rfl) rfl ⟨rfl, rfl⟩ (Nat.le_of_ble_eq_true rfl) dX9_init_64 rfl ?_
  refine rk_aload_n C (n := 68) (q := 0) dX9_init_67 rfl rfl rfl ?_
  refine rk_aload_n C (n := 69) (q := 1) dX9_init_68 rfl rfl rfl ?_
  refine rk_putFW C K (n := 72) (fs' := [hA G 1, hA G 35, hA G 36, hA G 37, .int 0, .int 0, hA G 38, hA G 39, hA G 40]) pf_RX9_37 (by decide) (show _ = Sum.inr (9, [.null, hA G 35, hA G 36, hA G 37, .int 0, .int 0, hA G 38, hA G 39, hA G 40]) from rfl) rfl ⟨rfl, rfl⟩ (Nat.le_of_ble_eq_true rfl) dX9_init_69 rfl ?_
  exact rk_ret C K rfl rfl rfl dX9_init_72
def K_X3i_41 (G : hG) (f : kM) : kM := (kU (kU (kU (kU (kU (kU (kU (kU (kU (kU f 41 (.inr (3, [.null, .null, .null, .null, .int 0]))) 42 (.inl (G.2.2.1 0, 9, .inl (fun _ => 0)))) 41 (.inr (3, [hA G 42, .null, .null, .null, .int 0]))) 43 (.inl (G.2.2.1 0, 9, .inl (fun _ => 0)))) 41 (.inr (3, [hA G 42, hA G 43, .null, .null, .int 0]))) 44 (.inl (G.2.2.1 0, 9, .inl (fun _ => 0)))) 41 (.inr (3, [hA G 42, hA G 43, hA G 44, .null, .int 0]))) 45 (.inl (G.2.2.1 0, 9, .inl (fun _ => 0)))) 41 (.inr (3, [hA G 42, hA G 43, hA G 44, hA G 45, .int 0]))) 41 (.inr (3, [hA G 42, hA G 43, hA G 44, hA G 45, .int 0])))
set_option maxRecDepth 100000 in
set_option maxHeartbeats 4000000 in
theorem k_X3i_41 (G : hG) (f : kM) : Mk G 1 4 36 yX3_init cX3_init 1 [hA G 41] 42 (kU f 41 (.inr (3, [.null, .null, .null, .null, .int 0]))) (K_X3i_41 G f) := by
  refine mk_of (by decide +kernel) rfl (Nat.le_of_ble_eq_true rfl) (fun X C K => ?_)
  have C : Ck G X 42 4 36 1 cX3_init 1 RX3 := C
  unfold K_X3i_41 at K
  show Rk G X 42 0 [(0, hA G 41)] [] (kU f 41 (.inr (3, [.null, .null, .null, .null, .int 0]))) 0 0
  refine rk_aload_n C (n := 1) (q := 0) dX3_init_0 rfl rfl rfl ?_
  refine rk_objInit C (n := 4) oi_RX3_3 wo_1 wo_2 (by decide) (Nat.le_of_ble_eq_true rfl) dX3_init_1 rfl ?_
  refine rk_aload_n C (n := 5) (q := 0) dX3_init_4 rfl rfl rfl ?_
  refine rk_bipush C (n := 7) (v := 9) dX3_init_5 rfl (by decide) ?_
  refine rk_newaW C (n := 9) (tk := 0) (N := 9) (q := 42) (cs' := 1) (sl' := 9) (a0 := (9, .inl (fun _ => 0))) wa_int rfl rfl (fun _ _ h => h) (fun _ => rfl) (by decide) (by decide) (by decide) (by decide) (by decide) dX3_init_7 rfl rfl rfl rfl ?_
  refine rk_putFW C K (n := 12) (fs' := [hA G 42, .null, .null, .null, .int 0]) pf_RX3_9 (by decide) (show _ = Sum.inr (3, [.null, .null, .null, .null, .int 0]) from rfl) rfl ⟨rfl, rfl⟩ (Nat.le_of_ble_eq_true rfl) dX3_init_9 rfl ?_
  refine rk_aload_n C (n := 13) (q := 0) dX3_init_12 rfl rfl rfl ?_
  refine rk_bipush C (n := 15) (v := 9) dX3_init_13 rfl (by decide) ?_
  refine rk_newaW C (n := 17) (tk := 0) (N := 9) (q := 43) (cs' := 2) (sl' := 18) (a0 := (9, .inl (fun _ => 0))) wa_int rfl rfl (fun _ _ h => h) (fun _ => rfl) (by decide) (by decide) (by decide) (by decide) (by decide) dX3_init_15 rfl rfl rfl rfl ?_
  refine rk_putFW C K (n := 20) (fs' := [hA G 42, hA G 43, .null, .null, .int 0]) pf_RX3_15 (by decide) (show _ = Sum.inr (3, [hA G 42, .null, .null, .null, .int 0]) from rfl) rfl ⟨rfl, rfl⟩ (Nat.le_of_ble_eq_true rfl) dX3_init_17 rfl ?_
  refine rk_aload_n C (n := 21) (q := 0) dX3_init_20 rfl rfl rfl ?_
  refine rk_bipush C (n := 23) (v := 9) dX3_init_21 rfl (by decide) ?_
  refine rk_newaW C (n := 25) (tk := 0) (N := 9) (q := 44) (cs' := 3) (sl' := 27) (a0 := (9, .inl (fun _ => 0))) wa_int rfl rfl (fun _ _ h => h) (fun _ => rfl) (by decide) (by decide) (by decide) (by decide) (by decide) dX3_init_23 rfl rfl rfl rfl ?_
  refine rk_putFW C K (n := 28) (fs' := [hA G 42, hA G 43, hA G 44, .null, .int 0]) pf_RX3_18 (by decide) (show _ = Sum.inr (3, [hA G 42, hA G 43, .null, .null, .int 0]) from rfl) rfl ⟨rfl, rfl⟩ (Nat.le_of_ble_eq_true rfl) dX3_init_25 rfl ?_
  refine rk_aload_n C (n := 29) (q := 0) dX3_init_28 rfl rfl rfl ?_
  refine rk_bipush C (n := 31) (v := 9) dX3_init_29 rfl (by decide) ?_
  refine rk_newaW C (n := 33) (tk := 0) (N := 9) (q := 45) (cs' := 4) (sl' := 36) (a0 := (9, .inl (fun _ => 0))) wa_int rfl rfl (fun _ _ h => h) (fun _ => rfl) (by decide) (by decide) (by decide) (by decide) (by decide) dX3_init_31 rfl rfl rfl rfl ?_
  refine rk_putFW C K (n := 36) (fs' := [hA G 42, hA G 43, hA G 44, hA G 45, .int 0]) pf_RX3_21 (by decide) (show _ = Sum.inr (3, [hA G 42, hA G 43, hA G 44, .null, .int 0]) from rfl) rfl ⟨rfl, rfl⟩ (Nat.le_of_ble_eq_true rfl) dX3_init_33 rfl ?_
  refine rk_aload_n C (n := 37) (q := 0) dX3_init_36 rfl rfl rfl ?_
  refine rk_iconst C (n := 38) (v := 0) dX3_init_37 rfl (by decide) ?_
  refine rk_putW C (n := 41) (fs' := [hA G 42, hA G 43, hA G 44, hA G 45, .int 0]) pf_RX3_24 (by decide) (show _ = Sum.inr (3, [hA G 42, hA G 43, hA G 44, hA G 45, .int 0]) from rfl) rfl ⟨rfl, rfl⟩ (Nat.le_of_ble_eq_true rfl) dX3_init_38 rfl ?_
  exact rk_ret C K rfl rfl rfl dX3_init_41
def K_X7i_46 (G : hG) (f : kM) : kM := (kU (kU (kU (kU (kU (kU (kU (kU (kU (kU (kU (kU (kU (kU (kU (kU (kU (kU (kU (kU (kU (kU f 46 (.inr (7, [.int 0, .int 0, .int 0, .null, .null, .null, .null, .null, .null, .null, .int 0, .null, .int 0]))) 46 (.inr (7, [.int 0, .int 0, .int 0, .null, .null, .null, .null, .null, .null, .null, .int 0, .null, .int 0]))) 46 (.inr (7, [.int 0, .int 0, .int 0, .null, .null, .null, .null, .null, .null, .null, .int 0, .null, .int 0]))) 46 (.inr (7, [.int 0, .int 0, .int 0, .null, .null, .null, .null, .null, .null, .null, .int 0, .null, .int 0]))) 47 (.inl (G.2.2.1 0, 8, .inl (fun _ => 0)))) 46 (.inr (7, [.int 0, .int 0, .int 0, hA G 47, .null, .null, .null, .null, .null, .null, .int 0, .null, .int 0]))) 48 (.inl (G.2.2.1 0, 8, .inl (fun _ => 0)))) 46 (.inr (7, [.int 0, .int 0, .int 0, hA G 47, hA G 48, .null, .null, .null, .null, .null, .int 0, .null, .int 0]))) 49 (.inl (G.2.2.1 0, 8, .inl (fun _ => 0)))) 46 (.inr (7, [.int 0, .int 0, .int 0, hA G 47, hA G 48, hA G 49, .null, .null, .null, .null, .int 0, .null, .int 0]))) 50 (.inl (G.2.2.1 0, 8, .inl (fun _ => 0)))) 46 (.inr (7, [.int 0, .int 0, .int 0, hA G 47, hA G 48, hA G 49, hA G 50, .null, .null, .null, .int 0, .null, .int 0]))) 51 (.inl (G.2.2.1 0, 8, .inl (fun _ => 0)))) 46 (.inr (7, [.int 0, .int 0, .int 0, hA G 47, hA G 48, hA G 49, hA G 50, hA G 51, .null, .null, .int 0, .null, .int 0]))) 52 (.inl (G.2.2.1 0, 8, .inl (fun _ => 0)))) 46 (.inr (7, [.int 0, .int 0, .int 0, hA G 47, hA G 48, hA G 49, hA G 50, hA G 51, hA G 52, .null, .int 0, .null, .int 0]))) 53 (.inl (G.2.2.1 0, 8, .inl (fun _ => 0)))) 46 (.inr (7, [.int 0, .int 0, .int 0, hA G 47, hA G 48, hA G 49, hA G 50, hA G 51, hA G 52, hA G 53, .int 0, .null, .int 0]))) 46 (.inr (7, [.int 0, .int 0, .int 0, hA G 47, hA G 48, hA G 49, hA G 50, hA G 51, hA G 52, hA G 53, .int 0, .null, .int 0]))) 54 (.inl (G.2.2.1 0, 60, .inl (fun _ => 0)))) 46 (.inr (7, [.int 0, .int 0, .int 0, hA G 47, hA G 48, hA G 49, hA G 50, hA G 51, hA G 52, hA G 53, .int 0, hA G 54, .int 0]))) 46 (.inr (7, [.int 0, .int 0, .int 0, hA G 47, hA G 48, hA G 49, hA G 50, hA G 51, hA G 52, hA G 53, .int 0, hA G 54, .int 0])))
set_option maxRecDepth 100000 in
set_option maxHeartbeats 4000000 in
theorem k_X7i_46 (G : hG) (f : kM) : Mk G 1 8 116 yX7_init cX7_init 1 [hA G 46] 47 (kU f 46 (.inr (7, [.int 0, .int 0, .int 0, .null, .null, .null, .null, .null, .null, .null, .int 0, .null, .int 0]))) (K_X7i_46 G f) := by
  refine mk_of (by decide +kernel) rfl (Nat.le_of_ble_eq_true rfl) (fun X C K => ?_)
  have C : Ck G X 47 8 116 1 cX7_init 1 RX7 := C
  unfold K_X7i_46 at K
  show Rk G X 47 0 [(0, hA G 46)] [] (kU f 46 (.inr (7, [.int 0, .int 0, .int 0, .null, .null, .null, .null, .null, .null, .null, .int 0, .null, .int 0]))) 0 0
  refine rk_aload_n C (n := 1) (q := 0) dX7_init_0 rfl rfl rfl ?_
  refine rk_objInit C (n := 4) oi_RX7_3 wo_1 wo_2 (by decide) (Nat.le_of_ble_eq_true rfl) dX7_init_1 rfl ?_
  refine rk_aload_n C (n := 5) (q := 0) dX7_init_4 rfl rfl rfl ?_
  refine rk_iconst C (n := 6) (v := 0) dX7_init_5 rfl (by decide) ?_
  refine rk_putW C (n := 9) (fs' := [.int 0, .int 0, .int 0, .null, .null, .null, .null, .null, .null, .null, .int 0, .null, .int 0]) pf_RX7_9 (by decide) (show _ = Sum.inr (7, [.int 0, .int 0, .int 0, .null, .null, .null, .null, .null, .null, .null, .int 0, .null, .int 0]) from rfl) rfl ⟨rfl, rfl⟩ (Nat.le_of_ble_eq_true rfl) dX7_init_6 rfl ?_
  refine rk_aload_n C (n := 10) (q := 0) dX7_init_9 rfl rfl rfl ?_
  refine rk_iconst C (n := 11) (v := 0) dX7_init_10 rfl (by decide) ?_
  refine rk_putW C (n := 14) (fs' := [.int 0, .int 0, .int 0, .null, .null, .null, .null, .null, .null, .null, .int 0, .null, .int 0]) pf_RX7_15 (by decide) (show _ = Sum.inr (7, [.int 0, .int 0, .int 0, .null, .null, .null, .null, .null, .null, .null, .int 0, .null, .int 0]) from rfl) rfl ⟨rfl, rfl⟩ (Nat.le_of_ble_eq_true rfl) dX7_init_11 rfl ?_
  refine rk_aload_n C (n := 15) (q := 0) dX7_init_14 rfl rfl rfl ?_
  refine rk_iconst C (n := 16) (v := 0) dX7_init_15 rfl (by decide) ?_
  refine rk_putW C (n := 19) (fs' := [.int 0, .int 0, .int 0, .null, .null, .null, .null, .null, .null, .null, .int 0, .null, .int 0]) pf_RX7_18 (by decide) (show _ = Sum.inr (7, [.int 0, .int 0, .int 0, .null, .null, .null, .null, .null, .null, .null, .int 0, .null, .int 0]) from rfl) rfl ⟨rfl, rfl⟩ (Nat.le_of_ble_eq_true rfl) dX7_init_16 rfl ?_
  refine rk_aload_n C (n := 20) (q := 0) dX7_init_19 rfl rfl rfl ?_
  refine rk_bipush C (n := 22) (v := 8) dX7_init_20 rfl (by decide) ?_
  refine rk_newaW C (n := 24) (tk := 0) (N := 8) (q := 47) (cs' := 1) (sl' := 8) (a0 := (8, .inl (fun _ => 0))) wa_int rfl rfl (fun _ _ h => h) (fun _ => rfl) (by decide) (by decide) (by decide) (by decide) (by decide) dX7_init_22 rfl rfl rfl rfl ?_
  refine rk_putFW C K (n := 27) (fs' := [.int 0, .int 0, .int 0, hA G 47, .null, .null, .null, .null, .null, .null, .int 0, .null, .int 0]) pf_RX7_21 (by decide) (show _ = Sum.inr (7, [.int 0, .int 0, .int 0, .null, .null, .null, .null, .null, .null, .null, .int 0, .null, .int 0]) from rfl) rfl ⟨rfl, rfl⟩ (Nat.le_of_ble_eq_true rfl) dX7_init_24 rfl ?_
  refine rk_aload_n C (n := 28) (q := 0) dX7_init_27 rfl rfl rfl ?_
  refine rk_bipush C (n := 30) (v := 8) dX7_init_28 rfl (by decide) ?_
  refine rk_newaW C (n := 32) (tk := 0) (N := 8) (q := 48) (cs' := 2) (sl' := 16) (a0 := (8, .inl (fun _ => 0))) wa_int rfl rfl (fun _ _ h => h) (fun _ => rfl) (by decide) (by decide) (by decide) (by decide) (by decide) dX7_init_30 rfl rfl rfl rfl ?_
  refine rk_putFW C K (n := 35) (fs' := [.int 0, .int 0, .int 0, hA G 47, hA G 48, .null, .null, .null, .null, .null, .int 0, .null, .int 0]) pf_RX7_25 (by decide) (show _ = Sum.inr (7, [.int 0, .int 0, .int 0, hA G 47, .null, .null, .null, .null, .null, .null, .int 0, .null, .int 0]) from rfl) rfl ⟨rfl, rfl⟩ (Nat.le_of_ble_eq_true rfl) dX7_init_32 rfl ?_
  refine rk_aload_n C (n := 36) (q := 0) dX7_init_35 rfl rfl rfl ?_
  refine rk_bipush C (n := 38) (v := 8) dX7_init_36 rfl (by decide) ?_
  refine rk_newaW C (n := 40) (tk := 0) (N := 8) (q := 49) (cs' := 3) (sl' := 24) (a0 := (8, .inl (fun _ => 0))) wa_int rfl rfl (fun _ _ h => h) (fun _ => rfl) (by decide) (by decide) (by decide) (by decide) (by decide) dX7_init_38 rfl rfl rfl rfl ?_
  refine rk_putFW C K (n := 43) (fs' := [.int 0, .int 0, .int 0, hA G 47, hA G 48, hA G 49, .null, .null, .null, .null, .int 0, .null, .int 0]) pf_RX7_28 (by decide) (show _ = Sum.inr (7, [.int 0, .int 0, .int 0, hA G 47, hA G 48, .null, .null, .null, .null, .null, .int 0, .null, .int 0]) from rfl) rfl ⟨rfl, rfl⟩ (Nat.le_of_ble_eq_true rfl) dX7_init_40 rfl ?_
  refine rk_aload_n C (n := 44) (q := 0) dX7_init_43 rfl rfl rfl ?_
  refine rk_bipush C (n := 46) (v := 8) dX7_init_44 rfl (by decide) ?_
  refine rk_newaW C (n := 48) (tk := 0) (N := 8) (q := 50) (cs' := 4) (sl' := 32) (a0 := (8, .inl (fun _ => 0))) wa_int rfl rfl (fun _ _ h => h) (fun _ => rfl) (by decide) (by decide) (by decide) (by decide) (by decide) dX7_init_46 rfl rfl rfl rfl ?_
  refine rk_putFW C K (n := 51) (fs' := [.int 0, .int 0, .int 0, hA G 47, hA G 48, hA G 49, hA G 50, .null, .null, .null, .int 0, .null, .int 0]) pf_RX7_31 (by decide) (show _ = Sum.inr (7, [.int 0, .int 0, .int 0, hA G 47, hA G 48, hA G 49, .null, .null, .null, .null, .int 0, .null, .int 0]) from rfl) rfl ⟨rfl, rfl⟩ (Nat.le_of_ble_eq_true rfl) dX7_init_48 rfl ?_
  refine rk_aload_n C (n := 52) (q := 0) dX7_init_51 rfl rfl rfl ?_
  refine rk_bipush C (n := 54) (v := 8) dX7_init_52 rfl (by decide) ?_
  refine rk_newaW C (n := 56) (tk := 0) (N := 8) (q := 51) (cs' := 5) (sl' := 40) (a0 := (8, .inl (fun _ => 0))) wa_int rfl rfl (fun _ _ h => h) (fun _ => rfl) (by decide) (by decide) (by decide) (by decide) (by decide) dX7_init_54 rfl rfl rfl rfl ?_
  refine rk_putFW C K (n := 59) (fs' := [.int 0, .int 0, .int 0, hA G 47, hA G 48, hA G 49, hA G 50, hA G 51, .null, .null, .int 0, .null, .int 0]) pf_RX7_34 (by decide) (show _ = Sum.inr (7, [.int 0, .int 0, .int 0, hA G 47, hA G 48, hA G 49, hA G 50, .null, .null, .null, .int 0, .null, .int 0]) from rfl) rfl ⟨rfl, rfl⟩ (Nat.le_of_ble_eq_true rfl) dX7_init_56 rfl ?_
  refine rk_aload_n C (n := 60) (q := 0) dX7_init_59 rfl rfl rfl ?_
  refine rk_bipush C (n := 62) (v := 8) dX7_init_60 rfl (by decide) ?_
  refine rk_newaW C (n := 64) (tk := 0) (N := 8) (q := 52) (cs' := 6) (sl' := 48) (a0 := (8, .inl (fun _ => 0))) wa_int rfl rfl (fun _ _ h => h) (fun _ => rfl) (by decide) (by decide) (by decide) (by decide) (by decide) dX7_init_62 rfl rfl rfl rfl ?_
  refine rk_putFW C K (n := 67) (fs' := [.int 0, .int 0, .int 0, hA G 47, hA G 48, hA G 49, hA G 50, hA G 51, hA G 52, .null, .int 0, .null, .int 0]) pf_RX7_37 (by decide) (show _ = Sum.inr (7, [.int 0, .int 0, .int 0, hA G 47, hA G 48, hA G 49, hA G 50, hA G 51, .null, .null, .int 0, .null, .int 0]) from rfl) rfl ⟨rfl, rfl⟩ (Nat.le_of_ble_eq_true rfl) dX7_init_64 rfl ?_
  refine rk_aload_n C (n := 68) (q := 0) dX7_init_67 rfl rfl rfl ?_
  refine rk_bipush C (n := 70) (v := 8) dX7_init_68 rfl (by decide) ?_
  refine rk_newaW C (n := 72) (tk := 0) (N := 8) (q := 53) (cs' := 7) (sl' := 56) (a0 := (8, .inl (fun _ => 0))) wa_int rfl rfl (fun _ _ h => h) (fun _ => rfl) (by decide) (by decide) (by decide) (by decide) (by decide) dX7_init_70 rfl rfl rfl rfl ?_
  refine rk_putFW C K (n := 75) (fs' := [.int 0, .int 0, .int 0, hA G 47, hA G 48, hA G 49, hA G 50, hA G 51, hA G 52, hA G 53, .int 0, .null, .int 0]) pf_RX7_40 (by decide) (show _ = Sum.inr (7, [.int 0, .int 0, .int 0, hA G 47, hA G 48, hA G 49, hA G 50, hA G 51, hA G 52, .null, .int 0, .null, .int 0]) from rfl) rfl ⟨rfl, rfl⟩ (Nat.le_of_ble_eq_true rfl) dX7_init_72 rfl ?_
  refine rk_aload_n C (n := 76) (q := 0) dX7_init_75 rfl rfl rfl ?_
  refine rk_iconst C (n := 77) (v := 0) dX7_init_76 rfl (by decide) ?_
  refine rk_putW C (n := 80) (fs' := [.int 0, .int 0, .int 0, hA G 47, hA G 48, hA G 49, hA G 50, hA G 51, hA G 52, hA G 53, .int 0, .null, .int 0]) pf_RX7_43 (by decide) (show _ = Sum.inr (7, [.int 0, .int 0, .int 0, hA G 47, hA G 48, hA G 49, hA G 50, hA G 51, hA G 52, hA G 53, .int 0, .null, .int 0]) from rfl) rfl ⟨rfl, rfl⟩ (Nat.le_of_ble_eq_true rfl) dX7_init_77 rfl ?_
  refine rk_aload_n C (n := 81) (q := 0) dX7_init_80 rfl rfl rfl ?_
  refine rk_bipush C (n := 83) (v := 60) dX7_init_81 rfl (by decide) ?_
  refine rk_newaW C (n := 85) (tk := 0) (N := 60) (q := 54) (cs' := 8) (sl' := 116) (a0 := (60, .inl (fun _ => 0))) wa_int rfl rfl (fun _ _ h => h) (fun _ => rfl) (by decide) (by decide) (by decide) (by decide) (by decide) dX7_init_83 rfl rfl rfl rfl ?_
  refine rk_putFW C K (n := 88) (fs' := [.int 0, .int 0, .int 0, hA G 47, hA G 48, hA G 49, hA G 50, hA G 51, hA G 52, hA G 53, .int 0, hA G 54, .int 0]) pf_RX7_46 (by decide) (show _ = Sum.inr (7, [.int 0, .int 0, .int 0, hA G 47, hA G 48, hA G 49, hA G 50, hA G 51, hA G 52, hA G 53, .int 0, .null, .int 0]) from rfl) rfl ⟨rfl, rfl⟩ (Nat.le_of_ble_eq_true rfl) dX7_init_85 rfl ?_
  refine rk_aload_n C (n := 89) (q := 0) dX7_init_88 rfl rfl rfl ?_
  refine rk_iconst C (n := 90) (v := 0) dX7_init_89 rfl (by decide) ?_
  refine rk_putW C (n := 93) (fs' := [.int 0, .int 0, .int 0, hA G 47, hA G 48, hA G 49, hA G 50, hA G 51, hA G 52, hA G 53, .int 0, hA G 54, .int 0]) pf_RX7_49 (by decide) (show _ = Sum.inr (7, [.int 0, .int 0, .int 0, hA G 47, hA G 48, hA G 49, hA G 50, hA G 51, hA G 52, hA G 53, .int 0, hA G 54, .int 0]) from rfl) rfl ⟨rfl, rfl⟩ (Nat.le_of_ble_eq_true rfl) dX7_init_90 rfl ?_
  exact rk_ret C K rfl rfl rfl dX7_init_93
def K_X7i_55 (G : hG) (f : kM) : kM := (kU (kU (kU (kU (kU (kU (kU (kU (kU (kU (kU (kU (kU (kU (kU (kU (kU (kU (kU (kU (kU (kU f 55 (.inr (7, [.int 0, .int 0, .int 0, .null, .null, .null, .null, .null, .null, .null, .int 0, .null, .int 0]))) 55 (.inr (7, [.int 0, .int 0, .int 0, .null, .null, .null, .null, .null, .null, .null, .int 0, .null, .int 0]))) 55 (.inr (7, [.int 0, .int 0, .int 0, .null, .null, .null, .null, .null, .null, .null, .int 0, .null, .int 0]))) 55 (.inr (7, [.int 0, .int 0, .int 0, .null, .null, .null, .null, .null, .null, .null, .int 0, .null, .int 0]))) 56 (.inl (G.2.2.1 0, 8, .inl (fun _ => 0)))) 55 (.inr (7, [.int 0, .int 0, .int 0, hA G 56, .null, .null, .null, .null, .null, .null, .int 0, .null, .int 0]))) 57 (.inl (G.2.2.1 0, 8, .inl (fun _ => 0)))) 55 (.inr (7, [.int 0, .int 0, .int 0, hA G 56, hA G 57, .null, .null, .null, .null, .null, .int 0, .null, .int 0]))) 58 (.inl (G.2.2.1 0, 8, .inl (fun _ => 0)))) 55 (.inr (7, [.int 0, .int 0, .int 0, hA G 56, hA G 57, hA G 58, .null, .null, .null, .null, .int 0, .null, .int 0]))) 59 (.inl (G.2.2.1 0, 8, .inl (fun _ => 0)))) 55 (.inr (7, [.int 0, .int 0, .int 0, hA G 56, hA G 57, hA G 58, hA G 59, .null, .null, .null, .int 0, .null, .int 0]))) 60 (.inl (G.2.2.1 0, 8, .inl (fun _ => 0)))) 55 (.inr (7, [.int 0, .int 0, .int 0, hA G 56, hA G 57, hA G 58, hA G 59, hA G 60, .null, .null, .int 0, .null, .int 0]))) 61 (.inl (G.2.2.1 0, 8, .inl (fun _ => 0)))) 55 (.inr (7, [.int 0, .int 0, .int 0, hA G 56, hA G 57, hA G 58, hA G 59, hA G 60, hA G 61, .null, .int 0, .null, .int 0]))) 62 (.inl (G.2.2.1 0, 8, .inl (fun _ => 0)))) 55 (.inr (7, [.int 0, .int 0, .int 0, hA G 56, hA G 57, hA G 58, hA G 59, hA G 60, hA G 61, hA G 62, .int 0, .null, .int 0]))) 55 (.inr (7, [.int 0, .int 0, .int 0, hA G 56, hA G 57, hA G 58, hA G 59, hA G 60, hA G 61, hA G 62, .int 0, .null, .int 0]))) 63 (.inl (G.2.2.1 0, 60, .inl (fun _ => 0)))) 55 (.inr (7, [.int 0, .int 0, .int 0, hA G 56, hA G 57, hA G 58, hA G 59, hA G 60, hA G 61, hA G 62, .int 0, hA G 63, .int 0]))) 55 (.inr (7, [.int 0, .int 0, .int 0, hA G 56, hA G 57, hA G 58, hA G 59, hA G 60, hA G 61, hA G 62, .int 0, hA G 63, .int 0])))
set_option maxRecDepth 100000 in
set_option maxHeartbeats 4000000 in
theorem k_X7i_55 (G : hG) (f : kM) : Mk G 1 8 116 yX7_init cX7_init 1 [hA G 55] 56 (kU f 55 (.inr (7, [.int 0, .int 0, .int 0, .null, .null, .null, .null, .null, .null, .null, .int 0, .null, .int 0]))) (K_X7i_55 G f) := by
  refine mk_of (by decide +kernel) rfl (Nat.le_of_ble_eq_true rfl) (fun X C K => ?_)
  have C : Ck G X 56 8 116 1 cX7_init 1 RX7 := C
  unfold K_X7i_55 at K
  show Rk G X 56 0 [(0, hA G 55)] [] (kU f 55 (.inr (7, [.int 0, .int 0, .int 0, .null, .null, .null, .null, .null, .null, .null, .int 0, .null, .int 0]))) 0 0
  refine rk_aload_n C (n := 1) (q := 0) dX7_init_0 rfl rfl rfl ?_
  refine rk_objInit C (n := 4) oi_RX7_3 wo_1 wo_2 (by decide) (Nat.le_of_ble_eq_true rfl) dX7_init_1 rfl ?_
  refine rk_aload_n C (n := 5) (q := 0) dX7_init_4 rfl rfl rfl ?_
  refine rk_iconst C (n := 6) (v := 0) dX7_init_5 rfl (by decide) ?_
  refine rk_putW C (n := 9) (fs' := [.int 0, .int 0, .int 0, .null, .null, .null, .null, .null, .null, .null, .int 0, .null, .int 0]) pf_RX7_9 (by decide) (show _ = Sum.inr (7, [.int 0, .int 0, .int 0, .null, .null, .null, .null, .null, .null, .null, .int 0, .null, .int 0]) from rfl) rfl ⟨rfl, rfl⟩ (Nat.le_of_ble_eq_true rfl) dX7_init_6 rfl ?_
  refine rk_aload_n C (n := 10) (q := 0) dX7_init_9 rfl rfl rfl ?_
  refine rk_iconst C (n := 11) (v := 0) dX7_init_10 rfl (by decide) ?_
  refine rk_putW C (n := 14) (fs' := [.int 0, .int 0, .int 0, .null, .null, .null, .null, .null, .null, .null, .int 0, .null, .int 0]) pf_RX7_15 (by decide) (show _ = Sum.inr (7, [.int 0, .int 0, .int 0, .null, .null, .null, .null, .null, .null, .null, .int 0, .null, .int 0]) from rfl) rfl ⟨rfl, rfl⟩ (Nat.le_of_ble_eq_true rfl) dX7_init_11 rfl ?_
  refine rk_aload_n C (n := 15) (q := 0) dX7_init_14 rfl rfl rfl ?_
  refine rk_iconst C (n := 16) (v := 0) dX7_init_15 rfl (by decide) ?_
  refine rk_putW C (n := 19) (fs' := [.int 0, .int 0, .int 0, .null, .null, .null, .null, .null, .null, .null, .int 0, .null, .int 0]) pf_RX7_18 (by decide) (show _ = Sum.inr (7, [.int 0, .int 0, .int 0, .null, .null, .null, .null, .null, .null, .null, .int 0, .null, .int 0]) from rfl) rfl ⟨rfl, rfl⟩ (Nat.le_of_ble_eq_true rfl) dX7_init_16 rfl ?_
  refine rk_aload_n C (n := 20) (q := 0) dX7_init_19 rfl rfl rfl ?_
  refine rk_bipush C (n := 22) (v := 8) dX7_init_20 rfl (by decide) ?_
  refine rk_newaW C (n := 24) (tk := 0) (N := 8) (q := 56) (cs' := 1) (sl' := 8) (a0 := (8, .inl (fun _ => 0))) wa_int rfl rfl (fun _ _ h => h) (fun _ => rfl) (by decide) (by decide) (by decide) (by decide) (by decide) dX7_init_22 rfl rfl rfl rfl ?_
  refine rk_putFW C K (n := 27) (fs' := [.int 0, .int 0, .int 0, hA G 56, .null, .null, .null, .null, .null, .null, .int 0, .null, .int 0]) pf_RX7_21 (by decide) (show _ = Sum.inr (7, [.int 0, .int 0, .int 0, .null, .null, .null, .null, .null, .null, .null, .int 0, .null, .int 0]) from rfl) rfl ⟨rfl, rfl⟩ (Nat.le_of_ble_eq_true rfl) dX7_init_24 rfl ?_
  refine rk_aload_n C (n := 28) (q := 0) dX7_init_27 rfl rfl rfl ?_
  refine rk_bipush C (n := 30) (v := 8) dX7_init_28 rfl (by decide) ?_
  refine rk_newaW C (n := 32) (tk := 0) (N := 8) (q := 57) (cs' := 2) (sl' := 16) (a0 := (8, .inl (fun _ => 0))) wa_int rfl rfl (fun _ _ h => h) (fun _ => rfl) (by decide) (by decide) (by decide) (by decide) (by decide) dX7_init_30 rfl rfl rfl rfl ?_
  refine rk_putFW C K (n := 35) (fs' := [.int 0, .int 0, .int 0, hA G 56, hA G 57, .null, .null, .null, .null, .null, .int 0, .null, .int 0]) pf_RX7_25 (by decide) (show _ = Sum.inr (7, [.int 0, .int 0, .int 0, hA G 56, .null, .null, .null, .null, .null, .null, .int 0, .null, .int 0]) from rfl) rfl ⟨rfl, rfl⟩ (Nat.le_of_ble_eq_true rfl) dX7_init_32 rfl ?_
  refine rk_aload_n C (n := 36) (q := 0) dX7_init_35 rfl rfl rfl ?_
  refine rk_bipush C (n := 38) (v := 8) dX7_init_36 rfl (by decide) ?_
  refine rk_newaW C (n := 40) (tk := 0) (N := 8) (q := 58) (cs' := 3) (sl' := 24) (a0 := (8, .inl (fun _ => 0))) wa_int rfl rfl (fun _ _ h => h) (fun _ => rfl) (by decide) (by decide) (by decide) (by decide) (by decide) dX7_init_38 rfl rfl rfl rfl ?_
  refine rk_putFW C K (n := 43) (fs' := [.int 0, .int 0, .int 0, hA G 56, hA G 57, hA G 58, .null, .null, .null, .null, .int 0, .null, .int 0]) pf_RX7_28 (by decide) (show _ = Sum.inr (7, [.int 0, .int 0, .int 0, hA G 56, hA G 57, .null, .null, .null, .null, .null, .int 0, .null, .int 0]) from rfl) rfl ⟨rfl, rfl⟩ (Nat.le_of_ble_eq_true rfl) dX7_init_40 rfl ?_
  refine rk_aload_n C (n := 44) (q := 0) dX7_init_43 rfl rfl rfl ?_
  refine rk_bipush C (n := 46) (v := 8) dX7_init_44 rfl (by decide) ?_
  refine rk_newaW C (n := 48) (tk := 0) (N := 8) (q := 59) (cs' := 4) (sl' := 32) (a0 := (8, .inl (fun _ => 0))) wa_int rfl rfl (fun _ _ h => h) (fun _ => rfl) (by decide) (by decide) (by decide) (by decide) (by decide) dX7_init_46 rfl rfl rfl rfl ?_
  refine rk_putFW C K (n := 51) (fs' := [.int 0, .int 0, .int 0, hA G 56, hA G 57, hA G 58, hA G 59, .null, .null, .null, .int 0, .null, .int 0]) pf_RX7_31 (by decide) (show _ = Sum.inr (7, [.int 0, .int 0, .int 0, hA G 56, hA G 57, hA G 58, .null, .null, .null, .null, .int 0, .null, .int 0]) from rfl) rfl ⟨rfl, rfl⟩ (Nat.le_of_ble_eq_true rfl) dX7_init_48 rfl ?_
  refine rk_aload_n C (n := 52) (q := 0) dX7_init_51 rfl rfl rfl ?_
  refine rk_bipush C (n := 54) (v := 8) dX7_init_52 rfl (by decide) ?_
  refine rk_newaW C (n := 56) (tk := 0) (N := 8) (q := 60) (cs' := 5) (sl' := 40) (a0 := (8, .inl (fun _ => 0))) wa_int rfl rfl (fun _ _ h => h) (fun _ => rfl) (by decide) (by decide) (by decide) (by decide) (by decide) dX7_init_54 rfl rfl rfl rfl ?_
  refine rk_putFW C K (n := 59) (fs' := [.int 0, .int 0, .int 0, hA G 56, hA G 57, hA G 58, hA G 59, hA G 60, .null, .null, .int 0, .null, .int 0]) pf_RX7_34 (by decide) (show _ = Sum.inr (7, [.int 0, .int 0, .int 0, hA G 56, hA G 57, hA G 58, hA G 59, .null, .null, .null, .int 0, .null, .int 0]) from rfl) rfl ⟨rfl, rfl⟩ (Nat.le_of_ble_eq_true rfl) dX7_init_56 rfl ?_
  refine rk_aload_n C (n := 60) (q := 0) dX7_init_59 rfl rfl rfl ?_
  refine rk_bipush C (n := 62) (v := 8) dX7_init_60 rfl (by decide) ?_
  refine rk_newaW C (n := 64) (tk := 0) (N := 8) (q := 61) (cs' := 6) (sl' := 48) (a0 := (8, .inl (fun _ => 0))) wa_int rfl rfl (fun _ _ h => h) (fun _ => rfl) (by decide) (by decide) (by decide) (by decide) (by decide) dX7_init_62 rfl rfl rfl rfl ?_
  refine rk_putFW C K (n := 67) (fs' := [.int 0, .int 0, .int 0, hA G 56, hA G 57, hA G 58, hA G 59, hA G 60, hA G 61, .null, .int 0, .null, .int 0]) pf_RX7_37 (by decide) (show _ = Sum.inr (7, [.int 0, .int 0, .int 0, hA G 56, hA G 57, hA G 58, hA G 59, hA G 60, .null, .null, .int 0, .null, .int 0]) from rfl) rfl ⟨rfl, rfl⟩ (Nat.le_of_ble_eq_true rfl) dX7_init_64 rfl ?_
  refine rk_aload_n C (n := 68) (q := 0) dX7_init_67 rfl rfl rfl ?_
  refine rk_bipush C (n := 70) (v := 8) dX7_init_68 rfl (by decide) ?_
  refine rk_newaW C (n := 72) (tk := 0) (N := 8) (q := 62) (cs' := 7) (sl' := 56) (a0 := (8, .inl (fun _ => 0))) wa_int rfl rfl (fun _ _ h => h) (fun _ => rfl) (by decide) (by decide) (by decide) (by decide) (by decide) dX7_init_70 rfl rfl rfl rfl ?_
  refine rk_putFW C K (n := 75) (fs' := [.int 0, .int 0, .int 0, hA G 56, hA G 57, hA G 58, hA G 59, hA G 60, hA G 61, hA G 62, .int 0, .null, .int 0]) pf_RX7_40 (by decide) (show _ = Sum.inr (7, [.int 0, .int 0, .int 0, hA G 56, hA G 57, hA G 58, hA G 59, hA G 60, hA G 61, .null, .int 0, .null, .int 0]) from rfl) rfl ⟨rfl, rfl⟩ (Nat.le_of_ble_eq_true rfl) dX7_init_72 rfl ?_
  refine rk_aload_n C (n := 76) (q := 0) dX7_init_75 rfl rfl rfl ?_
  refine rk_iconst C (n := 77) (v := 0) dX7_init_76 rfl (by decide) ?_
  refine rk_putW C (n := 80) (fs' := [.int 0, .int 0, .int 0, hA G 56, hA G 57, hA G 58, hA G 59, hA G 60, hA G 61, hA G 62, .int 0, .null, .int 0]) pf_RX7_43 (by decide) (show _ = Sum.inr (7, [.int 0, .int 0, .int 0, hA G 56, hA G 57, hA G 58, hA G 59, hA G 60, hA G 61, hA G 62, .int 0, .null, .int 0]) from rfl) rfl ⟨rfl, rfl⟩ (Nat.le_of_ble_eq_true rfl) dX7_init_77 rfl ?_
  refine rk_aload_n C (n := 81) (q := 0) dX7_init_80 rfl rfl rfl ?_
  refine rk_bipush C (n := 83) (v := 60) dX7_init_81 rfl (by decide) ?_
  refine rk_newaW C (n := 85) (tk := 0) (N := 60) (q := 63) (cs' := 8) (sl' := 116) (a0 := (60, .inl (fun _ => 0))) wa_int rfl rfl (fun _ _ h => h) (fun _ => rfl) (by decide) (by decide) (by decide) (by decide) (by decide) dX7_init_83 rfl rfl rfl rfl ?_
  refine rk_putFW C K (n := 88) (fs' := [.int 0, .int 0, .int 0, hA G 56, hA G 57, hA G 58, hA G 59, hA G 60, hA G 61, hA G 62, .int 0, hA G 63, .int 0]) pf_RX7_46 (by decide) (show _ = Sum.inr (7, [.int 0, .int 0, .int 0, hA G 56, hA G 57, hA G 58, hA G 59, hA G 60, hA G 61, hA G 62, .int 0, .null, .int 0]) from rfl) rfl ⟨rfl, rfl⟩ (Nat.le_of_ble_eq_true rfl) dX7_init_85 rfl ?_
  refine rk_aload_n C (n := 89) (q := 0) dX7_init_88 rfl rfl rfl ?_
  refine rk_iconst C (n := 90) (v := 0) dX7_init_89 rfl (by decide) ?_
  refine rk_putW C (n := 93) (fs' := [.int 0, .int 0, .int 0, hA G 56, hA G 57, hA G 58, hA G 59, hA G 60, hA G 61, hA G 62, .int 0, hA G 63, .int 0]) pf_RX7_49 (by decide) (show _ = Sum.inr (7, [.int 0, .int 0, .int 0, hA G 56, hA G 57, hA G 58, hA G 59, hA G 60, hA G 61, hA G 62, .int 0, hA G 63, .int 0]) from rfl) rfl ⟨rfl, rfl⟩ (Nat.le_of_ble_eq_true rfl) dX7_init_90 rfl ?_
  exact rk_ret C K rfl rfl rfl dX7_init_93
def K_X1i_66 (G : hG) (f : kM) : kM := (kU (kU (kU (kU f 66 (.inr (1, [.null, .int 0]))) 67 (.inl (G.2.2.1 3, 11, .inr (.inl (fun _ => 0))))) 66 (.inr (1, [hA G 67, .int 0]))) 66 (.inr (1, [hA G 67, .int 0])))
set_option maxRecDepth 100000 in
set_option maxHeartbeats 4000000 in
theorem k_X1i_66 (G : hG) (f : kM) : Mk G 1 1 11 yX1_init cX1_init 1 [hA G 66] 67 (kU f 66 (.inr (1, [.null, .int 0]))) (K_X1i_66 G f) := by
  refine mk_of (by decide +kernel) rfl (Nat.le_of_ble_eq_true rfl) (fun X C K => ?_)
  have C : Ck G X 67 1 11 1 cX1_init 1 RX1 := C
  unfold K_X1i_66 at K
  show Rk G X 67 0 [(0, hA G 66)] [] (kU f 66 (.inr (1, [.null, .int 0]))) 0 0
  refine rk_aload_n C (n := 1) (q := 0) dX1_init_0 rfl rfl rfl ?_
  refine rk_objInit C (n := 4) oi_RX1_3 wo_1 wo_2 (by decide) (Nat.le_of_ble_eq_true rfl) dX1_init_1 rfl ?_
  refine rk_aload_n C (n := 5) (q := 0) dX1_init_4 rfl rfl rfl ?_
  refine rk_bipush C (n := 7) (v := 11) dX1_init_5 rfl (by decide) ?_
  refine rk_newaW C (n := 9) (tk := 3) (N := 11) (q := 67) (cs' := 1) (sl' := 11) (a0 := (11, .inr (.inl (fun _ => 0)))) wa_long rfl rfl (fun _ _ h => h) (fun _ => rfl) (by decide) (by decide) (by decide) (by decide) (by decide) dX1_init_7 rfl rfl rfl rfl ?_
  refine rk_putFW C K (n := 12) (fs' := [hA G 67, .int 0]) pf_RX1_9 (by decide) (show _ = Sum.inr (1, [.null, .int 0]) from rfl) rfl ⟨rfl, rfl⟩ (Nat.le_of_ble_eq_true rfl) dX1_init_9 rfl ?_
  refine rk_aload_n C (n := 13) (q := 0) dX1_init_12 rfl rfl rfl ?_
  refine rk_iconst C (n := 14) (v := 0) dX1_init_13 rfl (by decide) ?_
  refine rk_putW C (n := 17) (fs' := [hA G 67, .int 0]) pf_RX1_15 (by decide) (show _ = Sum.inr (1, [hA G 67, .int 0]) from rfl) rfl ⟨rfl, rfl⟩ (Nat.le_of_ble_eq_true rfl) dX1_init_14 rfl ?_
  exact rk_ret C K rfl rfl rfl dX1_init_17
def K_X7i_69 (G : hG) (f : kM) : kM := (kU (kU (kU (kU (kU (kU (kU (kU (kU (kU (kU (kU (kU (kU (kU (kU (kU (kU (kU (kU (kU (kU f 69 (.inr (7, [.int 0, .int 0, .int 0, .null, .null, .null, .null, .null, .null, .null, .int 0, .null, .int 0]))) 69 (.inr (7, [.int 0, .int 0, .int 0, .null, .null, .null, .null, .null, .null, .null, .int 0, .null, .int 0]))) 69 (.inr (7, [.int 0, .int 0, .int 0, .null, .null, .null, .null, .null, .null, .null, .int 0, .null, .int 0]))) 69 (.inr (7, [.int 0, .int 0, .int 0, .null, .null, .null, .null, .null, .null, .null, .int 0, .null, .int 0]))) 70 (.inl (G.2.2.1 0, 8, .inl (fun _ => 0)))) 69 (.inr (7, [.int 0, .int 0, .int 0, hA G 70, .null, .null, .null, .null, .null, .null, .int 0, .null, .int 0]))) 71 (.inl (G.2.2.1 0, 8, .inl (fun _ => 0)))) 69 (.inr (7, [.int 0, .int 0, .int 0, hA G 70, hA G 71, .null, .null, .null, .null, .null, .int 0, .null, .int 0]))) 72 (.inl (G.2.2.1 0, 8, .inl (fun _ => 0)))) 69 (.inr (7, [.int 0, .int 0, .int 0, hA G 70, hA G 71, hA G 72, .null, .null, .null, .null, .int 0, .null, .int 0]))) 73 (.inl (G.2.2.1 0, 8, .inl (fun _ => 0)))) 69 (.inr (7, [.int 0, .int 0, .int 0, hA G 70, hA G 71, hA G 72, hA G 73, .null, .null, .null, .int 0, .null, .int 0]))) 74 (.inl (G.2.2.1 0, 8, .inl (fun _ => 0)))) 69 (.inr (7, [.int 0, .int 0, .int 0, hA G 70, hA G 71, hA G 72, hA G 73, hA G 74, .null, .null, .int 0, .null, .int 0]))) 75 (.inl (G.2.2.1 0, 8, .inl (fun _ => 0)))) 69 (.inr (7, [.int 0, .int 0, .int 0, hA G 70, hA G 71, hA G 72, hA G 73, hA G 74, hA G 75, .null, .int 0, .null, .int 0]))) 76 (.inl (G.2.2.1 0, 8, .inl (fun _ => 0)))) 69 (.inr (7, [.int 0, .int 0, .int 0, hA G 70, hA G 71, hA G 72, hA G 73, hA G 74, hA G 75, hA G 76, .int 0, .null, .int 0]))) 69 (.inr (7, [.int 0, .int 0, .int 0, hA G 70, hA G 71, hA G 72, hA G 73, hA G 74, hA G 75, hA G 76, .int 0, .null, .int 0]))) 77 (.inl (G.2.2.1 0, 60, .inl (fun _ => 0)))) 69 (.inr (7, [.int 0, .int 0, .int 0, hA G 70, hA G 71, hA G 72, hA G 73, hA G 74, hA G 75, hA G 76, .int 0, hA G 77, .int 0]))) 69 (.inr (7, [.int 0, .int 0, .int 0, hA G 70, hA G 71, hA G 72, hA G 73, hA G 74, hA G 75, hA G 76, .int 0, hA G 77, .int 0])))
set_option maxRecDepth 100000 in
set_option maxHeartbeats 4000000 in
theorem k_X7i_69 (G : hG) (f : kM) : Mk G 1 8 116 yX7_init cX7_init 1 [hA G 69] 70 (kU f 69 (.inr (7, [.int 0, .int 0, .int 0, .null, .null, .null, .null, .null, .null, .null, .int 0, .null, .int 0]))) (K_X7i_69 G f) := by
  refine mk_of (by decide +kernel) rfl (Nat.le_of_ble_eq_true rfl) (fun X C K => ?_)
  have C : Ck G X 70 8 116 1 cX7_init 1 RX7 := C
  unfold K_X7i_69 at K
  show Rk G X 70 0 [(0, hA G 69)] [] (kU f 69 (.inr (7, [.int 0, .int 0, .int 0, .null, .null, .null, .null, .null, .null, .null, .int 0, .null, .int 0]))) 0 0
  refine rk_aload_n C (n := 1) (q := 0) dX7_init_0 rfl rfl rfl ?_
  refine rk_objInit C (n := 4) oi_RX7_3 wo_1 wo_2 (by decide) (Nat.le_of_ble_eq_true rfl) dX7_init_1 rfl ?_
  refine rk_aload_n C (n := 5) (q := 0) dX7_init_4 rfl rfl rfl ?_
  refine rk_iconst C (n := 6) (v := 0) dX7_init_5 rfl (by decide) ?_
  refine rk_putW C (n := 9) (fs' := [.int 0, .int 0, .int 0, .null, .null, .null, .null, .null, .null, .null, .int 0, .null, .int 0]) pf_RX7_9 (by decide) (show _ = Sum.inr (7, [.int 0, .int 0, .int 0, .null, .null, .null, .null, .null, .null, .null, .int 0, .null, .int 0]) from rfl) rfl ⟨rfl, rfl⟩ (Nat.le_of_ble_eq_true rfl) dX7_init_6 rfl ?_
  refine rk_aload_n C (n := 10) (q := 0) dX7_init_9 rfl rfl rfl ?_
  refine rk_iconst C (n := 11) (v := 0) dX7_init_10 rfl (by decide) ?_
  refine rk_putW C (n := 14) (fs' := [.int 0, .int 0, .int 0, .null, .null, .null, .null, .null, .null, .null, .int 0, .null, .int 0]) pf_RX7_15 (by decide) (show _ = Sum.inr (7, [.int 0, .int 0, .int 0, .null, .null, .null, .null, .null, .null, .null, .int 0, .null, .int 0]) from rfl) rfl ⟨rfl, rfl⟩ (Nat.le_of_ble_eq_true rfl) dX7_init_11 rfl ?_
  refine rk_aload_n C (n := 15) (q := 0) dX7_init_14 rfl rfl rfl ?_
  refine rk_iconst C (n := 16) (v := 0) dX7_init_15 rfl (by decide) ?_
  refine rk_putW C (n := 19) (fs' := [.int 0, .int 0, .int 0, .null, .null, .null, .null, .null, .null, .null, .int 0, .null, .int 0]) pf_RX7_18 (by decide) (show _ = Sum.inr (7, [.int 0, .int 0, .int 0, .null, .null, .null, .null, .null, .null, .null, .int 0, .null, .int 0]) from rfl) rfl ⟨rfl, rfl⟩ (Nat.le_of_ble_eq_true rfl) dX7_init_16 rfl ?_
  refine rk_aload_n C (n := 20) (q := 0) dX7_init_19 rfl rfl rfl ?_
  refine rk_bipush C (n := 22) (v := 8) dX7_init_20 rfl (by decide) ?_
  refine rk_newaW C (n := 24) (tk := 0) (N := 8) (q := 70) (cs' := 1) (sl' := 8) (a0 := (8, .inl (fun _ => 0))) wa_int rfl rfl (fun _ _ h => h) (fun _ => rfl) (by decide) (by decide) (by decide) (by decide) (by decide) dX7_init_22 rfl rfl rfl rfl ?_
  refine rk_putFW C K (n := 27) (fs' := [.int 0, .int 0, .int 0, hA G 70, .null, .null, .null, .null, .null, .null, .int 0, .null, .int 0]) pf_RX7_21 (by decide) (show _ = Sum.inr (7, [.int 0, .int 0, .int 0, .null, .null, .null, .null, .null, .null, .null, .int 0, .null, .int 0]) from rfl) rfl ⟨rfl, rfl⟩ (Nat.le_of_ble_eq_true rfl) dX7_init_24 rfl ?_
  refine rk_aload_n C (n := 28) (q := 0) dX7_init_27 rfl rfl rfl ?_
  refine rk_bipush C (n := 30) (v := 8) dX7_init_28 rfl (by decide) ?_
  refine rk_newaW C (n := 32) (tk := 0) (N := 8) (q := 71) (cs' := 2) (sl' := 16) (a0 := (8, .inl (fun _ => 0))) wa_int rfl rfl (fun _ _ h => h) (fun _ => rfl) (by decide) (by decide) (by decide) (by decide) (by decide) dX7_init_30 rfl rfl rfl rfl ?_
  refine rk_putFW C K (n := 35) (fs' := [.int 0, .int 0, .int 0, hA G 70, hA G 71, .null, .null, .null, .null, .null, .int 0, .null, .int 0]) pf_RX7_25 (by decide) (show _ = Sum.inr (7, [.int 0, .int 0, .int 0, hA G 70, .null, .null, .null, .null, .null, .null, .int 0, .null, .int 0]) from rfl) rfl ⟨rfl, rfl⟩ (Nat.le_of_ble_eq_true rfl) dX7_init_32 rfl ?_
  refine rk_aload_n C (n := 36) (q := 0) dX7_init_35 rfl rfl rfl ?_
  refine rk_bipush C (n := 38) (v := 8) dX7_init_36 rfl (by decide) ?_
  refine rk_newaW C (n := 40) (tk := 0) (N := 8) (q := 72) (cs' := 3) (sl' := 24) (a0 := (8, .inl (fun _ => 0))) wa_int rfl rfl (fun _ _ h => h) (fun _ => rfl) (by decide) (by decide) (by decide) (by decide) (by decide) dX7_init_38 rfl rfl rfl rfl ?_
  refine rk_putFW C K (n := 43) (fs' := [.int 0, .int 0, .int 0, hA G 70, hA G 71, hA G 72, .null, .null, .null, .null, .int 0, .null, .int 0]) pf_RX7_28 (by decide) (show _ = Sum.inr (7, [.int 0, .int 0, .int 0, hA G 70, hA G 71, .null, .null, .null, .null, .null, .int 0, .null, .int 0]) from rfl) rfl ⟨rfl, rfl⟩ (Nat.le_of_ble_eq_true rfl) dX7_init_40 rfl ?_
  refine rk_aload_n C (n := 44) (q := 0) dX7_init_43 rfl rfl rfl ?_
  refine rk_bipush C (n := 46) (v := 8) dX7_init_44 rfl (by decide) ?_
  refine rk_newaW C (n := 48) (tk := 0) (N := 8) (q := 73) (cs' := 4) (sl' := 32) (a0 := (8, .inl (fun _ => 0))) wa_int rfl rfl (fun _ _ h => h) (fun _ => rfl) (by decide) (by decide) (by decide) (by decide) (by decide) dX7_init_46 rfl rfl rfl rfl ?_
  refine rk_putFW C K (n := 51) (fs' := [.int 0, .int 0, .int 0, hA G 70, hA G 71, hA G 72, hA G 73, .null, .null, .null, .int 0, .null, .int 0]) pf_RX7_31 (by decide) (show _ = Sum.inr (7, [.int 0, .int 0, .int 0, hA G 70, hA G 71, hA G 72, .null, .null, .null, .null, .int 0, .null, .int 0]) from rfl) rfl ⟨rfl, rfl⟩ (Nat.le_of_ble_eq_true rfl) dX7_init_48 rfl ?_
  refine rk_aload_n C (n := 52) (q := 0) dX7_init_51 rfl rfl rfl ?_
  refine rk_bipush C (n := 54) (v := 8) dX7_init_52 rfl (by decide) ?_
  refine rk_newaW C (n := 56) (tk := 0) (N := 8) (q := 74) (cs' := 5) (sl' := 40) (a0 := (8, .inl (fun _ => 0))) wa_int rfl rfl (fun _ _ h => h) (fun _ => rfl) (by decide) (by decide) (by decide) (by decide) (by decide) dX7_init_54 rfl rfl rfl rfl ?_
  refine rk_putFW C K (n := 59) (fs' := [.int 0, .int 0, .int 0, hA G 70, hA G 71, hA G 72, hA G 73, hA G 74, .null, .null, .int 0, .null, .int 0]) pf_RX7_34 (by decide) (show _ = Sum.inr (7, [.int 0, .int 0, .int 0, hA G 70, hA G 71, hA G 72, hA G 73, .null, .null, .null, .int 0, .null, .int 0]) from rfl) rfl ⟨rfl, rfl⟩ (Nat.le_of_ble_eq_true rfl) dX7_init_56 rfl ?_
  refine rk_aload_n C (n := 60) (q := 0) dX7_init_59 rfl rfl rfl ?_
  refine rk_bipush C (n := 62) (v := 8) dX7_init_60 rfl (by decide) ?_
  refine rk_newaW C (n := 64) (tk := 0) (N := 8) (q := 75) (cs' := 6) (sl' := 48) (a0 := (8, .inl (fun _ => 0))) wa_int rfl rfl (fun _ _ h => h) (fun _ => rfl) (by decide) (by decide) (by decide) (by decide) (by decide) dX7_init_62 rfl rfl rfl rfl ?_
  refine rk_putFW C K (n := 67) (fs' := [.int 0, .int 0, .int 0, hA G 70, hA G 71, hA G 72, hA G 73, hA G 74, hA G 75, .null, .int 0, .null, .int 0]) pf_RX7_37 (by decide) (show _ = Sum.inr (7, [.int 0, .int 0, .int 0, hA G 70, hA G 71, hA G 72, hA G 73, hA G 74, .null, .null, .int 0, .null, .int 0]) from rfl) rfl ⟨rfl, rfl⟩ (Nat.le_of_ble_eq_true rfl) dX7_init_64 rfl ?_
  refine rk_aload_n C (n := 68) (q := 0) dX7_init_67 rfl rfl rfl ?_
  refine rk_bipush C (n := 70) (v := 8) dX7_init_68 rfl (by decide) ?_
  refine rk_newaW C (n := 72) (tk := 0) (N := 8) (q := 76) (cs' := 7) (sl' := 56) (a0 := (8, .inl (fun _ => 0))) wa_int rfl rfl (fun _ _ h => h) (fun _ => rfl) (by decide) (by decide) (by decide) (by decide) (by decide) dX7_init_70 rfl rfl rfl rfl ?_
  refine rk_putFW C K (n := 75) (fs' := [.int 0, .int 0, .int 0, hA G 70, hA G 71, hA G 72, hA G 73, hA G 74, hA G 75, hA G 76, .int 0, .null, .int 0]) pf_RX7_40 (by decide) (show _ = Sum.inr (7, [.int 0, .int 0, .int 0, hA G 70, hA G 71, hA G 72, hA G 73, hA G 74, hA G 75, .null, .int 0, .null, .int 0]) from rfl) rfl ⟨rfl, rfl⟩ (Nat.le_of_ble_eq_true rfl) dX7_init_72 rfl ?_
  refine rk_aload_n C (n := 76) (q := 0) dX7_init_75 rfl rfl rfl ?_
  refine rk_iconst C (n := 77) (v := 0) dX7_init_76 rfl (by decide) ?_
  refine rk_putW C (n := 80) (fs' := [.int 0, .int 0, .int 0, hA G 70, hA G 71, hA G 72, hA G 73, hA G 74, hA G 75, hA G 76, .int 0, .null, .int 0]) pf_RX7_43 (by decide) (show _ = Sum.inr (7, [.int 0, .int 0, .int 0, hA G 70, hA G 71, hA G 72, hA G 73, hA G 74, hA G 75, hA G 76, .int 0, .null, .int 0]) from rfl) rfl ⟨rfl, rfl⟩ (Nat.le_of_ble_eq_true rfl) dX7_init_77 rfl ?_
  refine rk_aload_n C (n := 81) (q := 0) dX7_init_80 rfl rfl rfl ?_
  refine rk_bipush C (n := 83) (v := 60) dX7_init_81 rfl (by decide) ?_
  refine rk_newaW C (n := 85) (tk := 0) (N := 60) (q := 77) (cs' := 8) (sl' := 116) (a0 := (60, .inl (fun _ => 0))) wa_int rfl rfl (fun _ _ h => h) (fun _ => rfl) (by decide) (by decide) (by decide) (by decide) (by decide) dX7_init_83 rfl rfl rfl rfl ?_
  refine rk_putFW C K (n := 88) (fs' := [.int 0, .int 0, .int 0, hA G 70, hA G 71, hA G 72, hA G 73, hA G 74, hA G 75, hA G 76, .int 0, hA G 77, .int 0]) pf_RX7_46 (by decide) (show _ = Sum.inr (7, [.int 0, .int 0, .int 0, hA G 70, hA G 71, hA G 72, hA G 73, hA G 74, hA G 75, hA G 76, .int 0, .null, .int 0]) from rfl) rfl ⟨rfl, rfl⟩ (Nat.le_of_ble_eq_true rfl) dX7_init_85 rfl ?_
  refine rk_aload_n C (n := 89) (q := 0) dX7_init_88 rfl rfl rfl ?_
  refine rk_iconst C (n := 90) (v := 0) dX7_init_89 rfl (by decide) ?_
  refine rk_putW C (n := 93) (fs' := [.int 0, .int 0, .int 0, hA G 70, hA G 71, hA G 72, hA G 73, hA G 74, hA G 75, hA G 76, .int 0, hA G 77, .int 0]) pf_RX7_49 (by decide) (show _ = Sum.inr (7, [.int 0, .int 0, .int 0, hA G 70, hA G 71, hA G 72, hA G 73, hA G 74, hA G 75, hA G 76, .int 0, hA G 77, .int 0]) from rfl) rfl ⟨rfl, rfl⟩ (Nat.le_of_ble_eq_true rfl) dX7_init_90 rfl ?_
  exact rk_ret C K rfl rfl rfl dX7_init_93
def K_X7i_78 (G : hG) (f : kM) : kM := (kU (kU (kU (kU (kU (kU (kU (kU (kU (kU (kU (kU (kU (kU (kU (kU (kU (kU (kU (kU (kU (kU f 78 (.inr (7, [.int 0, .int 0, .int 0, .null, .null, .null, .null, .null, .null, .null, .int 0, .null, .int 0]))) 78 (.inr (7, [.int 0, .int 0, .int 0, .null, .null, .null, .null, .null, .null, .null, .int 0, .null, .int 0]))) 78 (.inr (7, [.int 0, .int 0, .int 0, .null, .null, .null, .null, .null, .null, .null, .int 0, .null, .int 0]))) 78 (.inr (7, [.int 0, .int 0, .int 0, .null, .null, .null, .null, .null, .null, .null, .int 0, .null, .int 0]))) 79 (.inl (G.2.2.1 0, 8, .inl (fun _ => 0)))) 78 (.inr (7, [.int 0, .int 0, .int 0, hA G 79, .null, .null, .null, .null, .null, .null, .int 0, .null, .int 0]))) 80 (.inl (G.2.2.1 0, 8, .inl (fun _ => 0)))) 78 (.inr (7, [.int 0, .int 0, .int 0, hA G 79, hA G 80, .null, .null, .null, .null, .null, .int 0, .null, .int 0]))) 81 (.inl (G.2.2.1 0, 8, .inl (fun _ => 0)))) 78 (.inr (7, [.int 0, .int 0, .int 0, hA G 79, hA G 80, hA G 81, .null, .null, .null, .null, .int 0, .null, .int 0]))) 82 (.inl (G.2.2.1 0, 8, .inl (fun _ => 0)))) 78 (.inr (7, [.int 0, .int 0, .int 0, hA G 79, hA G 80, hA G 81, hA G 82, .null, .null, .null, .int 0, .null, .int 0]))) 83 (.inl (G.2.2.1 0, 8, .inl (fun _ => 0)))) 78 (.inr (7, [.int 0, .int 0, .int 0, hA G 79, hA G 80, hA G 81, hA G 82, hA G 83, .null, .null, .int 0, .null, .int 0]))) 84 (.inl (G.2.2.1 0, 8, .inl (fun _ => 0)))) 78 (.inr (7, [.int 0, .int 0, .int 0, hA G 79, hA G 80, hA G 81, hA G 82, hA G 83, hA G 84, .null, .int 0, .null, .int 0]))) 85 (.inl (G.2.2.1 0, 8, .inl (fun _ => 0)))) 78 (.inr (7, [.int 0, .int 0, .int 0, hA G 79, hA G 80, hA G 81, hA G 82, hA G 83, hA G 84, hA G 85, .int 0, .null, .int 0]))) 78 (.inr (7, [.int 0, .int 0, .int 0, hA G 79, hA G 80, hA G 81, hA G 82, hA G 83, hA G 84, hA G 85, .int 0, .null, .int 0]))) 86 (.inl (G.2.2.1 0, 60, .inl (fun _ => 0)))) 78 (.inr (7, [.int 0, .int 0, .int 0, hA G 79, hA G 80, hA G 81, hA G 82, hA G 83, hA G 84, hA G 85, .int 0, hA G 86, .int 0]))) 78 (.inr (7, [.int 0, .int 0, .int 0, hA G 79, hA G 80, hA G 81, hA G 82, hA G 83, hA G 84, hA G 85, .int 0, hA G 86, .int 0])))
set_option maxRecDepth 100000 in
set_option maxHeartbeats 4000000 in
theorem k_X7i_78 (G : hG) (f : kM) : Mk G 1 8 116 yX7_init cX7_init 1 [hA G 78] 79 (kU f 78 (.inr (7, [.int 0, .int 0, .int 0, .null, .null, .null, .null, .null, .null, .null, .int 0, .null, .int 0]))) (K_X7i_78 G f) := by
  refine mk_of (by decide +kernel) rfl (Nat.le_of_ble_eq_true rfl) (fun X C K => ?_)
  have C : Ck G X 79 8 116 1 cX7_init 1 RX7 := C
  unfold K_X7i_78 at K
  show Rk G X 79 0 [(0, hA G 78)] [] (kU f 78 (.inr (7, [.int 0, .int 0, .int 0, .null, .null, .null, .null, .null, .null, .null, .int 0, .null, .int 0]))) 0 0
  refine rk_aload_n C (n := 1) (q := 0) dX7_init_0 rfl rfl rfl ?_
  refine rk_objInit C (n := 4) oi_RX7_3 wo_1 wo_2 (by decide) (Nat.le_of_ble_eq_true rfl) dX7_init_1 rfl ?_
  refine rk_aload_n C (n := 5) (q := 0) dX7_init_4 rfl rfl rfl ?_
  refine rk_iconst C (n := 6) (v := 0) dX7_init_5 rfl (by decide) ?_
  refine rk_putW C (n := 9) (fs' := [.int 0, .int 0, .int 0, .null, .null, .null, .null, .null, .null, .null, .int 0, .null, .int 0]) pf_RX7_9 (by decide) (show _ = Sum.inr (7, [.int 0, .int 0, .int 0, .null, .null, .null, .null, .null, .null, .null, .int 0, .null, .int 0]) from rfl) rfl ⟨rfl, rfl⟩ (Nat.le_of_ble_eq_true rfl) dX7_init_6 rfl ?_
  refine rk_aload_n C (n := 10) (q := 0) dX7_init_9 rfl rfl rfl ?_
  refine rk_iconst C (n := 11) (v := 0) dX7_init_10 rfl (by decide) ?_
  refine rk_putW C (n := 14) (fs' := [.int 0, .int 0, .int 0, .null, .null, .null, .null, .null, .null, .null, .int 0, .null, .int 0]) pf_RX7_15 (by decide) (show _ = Sum.inr (7, [.int 0, .int 0, .int 0, .null, .null, .null, .null, .null, .null, .null, .int 0, .null, .int 0]) from rfl) rfl ⟨rfl, rfl⟩ (Nat.le_of_ble_eq_true rfl) dX7_init_11 rfl ?_
  refine rk_aload_n C (n := 15) (q := 0) dX7_init_14 rfl rfl rfl ?_
  refine rk_iconst C (n := 16) (v := 0) dX7_init_15 rfl (by decide) ?_
  refine rk_putW C (n := 19) (fs' := [.int 0, .int 0, .int 0, .null, .null, .null, .null, .null, .null, .null, .int 0, .null, .int 0]) pf_RX7_18 (by decide) (show _ = Sum.inr (7, [.int 0, .int 0, .int 0, .null, .null, .null, .null, .null, .null, .null, .int 0, .null, .int 0]) from rfl) rfl ⟨rfl, rfl⟩ (Nat.le_of_ble_eq_true rfl) dX7_init_16 rfl ?_
  refine rk_aload_n C (n := 20) (q := 0) dX7_init_19 rfl rfl rfl ?_
  refine rk_bipush C (n := 22) (v := 8) dX7_init_20 rfl (by decide) ?_
  refine rk_newaW C (n := 24) (tk := 0) (N := 8) (q := 79) (cs' := 1) (sl' := 8) (a0 := (8, .inl (fun _ => 0))) wa_int rfl rfl (fun _ _ h => h) (fun _ => rfl) (by decide) (by decide) (by decide) (by decide) (by decide) dX7_init_22 rfl rfl rfl rfl ?_
  refine rk_putFW C K (n := 27) (fs' := [.int 0, .int 0, .int 0, hA G 79, .null, .null, .null, .null, .null, .null, .int 0, .null, .int 0]) pf_RX7_21 (by decide) (show _ = Sum.inr (7, [.int 0, .int 0, .int 0, .null, .null, .null, .null, .null, .null, .null, .int 0, .null, .int 0]) from rfl) rfl ⟨rfl, rfl⟩ (Nat.le_of_ble_eq_true rfl) dX7_init_24 rfl ?_
  refine rk_aload_n C (n := 28) (q := 0) dX7_init_27 rfl rfl rfl ?_
  refine rk_bipush C (n := 30) (v := 8) dX7_init_28 rfl (by decide) ?_
  refine rk_newaW C (n := 32) (tk := 0) (N := 8) (q := 80) (cs' := 2) (sl' := 16) (a0 := (8, .inl (fun _ => 0))) wa_int rfl rfl (fun _ _ h => h) (fun _ => rfl) (by decide) (by decide) (by decide) (by decide) (by decide) dX7_init_30 rfl rfl rfl rfl ?_
  refine rk_putFW C K (n := 35) (fs' := [.int 0, .int 0, .int 0, hA G 79, hA G 80, .null, .null, .null, .null, .null, .int 0, .null, .int 0]) pf_RX7_25 (by decide) (show _ = Sum.inr (7, [.int 0, .int 0, .int 0, hA G 79, .null, .null, .null, .null, .null, .null, .int 0, .null, .int 0]) from rfl) rfl ⟨rfl, rfl⟩ (Nat.le_of_ble_eq_true rfl) dX7_init_32 rfl ?_
  refine rk_aload_n C (n := 36) (q := 0) dX7_init_35 rfl rfl rfl ?_
  refine rk_bipush C (n := 38) (v := 8) dX7_init_36 rfl (by decide) ?_
  refine rk_newaW C (n := 40) (tk := 0) (N := 8) (q := 81) (cs' := 3) (sl' := 24) (a0 := (8, .inl (fun _ => 0))) wa_int rfl rfl (fun _ _ h => h) (fun _ => rfl) (by decide) (by decide) (by decide) (by decide) (by decide) dX7_init_38 rfl rfl rfl rfl ?_
  refine rk_putFW C K (n := 43) (fs' := [.int 0, .int 0, .int 0, hA G 79, hA G 80, hA G 81, .null, .null, .null, .null, .int 0, .null, .int 0]) pf_RX7_28 (by decide) (show _ = Sum.inr (7, [.int 0, .int 0, .int 0, hA G 79, hA G 80, .null, .null, .null, .null, .null, .int 0, .null, .int 0]) from rfl) rfl ⟨rfl, rfl⟩ (Nat.le_of_ble_eq_true rfl) dX7_init_40 rfl ?_
  refine rk_aload_n C (n := 44) (q := 0) dX7_init_43 rfl rfl rfl ?_
  refine rk_bipush C (n := 46) (v := 8) dX7_init_44 rfl (by decide) ?_
  refine rk_newaW C (n := 48) (tk := 0) (N := 8) (q := 82) (cs' := 4) (sl' := 32) (a0 := (8, .inl (fun _ => 0))) wa_int rfl rfl (fun _ _ h => h) (fun _ => rfl) (by decide) (by decide) (by decide) (by decide) (by decide) dX7_init_46 rfl rfl rfl rfl ?_
  refine rk_putFW C K (n := 51) (fs' := [.int 0, .int 0, .int 0, hA G 79, hA G 80, hA G 81, hA G 82, .null, .null, .null, .int 0, .null, .int 0]) pf_RX7_31 (by decide) (show _ = Sum.inr (7, [.int 0, .int 0, .int 0, hA G 79, hA G 80, hA G 81, .null, .null, .null, .null, .int 0, .null, .int 0]) from rfl) rfl ⟨rfl, rfl⟩ (Nat.le_of_ble_eq_true rfl) dX7_init_48 rfl ?_
  refine rk_aload_n C (n := 52) (q := 0) dX7_init_51 rfl rfl rfl ?_
  refine rk_bipush C (n := 54) (v := 8) dX7_init_52 rfl (by decide) ?_
  refine rk_newaW C (n := 56) (tk := 0) (N := 8) (q := 83) (cs' := 5) (sl' := 40) (a0 := (8, .inl (fun _ => 0))) wa_int rfl rfl (fun _ _ h => h) (fun _ => rfl) (by decide) (by decide) (by decide) (by decide) (by decide) dX7_init_54 rfl rfl rfl rfl ?_
  refine rk_putFW C K (n := 59) (fs' := [.int 0, .int 0, .int 0, hA G 79, hA G 80, hA G 81, hA G 82, hA G 83, .null, .null, .int 0, .null, .int 0]) pf_RX7_34 (by decide) (show _ = Sum.inr (7, [.int 0, .int 0, .int 0, hA G 79, hA G 80, hA G 81, hA G 82, .null, .null, .null, .int 0, .null, .int 0]) from rfl) rfl ⟨rfl, rfl⟩ (Nat.le_of_ble_eq_true rfl) dX7_init_56 rfl ?_
  refine rk_aload_n C (n := 60) (q := 0) dX7_init_59 rfl rfl rfl ?_
  refine rk_bipush C (n := 62) (v := 8) dX7_init_60 rfl (by decide) ?_
  refine rk_newaW C (n := 64) (tk := 0) (N := 8) (q := 84) (cs' := 6) (sl' := 48) (a0 := (8, .inl (fun _ => 0))) wa_int rfl rfl (fun _ _ h => h) (fun _ => rfl) (by decide) (by decide) (by decide) (by decide) (by decide) dX7_init_62 rfl rfl rfl rfl ?_
  refine rk_putFW C K (n := 67) (fs' := [.int 0, .int 0, .int 0, hA G 79, hA G 80, hA G 81, hA G 82, hA G 83, hA G 84, .null, .int 0, .null, .int 0]) pf_RX7_37 (by decide) (show _ = Sum.inr (7, [.int 0, .int 0, .int 0, hA G 79, hA G 80, hA G 81, hA G 82, hA G 83, .null, .null, .int 0, .null, .int 0]) from rfl) rfl ⟨rfl, rfl⟩ (Nat.le_of_ble_eq_true rfl) dX7_init_64 rfl ?_
  refine rk_aload_n C (n := 68) (q := 0) dX7_init_67 rfl rfl rfl ?_
  refine rk_bipush C (n := 70) (v := 8) dX7_init_68 rfl (by decide) ?_
  refine rk_newaW C (n := 72) (tk := 0) (N := 8) (q := 85) (cs' := 7) (sl' := 56) (a0 := (8, .inl (fun _ => 0))) wa_int rfl rfl (fun _ _ h => h) (fun _ => rfl) (by decide) (by decide) (by decide) (by decide) (by decide) dX7_init_70 rfl rfl rfl rfl ?_
  refine rk_putFW C K (n := 75) (fs' := [.int 0, .int 0, .int 0, hA G 79, hA G 80, hA G 81, hA G 82, hA G 83, hA G 84, hA G 85, .int 0, .null, .int 0]) pf_RX7_40 (by decide) (show _ = Sum.inr (7, [.int 0, .int 0, .int 0, hA G 79, hA G 80, hA G 81, hA G 82, hA G 83, hA G 84, .null, .int 0, .null, .int 0]) from rfl) rfl ⟨rfl, rfl⟩ (Nat.le_of_ble_eq_true rfl) dX7_init_72 rfl ?_
  refine rk_aload_n C (n := 76) (q := 0) dX7_init_75 rfl rfl rfl ?_
  refine rk_iconst C (n := 77) (v := 0) dX7_init_76 rfl (by decide) ?_
  refine rk_putW C (n := 80) (fs' := [.int 0, .int 0, .int 0, hA G 79, hA G 80, hA G 81, hA G 82, hA G 83, hA G 84, hA G 85, .int 0, .null, .int 0]) pf_RX7_43 (by decide) (show _ = Sum.inr (7, [.int 0, .int 0, .int 0, hA G 79, hA G 80, hA G 81, hA G 82, hA G 83, hA G 84, hA G 85, .int 0, .null, .int 0]) from rfl) rfl ⟨rfl, rfl⟩ (Nat.le_of_ble_eq_true rfl) dX7_init_77 rfl ?_
  refine rk_aload_n C (n := 81) (q := 0) dX7_init_80 rfl rfl rfl ?_
  refine rk_bipush C (n := 83) (v := 60) dX7_init_81 rfl (by decide) ?_
  refine rk_newaW C (n := 85) (tk := 0) (N := 60) (q := 86) (cs' := 8) (sl' := 116) (a0 := (60, .inl (fun _ => 0))) wa_int rfl rfl (fun _ _ h => h) (fun _ => rfl) (by decide) (by decide) (by decide) (by decide) (by decide) dX7_init_83 rfl rfl rfl rfl ?_
  refine rk_putFW C K (n := 88) (fs' := [.int 0, .int 0, .int 0, hA G 79, hA G 80, hA G 81, hA G 82, hA G 83, hA G 84, hA G 85, .int 0, hA G 86, .int 0]) pf_RX7_46 (by decide) (show _ = Sum.inr (7, [.int 0, .int 0, .int 0, hA G 79, hA G 80, hA G 81, hA G 82, hA G 83, hA G 84, hA G 85, .int 0, .null, .int 0]) from rfl) rfl ⟨rfl, rfl⟩ (Nat.le_of_ble_eq_true rfl) dX7_init_85 rfl ?_
  refine rk_aload_n C (n := 89) (q := 0) dX7_init_88 rfl rfl rfl ?_
  refine rk_iconst C (n := 90) (v := 0) dX7_init_89 rfl (by decide) ?_
  refine rk_putW C (n := 93) (fs' := [.int 0, .int 0, .int 0, hA G 79, hA G 80, hA G 81, hA G 82, hA G 83, hA G 84, hA G 85, .int 0, hA G 86, .int 0]) pf_RX7_49 (by decide) (show _ = Sum.inr (7, [.int 0, .int 0, .int 0, hA G 79, hA G 80, hA G 81, hA G 82, hA G 83, hA G 84, hA G 85, .int 0, hA G 86, .int 0]) from rfl) rfl ⟨rfl, rfl⟩ (Nat.le_of_ble_eq_true rfl) dX7_init_90 rfl ?_
  exact rk_ret C K rfl rfl rfl dX7_init_93
def K_X7i_87 (G : hG) (f : kM) : kM := (kU (kU (kU (kU (kU (kU (kU (kU (kU (kU (kU (kU (kU (kU (kU (kU (kU (kU (kU (kU (kU (kU f 87 (.inr (7, [.int 0, .int 0, .int 0, .null, .null, .null, .null, .null, .null, .null, .int 0, .null, .int 0]))) 87 (.inr (7, [.int 0, .int 0, .int 0, .null, .null, .null, .null, .null, .null, .null, .int 0, .null, .int 0]))) 87 (.inr (7, [.int 0, .int 0, .int 0, .null, .null, .null, .null, .null, .null, .null, .int 0, .null, .int 0]))) 87 (.inr (7, [.int 0, .int 0, .int 0, .null, .null, .null, .null, .null, .null, .null, .int 0, .null, .int 0]))) 88 (.inl (G.2.2.1 0, 8, .inl (fun _ => 0)))) 87 (.inr (7, [.int 0, .int 0, .int 0, hA G 88, .null, .null, .null, .null, .null, .null, .int 0, .null, .int 0]))) 89 (.inl (G.2.2.1 0, 8, .inl (fun _ => 0)))) 87 (.inr (7, [.int 0, .int 0, .int 0, hA G 88, hA G 89, .null, .null, .null, .null, .null, .int 0, .null, .int 0]))) 90 (.inl (G.2.2.1 0, 8, .inl (fun _ => 0)))) 87 (.inr (7, [.int 0, .int 0, .int 0, hA G 88, hA G 89, hA G 90, .null, .null, .null, .null, .int 0, .null, .int 0]))) 91 (.inl (G.2.2.1 0, 8, .inl (fun _ => 0)))) 87 (.inr (7, [.int 0, .int 0, .int 0, hA G 88, hA G 89, hA G 90, hA G 91, .null, .null, .null, .int 0, .null, .int 0]))) 92 (.inl (G.2.2.1 0, 8, .inl (fun _ => 0)))) 87 (.inr (7, [.int 0, .int 0, .int 0, hA G 88, hA G 89, hA G 90, hA G 91, hA G 92, .null, .null, .int 0, .null, .int 0]))) 93 (.inl (G.2.2.1 0, 8, .inl (fun _ => 0)))) 87 (.inr (7, [.int 0, .int 0, .int 0, hA G 88, hA G 89, hA G 90, hA G 91, hA G 92, hA G 93, .null, .int 0, .null, .int 0]))) 94 (.inl (G.2.2.1 0, 8, .inl (fun _ => 0)))) 87 (.inr (7, [.int 0, .int 0, .int 0, hA G 88, hA G 89, hA G 90, hA G 91, hA G 92, hA G 93, hA G 94, .int 0, .null, .int 0]))) 87 (.inr (7, [.int 0, .int 0, .int 0, hA G 88, hA G 89, hA G 90, hA G 91, hA G 92, hA G 93, hA G 94, .int 0, .null, .int 0]))) 95 (.inl (G.2.2.1 0, 60, .inl (fun _ => 0)))) 87 (.inr (7, [.int 0, .int 0, .int 0, hA G 88, hA G 89, hA G 90, hA G 91, hA G 92, hA G 93, hA G 94, .int 0, hA G 95, .int 0]))) 87 (.inr (7, [.int 0, .int 0, .int 0, hA G 88, hA G 89, hA G 90, hA G 91, hA G 92, hA G 93, hA G 94, .int 0, hA G 95, .int 0])))
set_option maxRecDepth 100000 in
set_option maxHeartbeats 4000000 in
theorem k_X7i_87 (G : hG) (f : kM) : Mk G 1 8 116 yX7_init cX7_init 1 [hA G 87] 88 (kU f 87 (.inr (7, [.int 0, .int 0, .int 0, .null, .null, .null, .null, .null, .null, .null, .int 0, .null, .int 0]))) (K_X7i_87 G f) := by
  refine mk_of (by decide +kernel) rfl (Nat.le_of_ble_eq_true rfl) (fun X C K => ?_)
  have C : Ck G X 88 8 116 1 cX7_init 1 RX7 := C
  unfold K_X7i_87 at K
  show Rk G X 88 0 [(0, hA G 87)] [] (kU f 87 (.inr (7, [.int 0, .int 0, .int 0, .null, .null, .null, .null, .null, .null, .null, .int 0, .null, .int 0]))) 0 0
  refine rk_aload_n C (n := 1) (q := 0) dX7_init_0 rfl rfl rfl ?_
  refine rk_objInit C (n := 4) oi_RX7_3 wo_1 wo_2 (by decide) (Nat.le_of_ble_eq_true rfl) dX7_init_1 rfl ?_
  refine rk_aload_n C (n := 5) (q := 0) dX7_init_4 rfl rfl rfl ?_
  refine rk_iconst C (n := 6) (v := 0) dX7_init_5 rfl (by decide) ?_
  refine rk_putW C (n := 9) (fs' := [.int 0, .int 0, .int 0, .null, .null, .null, .null, .null, .null, .null, .int 0, .null, .int 0]) pf_RX7_9 (by decide) (show _ = Sum.inr (7, [.int 0, .int 0, .int 0, .null, .null, .null, .null, .null, .null, .null, .int 0, .null, .int 0]) from rfl) rfl ⟨rfl, rfl⟩ (Nat.le_of_ble_eq_true rfl) dX7_init_6 rfl ?_
  refine rk_aload_n C (n := 10) (q := 0) dX7_init_9 rfl rfl rfl ?_
  refine rk_iconst C (n := 11) (v := 0) dX7_init_10 rfl (by decide) ?_
  refine rk_putW C (n := 14) (fs' := [.int 0, .int 0, .int 0, .null, .null, .null, .null, .null, .null, .null, .int 0, .null, .int 0]) pf_RX7_15 (by decide) (show _ = Sum.inr (7, [.int 0, .int 0, .int 0, .null, .null, .null, .null, .null, .null, .null, .int 0, .null, .int 0]) from rfl) rfl ⟨rfl, rfl⟩ (Nat.le_of_ble_eq_true rfl) dX7_init_11 rfl ?_
  refine rk_aload_n C (n := 15) (q := 0) dX7_init_14 rfl rfl rfl ?_
  refine rk_iconst C (n := 16) (v := 0) dX7_init_15 rfl (by decide) ?_
  refine rk_putW C (n := 19) (fs' := [.int 0, .int 0, .int 0, .null, .null, .null, .null, .null, .null, .null, .int 0, .null, .int 0]) pf_RX7_18 (by decide) (show _ = Sum.inr (7, [.int 0, .int 0, .int 0, .null, .null, .null, .null, .null, .null, .null, .int 0, .null, .int 0]) from rfl) rfl ⟨rfl, rfl⟩ (Nat.le_of_ble_eq_true rfl) dX7_init_16 rfl ?_
  refine rk_aload_n C (n := 20) (q := 0) dX7_init_19 rfl rfl rfl ?_
  refine rk_bipush C (n := 22) (v := 8) dX7_init_20 rfl (by decide) ?_
  refine rk_newaW C (n := 24) (tk := 0) (N := 8) (q := 88) (cs' := 1) (sl' := 8) (a0 := (8, .inl (fun _ => 0))) wa_int rfl rfl (fun _ _ h => h) (fun _ => rfl) (by decide) (by decide) (by decide) (by decide) (by decide) dX7_init_22 rfl rfl rfl rfl ?_
  refine rk_putFW C K (n := 27) (fs' := [.int 0, .int 0, .int 0, hA G 88, .null, .null, .null, .null, .null, .null, .int 0, .null, .int 0]) pf_RX7_21 (by decide) (show _ = Sum.inr (7, [.int 0, .int 0, .int 0, .null, .null, .null, .null, .null, .null, .null, .int 0, .null, .int 0]) from rfl) rfl ⟨rfl, rfl⟩ (Nat.le_of_ble_eq_true rfl) dX7_init_24 rfl ?_
  refine rk_aload_n C (n := 28) (q := 0) dX7_init_27 rfl rfl rfl ?_
  refine rk_bipush C (n := 30) (v := 8) dX7_init_28 rfl (by decide) ?_
  refine rk_newaW C (n := 32) (tk := 0) (N := 8) (q := 89) (cs' := 2) (sl' := 16) (a0 := (8, .inl (fun _ => 0))) wa_int rfl rfl (fun _ _ h => h) (fun _ => rfl) (by decide) (by decide) (by decide) (by decide) (by decide) dX7_init_30 rfl rfl rfl rfl ?_
  refine rk_putFW C K (n := 35) (fs' := [.int 0, .int 0, .int 0, hA G 88, hA G 89, .null, .null, .null, .null, .null, .int 0, .null, .int 0]) pf_RX7_25 (by decide) (show _ = Sum.inr (7, [.int 0, .int 0, .int 0, hA G 88, .null, .null, .null, .null, .null, .null, .int 0, .null, .int 0]) from rfl) rfl ⟨rfl, rfl⟩ (Nat.le_of_ble_eq_true rfl) dX7_init_32 rfl ?_
  refine rk_aload_n C (n := 36) (q := 0) dX7_init_35 rfl rfl rfl ?_
  refine rk_bipush C (n := 38) (v := 8) dX7_init_36 rfl (by decide) ?_
  refine rk_newaW C (n := 40) (tk := 0) (N := 8) (q := 90) (cs' := 3) (sl' := 24) (a0 := (8, .inl (fun _ => 0))) wa_int rfl rfl (fun _ _ h => h) (fun _ => rfl) (by decide) (by decide) (by decide) (by decide) (by decide) dX7_init_38 rfl rfl rfl rfl ?_
  refine rk_putFW C K (n := 43) (fs' := [.int 0, .int 0, .int 0, hA G 88, hA G 89, hA G 90, .null, .null, .null, .null, .int 0, .null, .int 0]) pf_RX7_28 (by decide) (show _ = Sum.inr (7, [.int 0, .int 0, .int 0, hA G 88, hA G 89, .null, .null, .null, .null, .null, .int 0, .null, .int 0]) from rfl) rfl ⟨rfl, rfl⟩ (Nat.le_of_ble_eq_true rfl) dX7_init_40 rfl ?_
  refine rk_aload_n C (n := 44) (q := 0) dX7_init_43 rfl rfl rfl ?_
  refine rk_bipush C (n := 46) (v := 8) dX7_init_44 rfl (by decide) ?_
  refine rk_newaW C (n := 48) (tk := 0) (N := 8) (q := 91) (cs' := 4) (sl' := 32) (a0 := (8, .inl (fun _ => 0))) wa_int rfl rfl (fun _ _ h => h) (fun _ => rfl) (by decide) (by decide) (by decide) (by decide) (by decide) dX7_init_46 rfl rfl rfl rfl ?_
  refine rk_putFW C K (n := 51) (fs' := [.int 0, .int 0, .int 0, hA G 88, hA G 89, hA G 90, hA G 91, .null, .null, .null, .int 0, .null, .int 0]) pf_RX7_31 (by decide) (show _ = Sum.inr (7, [.int 0, .int 0, .int 0, hA G 88, hA G 89, hA G 90, .null, .null, .null, .null, .int 0, .null, .int 0]) from rfl) rfl ⟨rfl, rfl⟩ (Nat.le_of_ble_eq_true rfl) dX7_init_48 rfl ?_
  refine rk_aload_n C (n := 52) (q := 0) dX7_init_51 rfl rfl rfl ?_
  refine rk_bipush C (n := 54) (v := 8) dX7_init_52 rfl (by decide) ?_
  refine rk_newaW C (n := 56) (tk := 0) (N := 8) (q := 92) (cs' := 5) (sl' := 40) (a0 := (8, .inl (fun _ => 0))) wa_int rfl rfl (fun _ _ h => h) (fun _ => rfl) (by decide) (by decide) (by decide) (by decide) (by decide) dX7_init_54 rfl rfl rfl rfl ?_
  refine rk_putFW C K (n := 59) (fs' := [.int 0, .int 0, .int 0, hA G 88, hA G 89, hA G 90, hA G 91, hA G 92, .null, .null, .int 0, .null, .int 0]) pf_RX7_34 (by decide) (show _ = Sum.inr (7, [.int 0, .int 0, .int 0, hA G 88, hA G 89, hA G 90, hA G 91, .null, .null, .null, .int 0, .null, .int 0]) from rfl) rfl ⟨rfl, rfl⟩ (Nat.le_of_ble_eq_true rfl) dX7_init_56 rfl ?_
  refine rk_aload_n C (n := 60) (q := 0) dX7_init_59 rfl rfl rfl ?_
  refine rk_bipush C (n := 62) (v := 8) dX7_init_60 rfl (by decide) ?_
  refine rk_newaW C (n := 64) (tk := 0) (N := 8) (q := 93) (cs' := 6) (sl' := 48) (a0 := (8, .inl (fun _ => 0))) wa_int rfl rfl (fun _ _ h => h) (fun _ => rfl) (by decide) (by decide) (by decide) (by decide) (by decide) dX7_init_62 rfl rfl rfl rfl ?_
  refine rk_putFW C K (n := 67) (fs' := [.int 0, .int 0, .int 0, hA G 88, hA G 89, hA G 90, hA G 91, hA G 92, hA G 93, .null, .int 0, .null, .int 0]) pf_RX7_37 (by decide) (show _ = Sum.inr (7, [.int 0, .int 0, .int 0, hA G 88, hA G 89, hA G 90, hA G 91, hA G 92, .null, .null, .int 0, .null, .int 0]) from rfl) rfl ⟨rfl, rfl⟩ (Nat.le_of_ble_eq_true rfl) dX7_init_64 rfl ?_
  refine rk_aload_n C (n := 68) (q := 0) dX7_init_67 rfl rfl rfl ?_
  refine rk_bipush C (n := 70) (v := 8) dX7_init_68 rfl (by decide) ?_
  refine rk_newaW C (n := 72) (tk := 0) (N := 8) (q := 94) (cs' := 7) (sl' := 56) (a0 := (8, .inl (fun _ => 0))) wa_int rfl rfl (fun _ _ h => h) (fun _ => rfl) (by decide) (by decide) (by decide) (by decide) (by decide) dX7_init_70 rfl rfl rfl rfl ?_
  refine rk_putFW C K (n := 75) (fs' := [.int 0, .int 0, .int 0, hA G 88, hA G 89, hA G 90, hA G 91, hA G 92, hA G 93, hA G 94, .int 0, .null, .int 0]) pf_RX7_40 (by decide) (show _ = Sum.inr (7, [.int 0, .int 0, .int 0, hA G 88, hA G 89, hA G 90, hA G 91, hA G 92, hA G 93, .null, .int 0, .null, .int 0]) from rfl) rfl ⟨rfl, rfl⟩ (Nat.le_of_ble_eq_true rfl) dX7_init_72 rfl ?_
  refine rk_aload_n C (n := 76) (q := 0) dX7_init_75 rfl rfl rfl ?_
  refine rk_iconst C (n := 77) (v := 0) dX7_init_76 rfl (by decide) ?_
  refine rk_putW C (n := 80) (fs' := [.int 0, .int 0, .int 0, hA G 88, hA G 89, hA G 90, hA G 91, hA G 92, hA G 93, hA G 94, .int 0, .null, .int 0]) pf_RX7_43 (by decide) (show _ = Sum.inr (7, [.int 0, .int 0, .int 0, hA G 88, hA G 89, hA G 90, hA G 91, hA G 92, hA G 93, hA G 94, .int 0, .null, .int 0]) from rfl) rfl ⟨rfl, rfl⟩ (Nat.le_of_ble_eq_true rfl) dX7_init_77 rfl ?_
  refine rk_aload_n C (n := 81) (q := 0) dX7_init_80 rfl rfl rfl ?_
  refine rk_bipush C (n := 83) (v := 60) dX7_init_81 rfl (by decide) ?_
  refine rk_newaW C (n := 85) (tk := 0) (N := 60) (q := 95) (cs' := 8) (sl' := 116) (a0 := (60, .inl (fun _ => 0))) wa_int rfl rfl (fun _ _ h => h) (fun _ => rfl) (by decide) (by decide) (by decide) (by decide) (by decide) dX7_init_83 rfl rfl rfl rfl ?_
  refine rk_putFW C K (n := 88) (fs' := [.int 0, .int 0, .int 0, hA G 88, hA G 89, hA G 90, hA G 91, hA G 92, hA G 93, hA G 94, .int 0, hA G 95, .int 0]) pf_RX7_46 (by decide) (show _ = Sum.inr (7, [.int 0, .int 0, .int 0, hA G 88, hA G 89, hA G 90, hA G 91, hA G 92, hA G 93, hA G 94, .int 0, .null, .int 0]) from rfl) rfl ⟨rfl, rfl⟩ (Nat.le_of_ble_eq_true rfl) dX7_init_85 rfl ?_
  refine rk_aload_n C (n := 89) (q := 0) dX7_init_88 rfl rfl rfl ?_
  refine rk_iconst C (n := 90) (v := 0) dX7_init_89 rfl (by decide) ?_
  refine rk_putW C (n := 93) (fs' := [.int 0, .int 0, .int 0, hA G 88, hA G 89, hA G 90, hA G 91, hA G 92, hA G 93, hA G 94, .int 0, hA G 95, .int 0]) pf_RX7_49 (by decide) (show _ = Sum.inr (7, [.int 0, .int 0, .int 0, hA G 88, hA G 89, hA G 90, hA G 91, hA G 92, hA G 93, hA G 94, .int 0, hA G 95, .int 0]) from rfl) rfl ⟨rfl, rfl⟩ (Nat.le_of_ble_eq_true rfl) dX7_init_90 rfl ?_
  exact rk_ret C K rfl rfl rfl dX7_init_93
