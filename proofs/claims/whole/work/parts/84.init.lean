/-! ===== constructors: the class, the reference ===== -/
def K_X2i_6 (G : hG) (f : kM) : kM := (kU (kU (kU f 6 (.inr (2, [.int 0, .int 0, .int 0, .int 0, .int 0, .int 0, .int 0, .int 0, .null]))) 7 (.inl (G.2.2.1 1, 100, .inl (fun _ => 0)))) 6 (.inr (2, [.int 0, .int 0, .int 0, .int 0, .int 0, .int 0, .int 0, .int 0, hA G 7])))
set_option maxRecDepth 100000 in
set_option maxHeartbeats 4000000 in
theorem k_X2i_6 (G : hG) (f : kM) : Mk G 1 1 100 yX2_init cX2_init 1 [hA G 6] 7 (kU f 6 (.inr (2, [.int 0, .int 0, .int 0, .int 0, .int 0, .int 0, .int 0, .int 0, .null]))) (K_X2i_6 G f) := by
  refine mk_of (by decide +kernel) rfl (Nat.le_of_ble_eq_true rfl) (fun X C K => ?_)
  have C : Ck G X 7 1 100 1 cX2_init 1 RX2 := C
  unfold K_X2i_6 at K
  show Rk G X 7 0 [(0, hA G 6)] [] (kU f 6 (.inr (2, [.int 0, .int 0, .int 0, .int 0, .int 0, .int 0, .int 0, .int 0, .null]))) 0 0
  refine rk_aload_n C (n := 1) (q := 0) dX2_init_0 rfl rfl rfl ?_
  refine rk_objInit C (n := 4) oi_RX2_3 wo_1 wo_2 (by decide) (Nat.le_of_ble_eq_true rfl) dX2_init_1 rfl ?_
  refine rk_aload_n C (n := 5) (q := 0) dX2_init_4 rfl rfl rfl ?_
  refine rk_bipush C (n := 7) (v := 100) dX2_init_5 rfl (by decide) ?_
  refine rk_newaW C (n := 9) (tk := 1) (N := 100) (q := 7) (cs' := 1) (sl' := 100) (a0 := (100, .inl (fun _ => 0))) wa_boolean rfl rfl (fun _ _ h => h) (fun _ => rfl) (by decide) (by decide) (by decide) (by decide) (by decide) dX2_init_7 rfl rfl rfl rfl ?_
  refine rk_putFW C K (n := 12) (fs' := [.int 0, .int 0, .int 0, .int 0, .int 0, .int 0, .int 0, .int 0, hA G 7]) pf_RX2_9 (by decide) (show _ = Sum.inr (2, [.int 0, .int 0, .int 0, .int 0, .int 0, .int 0, .int 0, .int 0, .null]) from rfl) rfl ⟨rfl, rfl⟩ (by decide) dX2_init_9 rfl ?_
  exact rk_ret C K rfl rfl rfl dX2_init_12
def K_X2i_8 (G : hG) (f : kM) : kM := (kU (kU (kU f 8 (.inr (2, [.int 0, .int 0, .int 0, .int 0, .int 0, .int 0, .int 0, .int 0, .null]))) 9 (.inl (G.2.2.1 1, 100, .inl (fun _ => 0)))) 8 (.inr (2, [.int 0, .int 0, .int 0, .int 0, .int 0, .int 0, .int 0, .int 0, hA G 9])))
set_option maxRecDepth 100000 in
set_option maxHeartbeats 4000000 in
theorem k_X2i_8 (G : hG) (f : kM) : Mk G 1 1 100 yX2_init cX2_init 1 [hA G 8] 9 (kU f 8 (.inr (2, [.int 0, .int 0, .int 0, .int 0, .int 0, .int 0, .int 0, .int 0, .null]))) (K_X2i_8 G f) := by
  refine mk_of (by decide +kernel) rfl (Nat.le_of_ble_eq_true rfl) (fun X C K => ?_)
  have C : Ck G X 9 1 100 1 cX2_init 1 RX2 := C
  unfold K_X2i_8 at K
  show Rk G X 9 0 [(0, hA G 8)] [] (kU f 8 (.inr (2, [.int 0, .int 0, .int 0, .int 0, .int 0, .int 0, .int 0, .int 0, .null]))) 0 0
  refine rk_aload_n C (n := 1) (q := 0) dX2_init_0 rfl rfl rfl ?_
  refine rk_objInit C (n := 4) oi_RX2_3 wo_1 wo_2 (by decide) (Nat.le_of_ble_eq_true rfl) dX2_init_1 rfl ?_
  refine rk_aload_n C (n := 5) (q := 0) dX2_init_4 rfl rfl rfl ?_
  refine rk_bipush C (n := 7) (v := 100) dX2_init_5 rfl (by decide) ?_
  refine rk_newaW C (n := 9) (tk := 1) (N := 100) (q := 9) (cs' := 1) (sl' := 100) (a0 := (100, .inl (fun _ => 0))) wa_boolean rfl rfl (fun _ _ h => h) (fun _ => rfl) (by decide) (by decide) (by decide) (by decide) (by decide) dX2_init_7 rfl rfl rfl rfl ?_
  refine rk_putFW C K (n := 12) (fs' := [.int 0, .int 0, .int 0, .int 0, .int 0, .int 0, .int 0, .int 0, hA G 9]) pf_RX2_9 (by decide) (show _ = Sum.inr (2, [.int 0, .int 0, .int 0, .int 0, .int 0, .int 0, .int 0, .int 0, .null]) from rfl) rfl ⟨rfl, rfl⟩ (by decide) dX2_init_9 rfl ?_
  exact rk_ret C K rfl rfl rfl dX2_init_12
