/-! ===== value, in the class ===== -/
theorem dX10_value_0 : decode cX10_value 0 = .ok (.aload_n 0, 1) := by decide +kernel
theorem dX10_value_1 : decode cX10_value 1 = .ok (.getfield 19, 3) := by decide +kernel
theorem dX10_value_4 : decode cX10_value 4 = .ok (.iload_n 1, 1) := by decide +kernel
theorem dX10_value_5 : decode cX10_value 5 = .ok (.invokevirtual 214, 3) := by decide +kernel
theorem dX10_value_8 : decode cX10_value 8 = .ok (.ifCond .eq 24, 3) := by decide +kernel
theorem dX10_value_11 : decode cX10_value 11 = .ok (.aload_n 0, 1) := by decide +kernel
theorem dX10_value_12 : decode cX10_value 12 = .ok (.getfield 12, 3) := by decide +kernel
theorem dX10_value_15 : decode cX10_value 15 = .ok (.iload_n 2, 1) := by decide +kernel
theorem dX10_value_16 : decode cX10_value 16 = .ok (.invokevirtual 116, 3) := by decide +kernel
theorem dX10_value_19 : decode cX10_value 19 = .ok (.ifCond .eq 13, 3) := by decide +kernel
theorem dX10_value_22 : decode cX10_value 22 = .ok (.aload_n 0, 1) := by decide +kernel
theorem dX10_value_23 : decode cX10_value 23 = .ok (.getfield 26, 3) := by decide +kernel
theorem dX10_value_26 : decode cX10_value 26 = .ok (.getfield 200, 3) := by decide +kernel
theorem dX10_value_29 : decode cX10_value 29 = .ok (.ifCond .ne 11, 3) := by decide +kernel
theorem dX10_value_32 : decode cX10_value 32 = .ok (.new 215, 3) := by decide +kernel
theorem dX10_value_35 : decode cX10_value 35 = .ok (.dup, 1) := by decide +kernel
theorem dX10_value_36 : decode cX10_value 36 = .ok (.invokespecial 217, 3) := by decide +kernel
theorem dX10_value_39 : decode cX10_value 39 = .ok (.athrow, 1) := by decide +kernel
theorem dX10_value_40 : decode cX10_value 40 = .ok (.aload_n 0, 1) := by decide +kernel
theorem dX10_value_41 : decode cX10_value 41 = .ok (.getfield 42, 3) := by decide +kernel
theorem dX10_value_44 : decode cX10_value 44 = .ok (.aload_n 0, 1) := by decide +kernel
theorem dX10_value_45 : decode cX10_value 45 = .ok (.getfield 65, 3) := by decide +kernel
theorem dX10_value_48 : decode cX10_value 48 = .ok (.iload_n 1, 1) := by decide +kernel
theorem dX10_value_49 : decode cX10_value 49 = .ok (.iload_n 2, 1) := by decide +kernel
theorem dX10_value_50 : decode cX10_value 50 = .ok (.aload_n 0, 1) := by decide +kernel
theorem dX10_value_51 : decode cX10_value 51 = .ok (.getfield 65, 3) := by decide +kernel
theorem dX10_value_54 : decode cX10_value 54 = .ok (.getfield 218, 3) := by decide +kernel
theorem dX10_value_57 : decode cX10_value 57 = .ok (.iconst 1, 1) := by decide +kernel
theorem dX10_value_58 : decode cX10_value 58 = .ok (.iadd, 1) := by decide +kernel
theorem dX10_value_59 : decode cX10_value 59 = .ok (.invokevirtual 221, 3) := by decide +kernel
theorem dX10_value_62 : decode cX10_value 62 = .ok (.ireturn, 1) := by decide +kernel
theorem fl_RX10_200 : hFl RX10 200 5 1 := ⟨RX5, TX5, 4, rfl, inB5, by decide, tb_in (by decide +kernel) (by decide +kernel)⟩
theorem mw_RX10_221 : hCV RX10 221 RX8 yX8_valueFor cX8_valueFor 7 (some .int) 4 := ⟨tb_in (by decide +kernel) (by decide +kernel), tb_in (by decide +kernel) (by decide +kernel), tb_in (by decide +kernel) (by decide +kernel), tb_in (by decide +kernel) (by decide +kernel), tb_in (by decide +kernel) (by decide +kernel), by decide +kernel⟩
section RB2
variable {α : Type} {vl : α → Option Value} {G : hG} {X : hX} {d : Nat} {cc : ByteArray} {nL : Nat} {own : String} {ret : Option FieldType} {pc n : Nat} {lv : List (Nat × Value)} {st : List Value} {m : hM} {E : Option (α × hM)}
theorem rb_callVi (C : Cx G X d cc nL own ret) {idx k ci d' maxL nA : Nat} {y : MethodName} {bytes : ByteArray} {ret' : Option FieldType} {Cn : String} {T : u_T} {N : Nat} {ks : List hKd} {As st0 : List Value} {E1 : Option (Int32 × hM)} {r : Int32} {m1 : hM} (hMt : Mt vI G d' y bytes maxL ret' (hA G k :: As) m E1) (hE1 : E1 = some (r, m1)) (hw : hCV own idx Cn y bytes maxL ret' nA) (hy : LY[k]? = some (.inl (ci, ks))) (hc : vwCl[ci]? = some (Cn, T, N)) (hdd : d' + 1 ≤ d ∧ maxL ≤ 41) (hAs : As.length = nA) (hsum : (st.map fun v => v.category).sum ≤ 8) (hst : st0 = As.reverse ++ hA G k :: st) (hd : decode cc pc = .ok (.invokevirtual idx, 3)) (hn : pc + 3 = n) (kk : Rf vl G X n lv (.int r :: st) m1 E) : Rf vl G X pc lv st0 m E := by
  have h := rf_callVi (vl := vl) C (F := fun b m2 => @ite _ (b = r ∧ m2 = m1) (Classical.propDecidable _) E none) hMt hw hy hc hdd hAs hsum hst hd hn (fun b m2 => by
    by_cases q : b = r ∧ m2 = m1
    · rw [if_pos q, q.1, q.2]; exact kk
    · rw [if_neg q]; exact rf_none)
  rw [hE1] at h
  exact rf_eq (by show E = @ite _ (r = r ∧ m1 = m1) (Classical.propDecidable _) E none; rw [if_pos ⟨rfl, rfl⟩]) h
theorem rb_eqT (C : Cx G X d cc nL own ret) {x : Int32} {off : Int} (h : x = 0) (hd : decode cc pc = .ok (.ifCond .eq off, 3)) (ht : (pc : Int) + off = (n : Int)) (k : Rf vl G X n lv st m E) : Rf vl G X pc lv (.int x :: st) m E := by
  have z := rf_if_eq (vl := vl) (X := X) (x := x) (lv := lv) (st := st) (m := m) (E1 := E) (E2 := none) (hdec := inferInstance) C hd ht rfl (fun _ => k) (fun q => absurd h q)
  exact rf_eq (by rw [if_pos h]) z
theorem rb_eqF (C : Cx G X d cc nL own ret) {x : Int32} {off : Int} {tgt : Nat} (h : ¬ x = 0) (hd : decode cc pc = .ok (.ifCond .eq off, 3)) (ht : (pc : Int) + off = (tgt : Int)) (hn : pc + 3 = n) (k : Rf vl G X n lv st m E) : Rf vl G X pc lv (.int x :: st) m E := by
  have z := rf_if_eq (vl := vl) (X := X) (x := x) (lv := lv) (st := st) (m := m) (E1 := none) (E2 := E) (hdec := inferInstance) C hd ht hn (fun q => absurd q h) (fun _ => k)
  exact rf_eq (by rw [if_neg h]) z
theorem rb_neT (C : Cx G X d cc nL own ret) {x : Int32} {off : Int} (h : ¬ x = 0) (hd : decode cc pc = .ok (.ifCond .ne off, 3)) (ht : (pc : Int) + off = (n : Int)) (k : Rf vl G X n lv st m E) : Rf vl G X pc lv (.int x :: st) m E := by
  have z := rf_if_ne (vl := vl) (X := X) (x := x) (lv := lv) (st := st) (m := m) (E1 := E) (E2 := none) (hdec := inferInstance) C hd ht rfl (fun _ => k) (fun q => absurd h q)
  exact rf_eq (by rw [if_pos h]) z
theorem rb_neF (C : Cx G X d cc nL own ret) {x : Int32} {off : Int} {tgt : Nat} (h : x = 0) (hd : decode cc pc = .ok (.ifCond .ne off, 3)) (ht : (pc : Int) + off = (tgt : Int)) (hn : pc + 3 = n) (k : Rf vl G X n lv st m E) : Rf vl G X pc lv (.int x :: st) m E := by
  have z := rf_if_ne (vl := vl) (X := X) (x := x) (lv := lv) (st := st) (m := m) (E1 := none) (E2 := E) (hdec := inferInstance) C hd ht hn (fun q => absurd h q) (fun _ => k)
  exact rf_eq (by rw [if_neg (fun q => q h)]) z
end RB2
theorem c_valueN (G : hG) (m : hM) {n c : Nat} (hn : n ≤ 6) (hc : c ≤ 8) (h1 : gI m 1 4 = nI n) (h2 : gI m 18 6 = nI c) (x1 x2 : Int32) (h : ¬ (hIn x1 c ∧ hIn x2 n ∧ gI m 25 1 ≠ 0)) : MtX G 6 yX10_value cX10_value 3 (some .int) [hA G 0, .int x1, .int x2] m := by
  refine mtX_of (by decide +kernel) (Nat.le_of_ble_eq_true rfl) (fun X C K => ?_)
  have C : Cx G X 6 cX10_value 3 RX10 (some .int) := C
  show Rf vU G X 0 [(0, hA G 0), (1, .int x1), (2, .int x2)] [] m _
  have fin : Rf vU G X 32 [(0, hA G 0), (1, .int x1), (2, .int x2)] [] m (some ((), m)) := rf_throw C K (by decide) dX10_value_32 dX10_value_35 dX10_value_36 dX10_value_39
  refine rf_aload_n C (n := 1) (q := 0) dX10_value_0 rfl rfl rfl ?_
  refine rf_getS C (n := 4) fl_RX10_19 ly_0 rfl dX10_value_1 rfl ?_
  refine rf_iload_n C (n := 5) (q := 1) (x := x1) dX10_value_4 rfl rfl rfl ?_
  refine rb_callVi C (n := 8) (c_X4_has G 4000 x1 m) (cx_hasP 4000 x1 m (by omega) h2) mw_RX10_214 ly_18 rfl ⟨by decide, by decide⟩ rfl (Nat.le_of_ble_eq_true rfl) rfl dX10_value_5 rfl ?_
  by_cases c1 : hIn x1 c
  rotate_left
  · exact rb_eqT C (n := 32) (by rw [if_neg c1]) dX10_value_8 (by decide) fin
  refine rb_eqF C (n := 11) (tgt := 32) (by rw [if_pos c1]; decide) dX10_value_8 (by decide) rfl ?_
  refine rf_aload_n C (n := 12) (q := 0) dX10_value_11 rfl rfl rfl ?_
  refine rf_getS C (n := 15) fl_RX10_12 ly_0 rfl dX10_value_12 rfl ?_
  refine rf_iload_n C (n := 16) (q := 2) (x := x2) dX10_value_15 rfl rfl rfl ?_
  refine rb_callVi C (n := 19) (c_X0_has G 4000 x2 m) (cx_has 4000 x2 m (by omega) h1) mw_RX10_116 ly_1 rfl ⟨by decide, by decide⟩ rfl (Nat.le_of_ble_eq_true rfl) rfl dX10_value_16 rfl ?_
  by_cases c2 : hIn x2 n
  rotate_left
  · exact rb_eqT C (n := 32) (by rw [if_neg c2]) dX10_value_19 (by decide) fin
  refine rb_eqF C (n := 22) (tgt := 32) (by rw [if_pos c2]; decide) dX10_value_19 (by decide) rfl ?_
  refine rf_aload_n C (n := 23) (q := 0) dX10_value_22 rfl rfl rfl ?_
  refine rf_getS C (n := 26) fl_RX10_26 ly_0 rfl dX10_value_23 rfl ?_
  refine rf_getI C (n := 29) fl_RX10_200 ly_25 rfl dX10_value_26 rfl ?_
  refine rb_neF C (n := 32) (tgt := 40) ?_ dX10_value_29 (by decide) rfl fin
  by_cases c3 : gI m 25 1 = 0
  · exact c3
  · exact absurd ⟨c1, c2, c3⟩ h
theorem c_valueY (G : hG) (m : hM) {n c : Nat} (hn : n ≤ 6) (hc : c ≤ 8) (h1 : gI m 1 4 = nI n) (h2 : gI m 18 6 = nI c) (x1 x2 : Int32) (c1 : hIn x1 c) (c2 : hIn x2 n) (c3 : gI m 25 1 ≠ 0) : Mt vI G 5 yX10_value cX10_value 3 (some .int) [hA G 0, .int x1, .int x2] m (hBd (f_X8_valueFor 4000 46 x1 x2 (gI m 46 0 + 1) m) fun r m2 => some (r, m2)) := by
  refine mt_of (by decide +kernel) (Nat.le_of_ble_eq_true rfl) (fun X C K => ?_)
  have C : Cx G X 5 cX10_value 3 RX10 (some .int) := C
  show Rf vI G X 0 [(0, hA G 0), (1, .int x1), (2, .int x2)] [] m _
  refine rf_aload_n C (n := 1) (q := 0) dX10_value_0 rfl rfl rfl ?_
  refine rf_getS C (n := 4) fl_RX10_19 ly_0 rfl dX10_value_1 rfl ?_
  refine rf_iload_n C (n := 5) (q := 1) (x := x1) dX10_value_4 rfl rfl rfl ?_
  refine rb_callVi C (n := 8) (c_X4_has G 4000 x1 m) (cx_hasP 4000 x1 m (by omega) h2) mw_RX10_214 ly_18 rfl ⟨by decide, by decide⟩ rfl (Nat.le_of_ble_eq_true rfl) rfl dX10_value_5 rfl ?_
  refine rb_eqF C (n := 11) (tgt := 32) (by rw [if_pos c1]; decide) dX10_value_8 (by decide) rfl ?_
  refine rf_aload_n C (n := 12) (q := 0) dX10_value_11 rfl rfl rfl ?_
  refine rf_getS C (n := 15) fl_RX10_12 ly_0 rfl dX10_value_12 rfl ?_
  refine rf_iload_n C (n := 16) (q := 2) (x := x2) dX10_value_15 rfl rfl rfl ?_
  refine rb_callVi C (n := 19) (c_X0_has G 4000 x2 m) (cx_has 4000 x2 m (by omega) h1) mw_RX10_116 ly_1 rfl ⟨by decide, by decide⟩ rfl (Nat.le_of_ble_eq_true rfl) rfl dX10_value_16 rfl ?_
  refine rb_eqF C (n := 22) (tgt := 32) (by rw [if_pos c2]; decide) dX10_value_19 (by decide) rfl ?_
  refine rf_aload_n C (n := 23) (q := 0) dX10_value_22 rfl rfl rfl ?_
  refine rf_getS C (n := 26) fl_RX10_26 ly_0 rfl dX10_value_23 rfl ?_
  refine rf_getI C (n := 29) fl_RX10_200 ly_25 rfl dX10_value_26 rfl ?_
  refine rb_neT C (n := 40) c3 dX10_value_29 (by decide) ?_
  refine rf_aload_n C (n := 41) (q := 0) dX10_value_40 rfl rfl rfl ?_
  refine rf_getS C (n := 44) fl_RX10_42 ly_0 rfl dX10_value_41 rfl ?_
  refine rf_aload_n C (n := 45) (q := 0) dX10_value_44 rfl rfl rfl ?_
  refine rf_getS C (n := 48) fl_RX10_65 ly_0 rfl dX10_value_45 rfl ?_
  refine rf_iload_n C (n := 49) (q := 1) (x := x1) dX10_value_48 rfl rfl rfl ?_
  refine rf_iload_n C (n := 50) (q := 2) (x := x2) dX10_value_49 rfl rfl rfl ?_
  refine rf_aload_n C (n := 51) (q := 0) dX10_value_50 rfl rfl rfl ?_
  refine rf_getS C (n := 54) fl_RX10_65 ly_0 rfl dX10_value_51 rfl ?_
  refine rf_getI C (n := 57) fl_RX10_218 ly_46 rfl dX10_value_54 rfl ?_
  refine rf_iconst C (n := 58) (v := 1) dX10_value_57 rfl (by decide) ?_
  refine rf_iadd C (n := 59) dX10_value_58 rfl ?_
  refine rf_callVi C (n := 62) (c_X8_valueFor G 4000 46 x1 x2 _ m) mw_RX10_221 ly_32 rfl ⟨by decide, by decide⟩ rfl (Nat.le_of_ble_eq_true rfl) rfl dX10_value_59 rfl (fun r m2 => ?_)
  exact rf_iret C K dX10_value_62
