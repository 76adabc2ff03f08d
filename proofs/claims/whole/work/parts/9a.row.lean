/-! ===== row, in the class ===== -/
theorem dX10_row_0 : decode cX10_row 0 = .ok (.iload_n 1, 1) := by decide +kernel
theorem dX10_row_1 : decode cX10_row 1 = .ok (.ifCond .lt 14, 3) := by decide +kernel
theorem dX10_row_4 : decode cX10_row 4 = .ok (.iload_n 1, 1) := by decide +kernel
theorem dX10_row_5 : decode cX10_row 5 = .ok (.aload_n 0, 1) := by decide +kernel
theorem dX10_row_6 : decode cX10_row 6 = .ok (.getfield 83, 3) := by decide +kernel
theorem dX10_row_9 : decode cX10_row 9 = .ok (.getfield 406, 3) := by decide +kernel
theorem dX10_row_12 : decode cX10_row 12 = .ok (.if_icmp .lt 11, 3) := by decide +kernel
theorem dX10_row_15 : decode cX10_row 15 = .ok (.new 215, 3) := by decide +kernel
theorem dX10_row_18 : decode cX10_row 18 = .ok (.dup, 1) := by decide +kernel
theorem dX10_row_19 : decode cX10_row 19 = .ok (.invokespecial 217, 3) := by decide +kernel
theorem dX10_row_22 : decode cX10_row 22 = .ok (.athrow, 1) := by decide +kernel
theorem dX10_row_23 : decode cX10_row 23 = .ok (.aload_n 0, 1) := by decide +kernel
theorem dX10_row_24 : decode cX10_row 24 = .ok (.getfield 83, 3) := by decide +kernel
theorem dX10_row_27 : decode cX10_row 27 = .ok (.getfield 407, 3) := by decide +kernel
theorem dX10_row_30 : decode cX10_row 30 = .ok (.iload_n 1, 1) := by decide +kernel
theorem dX10_row_31 : decode cX10_row 31 = .ok (.laload, 1) := by decide +kernel
theorem dX10_row_32 : decode cX10_row 32 = .ok (.lreturn, 1) := by decide +kernel
theorem fl_RX10_407 : hFl RX10 407 1 0 := ⟨RX1, TX1, 2, rfl, inB1, by decide, (tb_2 167 (by decide +kernel) (by decide +kernel))⟩
section RB
variable {α : Type} {vl : α → Option Value} {G : hG} {X : hX} {d : Nat} {cc : ByteArray} {nL : Nat} {own : String} {ret : Option FieldType} {pc n : Nat} {lv : List (Nat × Value)} {st : List Value} {m : hM} {E : Option (α × hM)}
theorem rb_ltT (C : Cx G X d cc nL own ret) {x : Int32} {off : Int} (h : x < 0) (hd : decode cc pc = .ok (.ifCond .lt off, 3)) (ht : (pc : Int) + off = (n : Int)) (k : Rf vl G X n lv st m E) : Rf vl G X pc lv (.int x :: st) m E := by
  have z := rf_if_lt (vl := vl) (X := X) (x := x) (lv := lv) (st := st) (m := m) (E1 := E) (E2 := none) (hdec := inferInstance) C hd ht rfl (fun _ => k) (fun q => absurd h q)
  exact rf_eq (by rw [if_pos h]) z
theorem rb_ltF (C : Cx G X d cc nL own ret) {x : Int32} {off : Int} {tgt : Nat} (h : ¬ x < 0) (hd : decode cc pc = .ok (.ifCond .lt off, 3)) (ht : (pc : Int) + off = (tgt : Int)) (hn : pc + 3 = n) (k : Rf vl G X n lv st m E) : Rf vl G X pc lv (.int x :: st) m E := by
  have z := rf_if_lt (vl := vl) (X := X) (x := x) (lv := lv) (st := st) (m := m) (E1 := none) (E2 := E) (hdec := inferInstance) C hd ht hn (fun q => absurd q h) (fun _ => k)
  exact rf_eq (by rw [if_neg h]) z
theorem rb_clT (C : Cx G X d cc nL own ret) {x y : Int32} {off : Int} (h : x < y) (hd : decode cc pc = .ok (.if_icmp .lt off, 3)) (ht : (pc : Int) + off = (n : Int)) (k : Rf vl G X n lv st m E) : Rf vl G X pc lv (.int y :: .int x :: st) m E := by
  have z := rf_icmp_lt (vl := vl) (X := X) (x := x) (y := y) (lv := lv) (st := st) (m := m) (E1 := E) (E2 := none) (hdec := inferInstance) C hd ht rfl (fun _ => k) (fun q => absurd h q)
  exact rf_eq (by rw [if_pos h]) z
theorem rb_clF (C : Cx G X d cc nL own ret) {x y : Int32} {off : Int} {tgt : Nat} (h : ¬ x < y) (hd : decode cc pc = .ok (.if_icmp .lt off, 3)) (ht : (pc : Int) + off = (tgt : Int)) (hn : pc + 3 = n) (k : Rf vl G X n lv st m E) : Rf vl G X pc lv (.int y :: .int x :: st) m E := by
  have z := rf_icmp_lt (vl := vl) (X := X) (x := x) (y := y) (lv := lv) (st := st) (m := m) (E1 := none) (E2 := E) (hdec := inferInstance) C hd ht hn (fun q => absurd q h) (fun _ => k)
  exact rf_eq (by rw [if_neg h]) z
end RB
theorem c_rowN (G : hG) (m : hM) {L : Nat} (hL : L ≤ 11) (h1 : gI m 66 1 = nI L) (x1 : Int32) (h : ¬ hIn x1 L) : MtX G 6 yX10_row cX10_row 2 (some .long) [hA G 0, .int x1] m := by
  refine mtX_of (by decide +kernel) (Nat.le_of_ble_eq_true rfl) (fun X C K => ?_)
  have C : Cx G X 6 cX10_row 2 RX10 (some .long) := C
  show Rf vU G X 0 [(0, hA G 0), (1, .int x1)] [] m _
  have e0 : (0 : Int32).toInt = 0 := rfl
  have fin : Rf vU G X 15 [(0, hA G 0), (1, .int x1)] [] m (some ((), m)) := rf_throw C K (by decide) dX10_row_15 dX10_row_18 dX10_row_19 dX10_row_22
  refine rf_iload_n C (n := 1) (q := 1) (x := x1) dX10_row_0 rfl rfl rfl ?_
  by_cases c1 : x1 < 0
  · exact rb_ltT C (n := 15) c1 dX10_row_1 (by decide) fin
  · refine rb_ltF C (n := 4) (tgt := 15) c1 dX10_row_1 (by decide) rfl ?_
    refine rf_iload_n C (n := 5) (q := 1) (x := x1) dX10_row_4 rfl rfl rfl ?_
    refine rf_aload_n C (n := 6) (q := 0) dX10_row_5 rfl rfl rfl ?_
    refine rf_getS C (n := 9) fl_RX10_83 ly_0 rfl dX10_row_6 rfl ?_
    refine rf_getI C (n := 12) fl_RX10_406 ly_66 rfl dX10_row_9 rfl ?_
    rw [h1]
    refine rb_clF C (n := 15) (tgt := 23) (fun z => h ?_) dX10_row_12 (by decide) rfl fin
    rw [i_lt, nI_toInt (by omega)] at z
    rw [i_lt, e0] at c1
    exact ⟨by omega, z⟩
theorem c_rowY (G : hG) (m : hM) {L : Nat} (hL : L ≤ 11) (h1 : gI m 66 1 = nI L) (x1 : Int32) (h : hIn x1 L) : Mt vJ G 1 yX10_row cX10_row 2 (some .long) [hA G 0, .int x1] m (some (gL m 67 x1.toNatClampNeg, m)) := by
  refine mt_of (by decide +kernel) (Nat.le_of_ble_eq_true rfl) (fun X C K => ?_)
  have C : Cx G X 1 cX10_row 2 RX10 (some .long) := C
  show Rf vJ G X 0 [(0, hA G 0), (1, .int x1)] [] m _
  have e0 : (0 : Int32).toInt = 0 := rfl
  refine rf_iload_n C (n := 1) (q := 1) (x := x1) dX10_row_0 rfl rfl rfl ?_
  refine rb_ltF C (n := 4) (tgt := 15) (fun z => ?_) dX10_row_1 (by decide) rfl ?_
  · rw [i_lt, e0] at z
    have := h.1
    omega
  refine rf_iload_n C (n := 5) (q := 1) (x := x1) dX10_row_4 rfl rfl rfl ?_
  refine rf_aload_n C (n := 6) (q := 0) dX10_row_5 rfl rfl rfl ?_
  refine rf_getS C (n := 9) fl_RX10_83 ly_0 rfl dX10_row_6 rfl ?_
  refine rf_getI C (n := 12) fl_RX10_406 ly_66 rfl dX10_row_9 rfl ?_
  rw [h1]
  refine rb_clT C (n := 23) ?_ dX10_row_12 (by decide) ?_
  · rw [i_lt, nI_toInt (by omega)]; exact h.2
  refine rf_aload_n C (n := 24) (q := 0) dX10_row_23 rfl rfl rfl ?_
  refine rf_getS C (n := 27) fl_RX10_83 ly_0 rfl dX10_row_24 rfl ?_
  refine rf_getS C (n := 30) fl_RX10_407 ly_66 rfl dX10_row_27 rfl ?_
  refine rf_iload_n C (n := 31) (q := 1) (x := x1) dX10_row_30 rfl rfl rfl ?_
  refine rf_lald C (n := 32) ly_67 ⟨h.1, by have := h.2; omega⟩ rfl dX10_row_31 rfl ?_
  exact rf_lret C K dX10_row_32
