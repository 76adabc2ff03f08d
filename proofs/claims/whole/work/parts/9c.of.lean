/-! ===== of, in the class ===== -/
theorem dX10_of_0 : decode cX10_of 0 = .ok (.aload_n 0, 1) := by decide +kernel
theorem dX10_of_1 : decode cX10_of 1 = .ok (.getfield 19, 3) := by decide +kernel
theorem dX10_of_4 : decode cX10_of 4 = .ok (.iload_n 1, 1) := by decide +kernel
theorem dX10_of_5 : decode cX10_of 5 = .ok (.invokevirtual 214, 3) := by decide +kernel
theorem dX10_of_8 : decode cX10_of 8 = .ok (.ifCond .ne 11, 3) := by decide +kernel
theorem dX10_of_11 : decode cX10_of 11 = .ok (.new 215, 3) := by decide +kernel
theorem dX10_of_14 : decode cX10_of 14 = .ok (.dup, 1) := by decide +kernel
theorem dX10_of_15 : decode cX10_of 15 = .ok (.invokespecial 217, 3) := by decide +kernel
theorem dX10_of_18 : decode cX10_of 18 = .ok (.athrow, 1) := by decide +kernel
theorem dX10_of_19 : decode cX10_of 19 = .ok (.iload_n 2, 1) := by decide +kernel
theorem dX10_of_20 : decode cX10_of 20 = .ok (.tableswitch 150 0 8 #[52, 62, 72, 82, 94, 104, 114, 124, 134], 52) := by decide +kernel
theorem dX10_of_72 : decode cX10_of 72 = .ok (.aload_n 0, 1) := by decide +kernel
theorem dX10_of_73 : decode cX10_of 73 = .ok (.getfield 65, 3) := by decide +kernel
theorem dX10_of_76 : decode cX10_of 76 = .ok (.getfield 232, 3) := by decide +kernel
theorem dX10_of_79 : decode cX10_of 79 = .ok (.iload_n 1, 1) := by decide +kernel
theorem dX10_of_80 : decode cX10_of 80 = .ok (.iaload, 1) := by decide +kernel
theorem dX10_of_81 : decode cX10_of 81 = .ok (.ireturn, 1) := by decide +kernel
theorem dX10_of_82 : decode cX10_of 82 = .ok (.aload_n 0, 1) := by decide +kernel
theorem dX10_of_83 : decode cX10_of 83 = .ok (.getfield 65, 3) := by decide +kernel
theorem dX10_of_86 : decode cX10_of 86 = .ok (.getfield 235, 3) := by decide +kernel
theorem dX10_of_89 : decode cX10_of 89 = .ok (.iload_n 1, 1) := by decide +kernel
theorem dX10_of_90 : decode cX10_of 90 = .ok (.iaload, 1) := by decide +kernel
theorem dX10_of_91 : decode cX10_of 91 = .ok (.ireturn, 1) := by decide +kernel
theorem dX10_of_92 : decode cX10_of 92 = .ok (.aload_n 0, 1) := by decide +kernel
theorem dX10_of_93 : decode cX10_of 93 = .ok (.getfield 65, 3) := by decide +kernel
theorem dX10_of_96 : decode cX10_of 96 = .ok (.getfield 238, 3) := by decide +kernel
theorem dX10_of_99 : decode cX10_of 99 = .ok (.iload_n 1, 1) := by decide +kernel
theorem dX10_of_100 : decode cX10_of 100 = .ok (.iaload, 1) := by decide +kernel
theorem dX10_of_101 : decode cX10_of 101 = .ok (.ireturn, 1) := by decide +kernel
theorem dX10_of_102 : decode cX10_of 102 = .ok (.aload_n 0, 1) := by decide +kernel
theorem dX10_of_103 : decode cX10_of 103 = .ok (.getfield 65, 3) := by decide +kernel
theorem dX10_of_106 : decode cX10_of 106 = .ok (.getfield 241, 3) := by decide +kernel
theorem dX10_of_109 : decode cX10_of 109 = .ok (.iload_n 1, 1) := by decide +kernel
theorem dX10_of_110 : decode cX10_of 110 = .ok (.ishr, 1) := by decide +kernel
theorem dX10_of_111 : decode cX10_of 111 = .ok (.iconst 1, 1) := by decide +kernel
theorem dX10_of_112 : decode cX10_of 112 = .ok (.iand, 1) := by decide +kernel
theorem dX10_of_113 : decode cX10_of 113 = .ok (.ireturn, 1) := by decide +kernel
theorem dX10_of_114 : decode cX10_of 114 = .ok (.aload_n 0, 1) := by decide +kernel
theorem dX10_of_115 : decode cX10_of 115 = .ok (.getfield 65, 3) := by decide +kernel
theorem dX10_of_118 : decode cX10_of 118 = .ok (.getfield 244, 3) := by decide +kernel
theorem dX10_of_121 : decode cX10_of 121 = .ok (.iload_n 1, 1) := by decide +kernel
theorem dX10_of_122 : decode cX10_of 122 = .ok (.iaload, 1) := by decide +kernel
theorem dX10_of_123 : decode cX10_of 123 = .ok (.ireturn, 1) := by decide +kernel
theorem dX10_of_124 : decode cX10_of 124 = .ok (.aload_n 0, 1) := by decide +kernel
theorem dX10_of_125 : decode cX10_of 125 = .ok (.getfield 65, 3) := by decide +kernel
theorem dX10_of_128 : decode cX10_of 128 = .ok (.getfield 247, 3) := by decide +kernel
theorem dX10_of_131 : decode cX10_of 131 = .ok (.iload_n 1, 1) := by decide +kernel
theorem dX10_of_132 : decode cX10_of 132 = .ok (.iaload, 1) := by decide +kernel
theorem dX10_of_133 : decode cX10_of 133 = .ok (.ireturn, 1) := by decide +kernel
theorem dX10_of_134 : decode cX10_of 134 = .ok (.aload_n 0, 1) := by decide +kernel
theorem dX10_of_135 : decode cX10_of 135 = .ok (.getfield 65, 3) := by decide +kernel
theorem dX10_of_138 : decode cX10_of 138 = .ok (.getfield 250, 3) := by decide +kernel
theorem dX10_of_141 : decode cX10_of 141 = .ok (.iload_n 1, 1) := by decide +kernel
theorem dX10_of_142 : decode cX10_of 142 = .ok (.iaload, 1) := by decide +kernel
theorem dX10_of_143 : decode cX10_of 143 = .ok (.ireturn, 1) := by decide +kernel
theorem dX10_of_144 : decode cX10_of 144 = .ok (.aload_n 0, 1) := by decide +kernel
theorem dX10_of_145 : decode cX10_of 145 = .ok (.getfield 65, 3) := by decide +kernel
theorem dX10_of_148 : decode cX10_of 148 = .ok (.getfield 253, 3) := by decide +kernel
theorem dX10_of_151 : decode cX10_of 151 = .ok (.iload_n 1, 1) := by decide +kernel
theorem dX10_of_152 : decode cX10_of 152 = .ok (.iaload, 1) := by decide +kernel
theorem dX10_of_153 : decode cX10_of 153 = .ok (.ireturn, 1) := by decide +kernel
theorem dX10_of_154 : decode cX10_of 154 = .ok (.aload_n 0, 1) := by decide +kernel
theorem dX10_of_155 : decode cX10_of 155 = .ok (.getfield 42, 3) := by decide +kernel
theorem dX10_of_158 : decode cX10_of 158 = .ok (.aload_n 0, 1) := by decide +kernel
theorem dX10_of_159 : decode cX10_of 159 = .ok (.getfield 65, 3) := by decide +kernel
theorem dX10_of_162 : decode cX10_of 162 = .ok (.invokevirtual 256, 3) := by decide +kernel
theorem dX10_of_165 : decode cX10_of 165 = .ok (.iload_n 1, 1) := by decide +kernel
theorem dX10_of_166 : decode cX10_of 166 = .ok (.ishr, 1) := by decide +kernel
theorem dX10_of_167 : decode cX10_of 167 = .ok (.iconst 1, 1) := by decide +kernel
theorem dX10_of_168 : decode cX10_of 168 = .ok (.iand, 1) := by decide +kernel
theorem dX10_of_169 : decode cX10_of 169 = .ok (.ireturn, 1) := by decide +kernel
theorem dX10_of_170 : decode cX10_of 170 = .ok (.new 215, 3) := by decide +kernel
theorem dX10_of_173 : decode cX10_of 173 = .ok (.dup, 1) := by decide +kernel
theorem dX10_of_174 : decode cX10_of 174 = .ok (.invokespecial 217, 3) := by decide +kernel
theorem dX10_of_177 : decode cX10_of 177 = .ok (.athrow, 1) := by decide +kernel
theorem fl_RX10_235 : hFl RX10 235 7 4 := ⟨RX7, TX7, 13, rfl, inB7, by decide, tb_in (by decide +kernel) (by decide +kernel)⟩
theorem fl_RX10_238 : hFl RX10 238 7 5 := ⟨RX7, TX7, 13, rfl, inB7, by decide, tb_in (by decide +kernel) (by decide +kernel)⟩
theorem fl_RX10_247 : hFl RX10 247 7 7 := ⟨RX7, TX7, 13, rfl, inB7, by decide, tb_in (by decide +kernel) (by decide +kernel)⟩
theorem fl_RX10_250 : hFl RX10 250 7 8 := ⟨RX7, TX7, 13, rfl, inB7, by decide, tb_in (by decide +kernel) (by decide +kernel)⟩
theorem fl_RX10_253 : hFl RX10 253 7 9 := ⟨RX7, TX7, 13, rfl, inB7, by decide, tb_in (by decide +kernel) (by decide +kernel)⟩
theorem c_ofN (G : hG) (m : hM) {c : Nat} (hc : c ≤ 8) (h2 : gI m 18 6 = nI c) (x1 x2 : Int32) (h : ¬ (hIn x1 c ∧ hIn x2 9)) : MtX G 6 yX10_of cX10_of 3 (some .int) [hA G 0, .int x1, .int x2] m := by
  refine mtX_of (by decide +kernel) (Nat.le_of_ble_eq_true rfl) (fun X C K => ?_)
  have C : Cx G X 6 cX10_of 3 RX10 (some .int) := C
  show Rf vU G X 0 [(0, hA G 0), (1, .int x1), (2, .int x2)] [] m _
  refine rf_aload_n C (n := 1) (q := 0) dX10_of_0 rfl rfl rfl ?_
  refine rf_getS C (n := 4) fl_RX10_19 ly_0 rfl dX10_of_1 rfl ?_
  refine rf_iload_n C (n := 5) (q := 1) (x := x1) dX10_of_4 rfl rfl rfl ?_
  refine rb_callVi C (n := 8) (c_X4_has G 4000 x1 m) (cx_hasP 4000 x1 m (by omega) h2) mw_RX10_214 ly_18 rfl ⟨by decide, by decide⟩ rfl (Nat.le_of_ble_eq_true rfl) rfl dX10_of_5 rfl ?_
  by_cases c1 : hIn x1 c
  rotate_left
  · exact rb_neF C (n := 11) (tgt := 19) (by rw [if_neg c1]) dX10_of_8 (by decide) rfl (rf_throw C K (by decide) dX10_of_11 dX10_of_14 dX10_of_15 dX10_of_18)
  refine rb_neT C (n := 19) (by rw [if_pos c1]; decide) dX10_of_8 (by decide) ?_
  refine rf_iload_n C (n := 20) (q := 2) (x := x2) dX10_of_19 rfl rfl rfl ?_
  refine rf_tabD C (n := 170) dX10_of_20 [0, 1, 2, 3, 4, 5, 6, 7, 8] (fun z hz e => h ⟨c1, ?_⟩) (by decide) (by decide) (by decide) (rf_throw C K (by decide) dX10_of_170 dX10_of_173 dX10_of_174 dX10_of_177)
  simp only [List.mem_cons, List.not_mem_nil, or_false] at hz
  rcases hz with rfl | rfl | rfl | rfl | rfl | rfl | rfl | rfl | rfl <;> rw [e] <;> decide
theorem c_ofY0 (G : hG) (m : hM) {c : Nat} (hc : c ≤ 8) (h2 : gI m 18 6 = nI c) (x1 x2 : Int32) (c1 : hIn x1 c) (c2 : x2 = 0) : Mt vI G 2 yX10_of cX10_of 3 (some .int) [hA G 0, .int x1, .int x2] m (some (gI m 47 x1.toNatClampNeg, m)) := by
  refine mt_of (by decide +kernel) (Nat.le_of_ble_eq_true rfl) (fun X C K => ?_)
  have C : Cx G X 2 cX10_of 3 RX10 (some .int) := C
  show Rf vI G X 0 [(0, hA G 0), (1, .int x1), (2, .int x2)] [] m _
  refine rf_aload_n C (n := 1) (q := 0) dX10_of_0 rfl rfl rfl ?_
  refine rf_getS C (n := 4) fl_RX10_19 ly_0 rfl dX10_of_1 rfl ?_
  refine rf_iload_n C (n := 5) (q := 1) (x := x1) dX10_of_4 rfl rfl rfl ?_
  refine rb_callVi C (n := 8) (c_X4_has G 4000 x1 m) (cx_hasP 4000 x1 m (by omega) h2) mw_RX10_214 ly_18 rfl ⟨by decide, by decide⟩ rfl (Nat.le_of_ble_eq_true rfl) rfl dX10_of_5 rfl ?_
  refine rb_neT C (n := 19) (by rw [if_pos c1]; decide) dX10_of_8 (by decide) ?_
  refine rf_iload_n C (n := 20) (q := 2) (x := x2) dX10_of_19 rfl rfl rfl ?_
  refine rf_tabIn C (n := 72) (off := 52) dX10_of_20 c2 (by decide) (by decide) (by decide) (by decide) ?_
  refine rf_aload_n C (n := 73) (q := 0) dX10_of_72 rfl rfl rfl ?_
  refine rf_getS C (n := 76) fl_RX10_65 ly_0 rfl dX10_of_73 rfl ?_
  refine rf_getS C (n := 79) fl_RX10_232 ly_46 rfl dX10_of_76 rfl ?_
  refine rf_iload_n C (n := 80) (q := 1) (x := x1) dX10_of_79 rfl rfl rfl ?_
  refine rf_iald C (n := 81) ly_47 ⟨c1.1, by have := c1.2; omega⟩ rfl dX10_of_80 rfl ?_
  exact rf_iret C K dX10_of_81
theorem c_ofY1 (G : hG) (m : hM) {c : Nat} (hc : c ≤ 8) (h2 : gI m 18 6 = nI c) (x1 x2 : Int32) (c1 : hIn x1 c) (c2 : x2 = 1) : Mt vI G 2 yX10_of cX10_of 3 (some .int) [hA G 0, .int x1, .int x2] m (some (gI m 48 x1.toNatClampNeg, m)) := by
  refine mt_of (by decide +kernel) (Nat.le_of_ble_eq_true rfl) (fun X C K => ?_)
  have C : Cx G X 2 cX10_of 3 RX10 (some .int) := C
  show Rf vI G X 0 [(0, hA G 0), (1, .int x1), (2, .int x2)] [] m _
  refine rf_aload_n C (n := 1) (q := 0) dX10_of_0 rfl rfl rfl ?_
  refine rf_getS C (n := 4) fl_RX10_19 ly_0 rfl dX10_of_1 rfl ?_
  refine rf_iload_n C (n := 5) (q := 1) (x := x1) dX10_of_4 rfl rfl rfl ?_
  refine rb_callVi C (n := 8) (c_X4_has G 4000 x1 m) (cx_hasP 4000 x1 m (by omega) h2) mw_RX10_214 ly_18 rfl ⟨by decide, by decide⟩ rfl (Nat.le_of_ble_eq_true rfl) rfl dX10_of_5 rfl ?_
  refine rb_neT C (n := 19) (by rw [if_pos c1]; decide) dX10_of_8 (by decide) ?_
  refine rf_iload_n C (n := 20) (q := 2) (x := x2) dX10_of_19 rfl rfl rfl ?_
  refine rf_tabIn C (n := 82) (off := 62) dX10_of_20 c2 (by decide) (by decide) (by decide) (by decide) ?_
  refine rf_aload_n C (n := 83) (q := 0) dX10_of_82 rfl rfl rfl ?_
  refine rf_getS C (n := 86) fl_RX10_65 ly_0 rfl dX10_of_83 rfl ?_
  refine rf_getS C (n := 89) fl_RX10_235 ly_46 rfl dX10_of_86 rfl ?_
  refine rf_iload_n C (n := 90) (q := 1) (x := x1) dX10_of_89 rfl rfl rfl ?_
  refine rf_iald C (n := 91) ly_48 ⟨c1.1, by have := c1.2; omega⟩ rfl dX10_of_90 rfl ?_
  exact rf_iret C K dX10_of_91
theorem c_ofY2 (G : hG) (m : hM) {c : Nat} (hc : c ≤ 8) (h2 : gI m 18 6 = nI c) (x1 x2 : Int32) (c1 : hIn x1 c) (c2 : x2 = 2) : Mt vI G 2 yX10_of cX10_of 3 (some .int) [hA G 0, .int x1, .int x2] m (some (gI m 49 x1.toNatClampNeg, m)) := by
  refine mt_of (by decide +kernel) (Nat.le_of_ble_eq_true rfl) (fun X C K => ?_)
  have C : Cx G X 2 cX10_of 3 RX10 (some .int) := C
  show Rf vI G X 0 [(0, hA G 0), (1, .int x1), (2, .int x2)] [] m _
  refine rf_aload_n C (n := 1) (q := 0) dX10_of_0 rfl rfl rfl ?_
  refine rf_getS C (n := 4) fl_RX10_19 ly_0 rfl dX10_of_1 rfl ?_
  refine rf_iload_n C (n := 5) (q := 1) (x := x1) dX10_of_4 rfl rfl rfl ?_
  refine rb_callVi C (n := 8) (c_X4_has G 4000 x1 m) (cx_hasP 4000 x1 m (by omega) h2) mw_RX10_214 ly_18 rfl ⟨by decide, by decide⟩ rfl (Nat.le_of_ble_eq_true rfl) rfl dX10_of_5 rfl ?_
  refine rb_neT C (n := 19) (by rw [if_pos c1]; decide) dX10_of_8 (by decide) ?_
  refine rf_iload_n C (n := 20) (q := 2) (x := x2) dX10_of_19 rfl rfl rfl ?_
  refine rf_tabIn C (n := 92) (off := 72) dX10_of_20 c2 (by decide) (by decide) (by decide) (by decide) ?_
  refine rf_aload_n C (n := 93) (q := 0) dX10_of_92 rfl rfl rfl ?_
  refine rf_getS C (n := 96) fl_RX10_65 ly_0 rfl dX10_of_93 rfl ?_
  refine rf_getS C (n := 99) fl_RX10_238 ly_46 rfl dX10_of_96 rfl ?_
  refine rf_iload_n C (n := 100) (q := 1) (x := x1) dX10_of_99 rfl rfl rfl ?_
  refine rf_iald C (n := 101) ly_49 ⟨c1.1, by have := c1.2; omega⟩ rfl dX10_of_100 rfl ?_
  exact rf_iret C K dX10_of_101
theorem c_ofY3 (G : hG) (m : hM) {c : Nat} (hc : c ≤ 8) (h2 : gI m 18 6 = nI c) (x1 x2 : Int32) (c1 : hIn x1 c) (c2 : x2 = 3) : Mt vI G 2 yX10_of cX10_of 3 (some .int) [hA G 0, .int x1, .int x2] m (some ((gI m 46 2 >>> (x1 &&& 31)) &&& 1, m)) := by
  refine mt_of (by decide +kernel) (Nat.le_of_ble_eq_true rfl) (fun X C K => ?_)
  have C : Cx G X 2 cX10_of 3 RX10 (some .int) := C
  show Rf vI G X 0 [(0, hA G 0), (1, .int x1), (2, .int x2)] [] m _
  refine rf_aload_n C (n := 1) (q := 0) dX10_of_0 rfl rfl rfl ?_
  refine rf_getS C (n := 4) fl_RX10_19 ly_0 rfl dX10_of_1 rfl ?_
  refine rf_iload_n C (n := 5) (q := 1) (x := x1) dX10_of_4 rfl rfl rfl ?_
  refine rb_callVi C (n := 8) (c_X4_has G 4000 x1 m) (cx_hasP 4000 x1 m (by omega) h2) mw_RX10_214 ly_18 rfl ⟨by decide, by decide⟩ rfl (Nat.le_of_ble_eq_true rfl) rfl dX10_of_5 rfl ?_
  refine rb_neT C (n := 19) (by rw [if_pos c1]; decide) dX10_of_8 (by decide) ?_
  refine rf_iload_n C (n := 20) (q := 2) (x := x2) dX10_of_19 rfl rfl rfl ?_
  refine rf_tabIn C (n := 102) (off := 82) dX10_of_20 c2 (by decide) (by decide) (by decide) (by decide) ?_
  refine rf_aload_n C (n := 103) (q := 0) dX10_of_102 rfl rfl rfl ?_
  refine rf_getS C (n := 106) fl_RX10_65 ly_0 rfl dX10_of_103 rfl ?_
  refine rf_getI C (n := 109) fl_RX10_241 ly_46 rfl dX10_of_106 rfl ?_
  refine rf_iload_n C (n := 110) (q := 1) (x := x1) dX10_of_109 rfl rfl rfl ?_
  refine rf_ishr C (n := 111) dX10_of_110 rfl ?_
  refine rf_iconst C (n := 112) (v := 1) dX10_of_111 rfl (by decide) ?_
  refine rf_iand C (n := 113) dX10_of_112 rfl ?_
  exact rf_iret C K dX10_of_113
theorem c_ofY4 (G : hG) (m : hM) {c : Nat} (hc : c ≤ 8) (h2 : gI m 18 6 = nI c) (x1 x2 : Int32) (c1 : hIn x1 c) (c2 : x2 = 4) : Mt vI G 2 yX10_of cX10_of 3 (some .int) [hA G 0, .int x1, .int x2] m (some (gI m 50 x1.toNatClampNeg, m)) := by
  refine mt_of (by decide +kernel) (Nat.le_of_ble_eq_true rfl) (fun X C K => ?_)
  have C : Cx G X 2 cX10_of 3 RX10 (some .int) := C
  show Rf vI G X 0 [(0, hA G 0), (1, .int x1), (2, .int x2)] [] m _
  refine rf_aload_n C (n := 1) (q := 0) dX10_of_0 rfl rfl rfl ?_
  refine rf_getS C (n := 4) fl_RX10_19 ly_0 rfl dX10_of_1 rfl ?_
  refine rf_iload_n C (n := 5) (q := 1) (x := x1) dX10_of_4 rfl rfl rfl ?_
  refine rb_callVi C (n := 8) (c_X4_has G 4000 x1 m) (cx_hasP 4000 x1 m (by omega) h2) mw_RX10_214 ly_18 rfl ⟨by decide, by decide⟩ rfl (Nat.le_of_ble_eq_true rfl) rfl dX10_of_5 rfl ?_
  refine rb_neT C (n := 19) (by rw [if_pos c1]; decide) dX10_of_8 (by decide) ?_
  refine rf_iload_n C (n := 20) (q := 2) (x := x2) dX10_of_19 rfl rfl rfl ?_
  refine rf_tabIn C (n := 114) (off := 94) dX10_of_20 c2 (by decide) (by decide) (by decide) (by decide) ?_
  refine rf_aload_n C (n := 115) (q := 0) dX10_of_114 rfl rfl rfl ?_
  refine rf_getS C (n := 118) fl_RX10_65 ly_0 rfl dX10_of_115 rfl ?_
  refine rf_getS C (n := 121) fl_RX10_244 ly_46 rfl dX10_of_118 rfl ?_
  refine rf_iload_n C (n := 122) (q := 1) (x := x1) dX10_of_121 rfl rfl rfl ?_
  refine rf_iald C (n := 123) ly_50 ⟨c1.1, by have := c1.2; omega⟩ rfl dX10_of_122 rfl ?_
  exact rf_iret C K dX10_of_123
theorem c_ofY5 (G : hG) (m : hM) {c : Nat} (hc : c ≤ 8) (h2 : gI m 18 6 = nI c) (x1 x2 : Int32) (c1 : hIn x1 c) (c2 : x2 = 5) : Mt vI G 2 yX10_of cX10_of 3 (some .int) [hA G 0, .int x1, .int x2] m (some (gI m 51 x1.toNatClampNeg, m)) := by
  refine mt_of (by decide +kernel) (Nat.le_of_ble_eq_true rfl) (fun X C K => ?_)
  have C : Cx G X 2 cX10_of 3 RX10 (some .int) := C
  show Rf vI G X 0 [(0, hA G 0), (1, .int x1), (2, .int x2)] [] m _
  refine rf_aload_n C (n := 1) (q := 0) dX10_of_0 rfl rfl rfl ?_
  refine rf_getS C (n := 4) fl_RX10_19 ly_0 rfl dX10_of_1 rfl ?_
  refine rf_iload_n C (n := 5) (q := 1) (x := x1) dX10_of_4 rfl rfl rfl ?_
  refine rb_callVi C (n := 8) (c_X4_has G 4000 x1 m) (cx_hasP 4000 x1 m (by omega) h2) mw_RX10_214 ly_18 rfl ⟨by decide, by decide⟩ rfl (Nat.le_of_ble_eq_true rfl) rfl dX10_of_5 rfl ?_
  refine rb_neT C (n := 19) (by rw [if_pos c1]; decide) dX10_of_8 (by decide) ?_
  refine rf_iload_n C (n := 20) (q := 2) (x := x2) dX10_of_19 rfl rfl rfl ?_
  refine rf_tabIn C (n := 124) (off := 104) dX10_of_20 c2 (by decide) (by decide) (by decide) (by decide) ?_
  refine rf_aload_n C (n := 125) (q := 0) dX10_of_124 rfl rfl rfl ?_
  refine rf_getS C (n := 128) fl_RX10_65 ly_0 rfl dX10_of_125 rfl ?_
  refine rf_getS C (n := 131) fl_RX10_247 ly_46 rfl dX10_of_128 rfl ?_
  refine rf_iload_n C (n := 132) (q := 1) (x := x1) dX10_of_131 rfl rfl rfl ?_
  refine rf_iald C (n := 133) ly_51 ⟨c1.1, by have := c1.2; omega⟩ rfl dX10_of_132 rfl ?_
  exact rf_iret C K dX10_of_133
theorem c_ofY6 (G : hG) (m : hM) {c : Nat} (hc : c ≤ 8) (h2 : gI m 18 6 = nI c) (x1 x2 : Int32) (c1 : hIn x1 c) (c2 : x2 = 6) : Mt vI G 2 yX10_of cX10_of 3 (some .int) [hA G 0, .int x1, .int x2] m (some (gI m 52 x1.toNatClampNeg, m)) := by
  refine mt_of (by decide +kernel) (Nat.le_of_ble_eq_true rfl) (fun X C K => ?_)
  have C : Cx G X 2 cX10_of 3 RX10 (some .int) := C
  show Rf vI G X 0 [(0, hA G 0), (1, .int x1), (2, .int x2)] [] m _
  refine rf_aload_n C (n := 1) (q := 0) dX10_of_0 rfl rfl rfl ?_
  refine rf_getS C (n := 4) fl_RX10_19 ly_0 rfl dX10_of_1 rfl ?_
  refine rf_iload_n C (n := 5) (q := 1) (x := x1) dX10_of_4 rfl rfl rfl ?_
  refine rb_callVi C (n := 8) (c_X4_has G 4000 x1 m) (cx_hasP 4000 x1 m (by omega) h2) mw_RX10_214 ly_18 rfl ⟨by decide, by decide⟩ rfl (Nat.le_of_ble_eq_true rfl) rfl dX10_of_5 rfl ?_
  refine rb_neT C (n := 19) (by rw [if_pos c1]; decide) dX10_of_8 (by decide) ?_
  refine rf_iload_n C (n := 20) (q := 2) (x := x2) dX10_of_19 rfl rfl rfl ?_
  refine rf_tabIn C (n := 134) (off := 114) dX10_of_20 c2 (by decide) (by decide) (by decide) (by decide) ?_
  refine rf_aload_n C (n := 135) (q := 0) dX10_of_134 rfl rfl rfl ?_
  refine rf_getS C (n := 138) fl_RX10_65 ly_0 rfl dX10_of_135 rfl ?_
  refine rf_getS C (n := 141) fl_RX10_250 ly_46 rfl dX10_of_138 rfl ?_
  refine rf_iload_n C (n := 142) (q := 1) (x := x1) dX10_of_141 rfl rfl rfl ?_
  refine rf_iald C (n := 143) ly_52 ⟨c1.1, by have := c1.2; omega⟩ rfl dX10_of_142 rfl ?_
  exact rf_iret C K dX10_of_143
theorem c_ofY7 (G : hG) (m : hM) {c : Nat} (hc : c ≤ 8) (h2 : gI m 18 6 = nI c) (x1 x2 : Int32) (c1 : hIn x1 c) (c2 : x2 = 7) : Mt vI G 2 yX10_of cX10_of 3 (some .int) [hA G 0, .int x1, .int x2] m (some (gI m 53 x1.toNatClampNeg, m)) := by
  refine mt_of (by decide +kernel) (Nat.le_of_ble_eq_true rfl) (fun X C K => ?_)
  have C : Cx G X 2 cX10_of 3 RX10 (some .int) := C
  show Rf vI G X 0 [(0, hA G 0), (1, .int x1), (2, .int x2)] [] m _
  refine rf_aload_n C (n := 1) (q := 0) dX10_of_0 rfl rfl rfl ?_
  refine rf_getS C (n := 4) fl_RX10_19 ly_0 rfl dX10_of_1 rfl ?_
  refine rf_iload_n C (n := 5) (q := 1) (x := x1) dX10_of_4 rfl rfl rfl ?_
  refine rb_callVi C (n := 8) (c_X4_has G 4000 x1 m) (cx_hasP 4000 x1 m (by omega) h2) mw_RX10_214 ly_18 rfl ⟨by decide, by decide⟩ rfl (Nat.le_of_ble_eq_true rfl) rfl dX10_of_5 rfl ?_
  refine rb_neT C (n := 19) (by rw [if_pos c1]; decide) dX10_of_8 (by decide) ?_
  refine rf_iload_n C (n := 20) (q := 2) (x := x2) dX10_of_19 rfl rfl rfl ?_
  refine rf_tabIn C (n := 144) (off := 124) dX10_of_20 c2 (by decide) (by decide) (by decide) (by decide) ?_
  refine rf_aload_n C (n := 145) (q := 0) dX10_of_144 rfl rfl rfl ?_
  refine rf_getS C (n := 148) fl_RX10_65 ly_0 rfl dX10_of_145 rfl ?_
  refine rf_getS C (n := 151) fl_RX10_253 ly_46 rfl dX10_of_148 rfl ?_
  refine rf_iload_n C (n := 152) (q := 1) (x := x1) dX10_of_151 rfl rfl rfl ?_
  refine rf_iald C (n := 153) ly_53 ⟨c1.1, by have := c1.2; omega⟩ rfl dX10_of_152 rfl ?_
  exact rf_iret C K dX10_of_153
theorem c_ofY8 (G : hG) (m : hM) {c : Nat} (hc : c ≤ 8) (h2 : gI m 18 6 = nI c) (x1 x2 : Int32) (c1 : hIn x1 c) (c2 : x2 = 8) : Mt vI G 2 yX10_of cX10_of 3 (some .int) [hA G 0, .int x1, .int x2] m (hBd (f_X8_readyPieces 4000 46 m) fun r m2 => some ((r >>> (x1 &&& 31)) &&& 1, m2)) := by
  refine mt_of (by decide +kernel) (Nat.le_of_ble_eq_true rfl) (fun X C K => ?_)
  have C : Cx G X 2 cX10_of 3 RX10 (some .int) := C
  show Rf vI G X 0 [(0, hA G 0), (1, .int x1), (2, .int x2)] [] m _
  refine rf_aload_n C (n := 1) (q := 0) dX10_of_0 rfl rfl rfl ?_
  refine rf_getS C (n := 4) fl_RX10_19 ly_0 rfl dX10_of_1 rfl ?_
  refine rf_iload_n C (n := 5) (q := 1) (x := x1) dX10_of_4 rfl rfl rfl ?_
  refine rb_callVi C (n := 8) (c_X4_has G 4000 x1 m) (cx_hasP 4000 x1 m (by omega) h2) mw_RX10_214 ly_18 rfl ⟨by decide, by decide⟩ rfl (Nat.le_of_ble_eq_true rfl) rfl dX10_of_5 rfl ?_
  refine rb_neT C (n := 19) (by rw [if_pos c1]; decide) dX10_of_8 (by decide) ?_
  refine rf_iload_n C (n := 20) (q := 2) (x := x2) dX10_of_19 rfl rfl rfl ?_
  refine rf_tabIn C (n := 154) (off := 134) dX10_of_20 c2 (by decide) (by decide) (by decide) (by decide) ?_
  refine rf_aload_n C (n := 155) (q := 0) dX10_of_154 rfl rfl rfl ?_
  refine rf_getS C (n := 158) fl_RX10_42 ly_0 rfl dX10_of_155 rfl ?_
  refine rf_aload_n C (n := 159) (q := 0) dX10_of_158 rfl rfl rfl ?_
  refine rf_getS C (n := 162) fl_RX10_65 ly_0 rfl dX10_of_159 rfl ?_
  refine rf_callVi C (n := 165) (c_X8_readyPieces G 4000 46 m) mw_RX10_256 ly_32 rfl ⟨by decide, by decide⟩ rfl (Nat.le_of_ble_eq_true rfl) rfl dX10_of_162 rfl (fun r m2 => ?_)
  refine rf_iload_n C (n := 166) (q := 1) (x := x1) dX10_of_165 rfl rfl rfl ?_
  refine rf_ishr C (n := 167) dX10_of_166 rfl ?_
  refine rf_iconst C (n := 168) (v := 1) dX10_of_167 rfl (by decide) ?_
  refine rf_iand C (n := 169) dX10_of_168 rfl ?_
  exact rf_iret C K dX10_of_169
