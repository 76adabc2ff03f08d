/-! ===== constructors: words and instructions ===== -/
theorem oi_RX10_3 : Cond.methodLink RX10 3 objectInit ∈ lw_tb := (tb_1 31 (by decide +kernel) (by decide +kernel))
theorem cl_RX10_9 : Cond.classLink RX10 9 RX0 ∈ lw_tb := (tb_1 34 (by decide +kernel) (by decide +kernel))
theorem wi_0 : Cond.instantiable RX0 7 ∈ lw_tb := (tb_1 35 (by decide +kernel) (by decide +kernel))
theorem wz_0 : Cond.initialized RX0 ∈ lw_tb := (tb_1 2 (by decide +kernel) (by decide +kernel))
theorem wd_0 : ∀ j, j < 7 → defaultValue (tyX0 j) = vp_V [.null, .null, .null, .null, .int 0, .int 0, .int 0] j := by decide +kernel
theorem oi_RX0_3 : Cond.methodLink RX0 3 objectInit ∈ lw_tb := (tb_1 39 (by decide +kernel) (by decide +kernel))
theorem cl_RX0_9 : Cond.classLink RX0 9 RX2 ∈ lw_tb := (tb_1 40 (by decide +kernel) (by decide +kernel))
theorem pf_RX0_11 : hPK RX0 11 0 0 (.array (.object "FollowTheSun$Office")) true := ⟨RX0, TX0, 7, tyX0, rfl, inB0, by decide, (tb_1 93 (by decide +kernel) (by decide +kernel)), by decide +kernel, tyX0_ok, nmX0, by decide +kernel, by decide +kernel⟩
theorem wa_int : Cond.arrayClass .int ∈ lw_tb := (tb_1 90 (by decide +kernel) (by decide +kernel))
theorem pf_RX0_17 : hPK RX0 17 0 1 (.array .int) true := ⟨RX0, TX0, 7, tyX0, rfl, inB0, by decide, (tb_1 97 (by decide +kernel) (by decide +kernel)), by decide +kernel, tyX0_ok, nmX0, by decide +kernel, by decide +kernel⟩
theorem pf_RX0_21 : hPK RX0 21 0 2 (.array .int) true := ⟨RX0, TX0, 7, tyX0, rfl, inB0, by decide, (tb_1 101 (by decide +kernel) (by decide +kernel)), by decide +kernel, tyX0_ok, nmX0, by decide +kernel, by decide +kernel⟩
theorem wa_long : Cond.arrayClass .long ∈ lw_tb := (tb_1 91 (by decide +kernel) (by decide +kernel))
theorem pf_RX0_24 : hPK RX0 24 0 3 (.array .long) true := ⟨RX0, TX0, 7, tyX0, rfl, inB0, by decide, (tb_1 105 (by decide +kernel) (by decide +kernel)), by decide +kernel, tyX0_ok, nmX0, by decide +kernel, by decide +kernel⟩
theorem pf_RX0_28 : hPK RX0 28 0 4 .int false := ⟨RX0, TX0, 7, tyX0, rfl, inB0, by decide, (tb_1 106 (by decide +kernel) (by decide +kernel)), by decide +kernel, tyX0_ok, nmX0, by decide +kernel, by decide +kernel⟩
theorem pf_RX0_32 : hPK RX0 32 0 5 .int false := ⟨RX0, TX0, 7, tyX0, rfl, inB0, by decide, (tb_1 110 (by decide +kernel) (by decide +kernel)), by decide +kernel, tyX0_ok, nmX0, by decide +kernel, by decide +kernel⟩
theorem pf_RX0_35 : hPK RX0 35 0 6 .int false := ⟨RX0, TX0, 7, tyX0, rfl, inB0, by decide, (tb_1 112 (by decide +kernel) (by decide +kernel)), by decide +kernel, tyX0_ok, nmX0, by decide +kernel, by decide +kernel⟩
theorem gf_RX0_11 : hFl RX0 11 0 0 := ⟨RX0, TX0, 7, rfl, inB0, by decide, (tb_1 93 (by decide +kernel) (by decide +kernel))⟩
theorem wi_2 : Cond.instantiable RX2 9 ∈ lw_tb := (tb_1 42 (by decide +kernel) (by decide +kernel))
theorem wz_2 : Cond.initialized RX2 ∈ lw_tb := (tb_1 3 (by decide +kernel) (by decide +kernel))
theorem wd_2 : ∀ j, j < 9 → defaultValue (tyX2 j) = vp_V [.int 0, .int 0, .int 0, .int 0, .int 0, .int 0, .int 0, .int 0, .null] j := by decide +kernel
theorem oi_RX2_3 : Cond.methodLink RX2 3 objectInit ∈ lw_tb := (tb_1 46 (by decide +kernel) (by decide +kernel))
theorem wa_boolean : Cond.arrayClass .boolean ∈ lw_tb := (tb_1 92 (by decide +kernel) (by decide +kernel))
theorem pf_RX2_9 : hPK RX2 9 2 8 (.array .boolean) true := ⟨RX2, TX2, 9, tyX2, rfl, inB2, by decide, (tb_1 68 (by decide +kernel) (by decide +kernel)), by decide +kernel, tyX2_ok, nmX2, by decide +kernel, by decide +kernel⟩
theorem cj_RX0_38 : hCJ RX0 38 "FollowTheSun" yX2_init cX2_init 1 0 := ⟨by decide +kernel, (tb_1 44 (by decide +kernel) (by decide +kernel)), (tb_1 3 (by decide +kernel) (by decide +kernel)), (tb_1 45 (by decide +kernel) (by decide +kernel)), rfl, by decide +kernel⟩
theorem gf_RX0_17 : hFl RX0 17 0 1 := ⟨RX0, TX0, 7, rfl, inB0, by decide, (tb_1 97 (by decide +kernel) (by decide +kernel))⟩
theorem ci_RX10_11 : hCI RX10 11 yX0_init cX0_init 2 0 := ⟨(tb_1 36 (by decide +kernel) (by decide +kernel)), (tb_1 37 (by decide +kernel) (by decide +kernel)), (tb_1 2 (by decide +kernel) (by decide +kernel)), (tb_1 38 (by decide +kernel) (by decide +kernel)), rfl, by decide +kernel⟩
theorem pf_RX10_12 : hPK RX10 12 10 0 (.object "FollowTheSun$Earth") true := ⟨RX10, TX10, 14, tyX10, rfl, inB10, by decide, (tb_2 175 (by decide +kernel) (by decide +kernel)), by decide +kernel, tyX10_ok, nmX10, by decide +kernel, by decide +kernel⟩
theorem cl_RX10_16 : Cond.classLink RX10 16 RX4 ∈ lw_tb := (tb_1 129 (by decide +kernel) (by decide +kernel))
theorem wi_4 : Cond.instantiable RX4 7 ∈ lw_tb := (tb_1 130 (by decide +kernel) (by decide +kernel))
theorem wz_4 : Cond.initialized RX4 ∈ lw_tb := (tb_1 4 (by decide +kernel) (by decide +kernel))
theorem wd_4 : ∀ j, j < 7 → defaultValue (tyX4 j) = vp_V [.null, .null, .null, .null, .null, .null, .int 0] j := by decide +kernel
theorem oi_RX4_3 : Cond.methodLink RX4 3 objectInit ∈ lw_tb := (tb_1 134 (by decide +kernel) (by decide +kernel))
theorem pf_RX4_9 : hPK RX4 9 4 0 (.array .int) true := ⟨RX4, TX4, 7, tyX4, rfl, inB4, by decide, (tb_1 135 (by decide +kernel) (by decide +kernel)), by decide +kernel, tyX4_ok, nmX4, by decide +kernel, by decide +kernel⟩
theorem pf_RX4_15 : hPK RX4 15 4 1 (.array .int) true := ⟨RX4, TX4, 7, tyX4, rfl, inB4, by decide, (tb_1 139 (by decide +kernel) (by decide +kernel)), by decide +kernel, tyX4_ok, nmX4, by decide +kernel, by decide +kernel⟩
theorem pf_RX4_18 : hPK RX4 18 4 2 (.array .int) true := ⟨RX4, TX4, 7, tyX4, rfl, inB4, by decide, (tb_1 142 (by decide +kernel) (by decide +kernel)), by decide +kernel, tyX4_ok, nmX4, by decide +kernel, by decide +kernel⟩
theorem pf_RX4_21 : hPK RX4 21 4 3 (.array .int) true := ⟨RX4, TX4, 7, tyX4, rfl, inB4, by decide, (tb_1 147 (by decide +kernel) (by decide +kernel)), by decide +kernel, tyX4_ok, nmX4, by decide +kernel, by decide +kernel⟩
theorem pf_RX4_24 : hPK RX4 24 4 4 (.array .int) true := ⟨RX4, TX4, 7, tyX4, rfl, inB4, by decide, (tb_1 150 (by decide +kernel) (by decide +kernel)), by decide +kernel, tyX4_ok, nmX4, by decide +kernel, by decide +kernel⟩
theorem pf_RX4_27 : hPK RX4 27 4 5 (.array .int) true := ⟨RX4, TX4, 7, tyX4, rfl, inB4, by decide, (tb_1 154 (by decide +kernel) (by decide +kernel)), by decide +kernel, tyX4_ok, nmX4, by decide +kernel, by decide +kernel⟩
theorem pf_RX4_30 : hPK RX4 30 4 6 .int false := ⟨RX4, TX4, 7, tyX4, rfl, inB4, by decide, (tb_1 157 (by decide +kernel) (by decide +kernel)), by decide +kernel, tyX4_ok, nmX4, by decide +kernel, by decide +kernel⟩
theorem cj_RX10_18 : hCJ RX10 18 "FollowTheSun" yX4_init cX4_init 1 0 := ⟨by decide +kernel, (tb_1 132 (by decide +kernel) (by decide +kernel)), (tb_1 4 (by decide +kernel) (by decide +kernel)), (tb_1 133 (by decide +kernel) (by decide +kernel)), rfl, by decide +kernel⟩
theorem pf_RX10_19 : hPK RX10 19 10 1 (.object "FollowTheSun$Pieces") true := ⟨RX10, TX10, 14, tyX10, rfl, inB10, by decide, (tb_2 176 (by decide +kernel) (by decide +kernel)), by decide +kernel, tyX10_ok, nmX10, by decide +kernel, by decide +kernel⟩
theorem cl_RX10_23 : Cond.classLink RX10 23 RX5 ∈ lw_tb := (tb_1 176 (by decide +kernel) (by decide +kernel))
theorem wi_5 : Cond.instantiable RX5 4 ∈ lw_tb := (tb_1 177 (by decide +kernel) (by decide +kernel))
theorem wz_5 : Cond.initialized RX5 ∈ lw_tb := (tb_1 5 (by decide +kernel) (by decide +kernel))
theorem wd_5 : ∀ j, j < 4 → defaultValue (tyX5 j) = vp_V [.null, .int 0, .null, .int 0] j := by decide +kernel
theorem oi_RX5_3 : Cond.methodLink RX5 3 objectInit ∈ lw_tb := (tb_1 181 (by decide +kernel) (by decide +kernel))
theorem pf_RX5_9 : hPK RX5 9 5 0 (.array .int) true := ⟨RX5, TX5, 4, tyX5, rfl, inB5, by decide, (tb_1 182 (by decide +kernel) (by decide +kernel)), by decide +kernel, tyX5_ok, nmX5, by decide +kernel, by decide +kernel⟩
theorem pf_RX5_15 : hPK RX5 15 5 1 .int false := ⟨RX5, TX5, 4, tyX5, rfl, inB5, by decide, (tb_1 184 (by decide +kernel) (by decide +kernel)), by decide +kernel, tyX5_ok, nmX5, by decide +kernel, by decide +kernel⟩
theorem pf_RX5_19 : hPK RX5 19 5 2 (.array .int) true := ⟨RX5, TX5, 4, tyX5, rfl, inB5, by decide, (tb_1 187 (by decide +kernel) (by decide +kernel)), by decide +kernel, tyX5_ok, nmX5, by decide +kernel, by decide +kernel⟩
theorem pf_RX5_22 : hPK RX5 22 5 3 .int false := ⟨RX5, TX5, 4, tyX5, rfl, inB5, by decide, (tb_1 188 (by decide +kernel) (by decide +kernel)), by decide +kernel, tyX5_ok, nmX5, by decide +kernel, by decide +kernel⟩
theorem cj_RX10_25 : hCJ RX10 25 "FollowTheSun" yX5_init cX5_init 1 0 := ⟨by decide +kernel, (tb_1 179 (by decide +kernel) (by decide +kernel)), (tb_1 5 (by decide +kernel) (by decide +kernel)), (tb_1 180 (by decide +kernel) (by decide +kernel)), rfl, by decide +kernel⟩
theorem pf_RX10_26 : hPK RX10 26 10 2 (.object "FollowTheSun$Rule") true := ⟨RX10, TX10, 14, tyX10, rfl, inB10, by decide, (tb_2 177 (by decide +kernel) (by decide +kernel)), by decide +kernel, tyX10_ok, nmX10, by decide +kernel, by decide +kernel⟩
theorem cl_RX10_30 : Cond.classLink RX10 30 RX6 ∈ lw_tb := (tb_1 199 (by decide +kernel) (by decide +kernel))
theorem wi_6 : Cond.instantiable RX6 8 ∈ lw_tb := (tb_1 200 (by decide +kernel) (by decide +kernel))
theorem wz_6 : Cond.initialized RX6 ∈ lw_tb := (tb_1 6 (by decide +kernel) (by decide +kernel))
theorem wd_6 : ∀ j, j < 8 → defaultValue (tyX6 j) = vp_V [.null, .int 0, .null, .int 0, .int 0, .null, .int 0, .int 0] j := by decide +kernel
theorem oi_RX6_3 : Cond.methodLink RX6 3 objectInit ∈ lw_tb := (tb_1 204 (by decide +kernel) (by decide +kernel))
theorem pf_RX6_9 : hPK RX6 9 6 0 (.array .int) true := ⟨RX6, TX6, 8, tyX6, rfl, inB6, by decide, (tb_1 205 (by decide +kernel) (by decide +kernel)), by decide +kernel, tyX6_ok, nmX6, by decide +kernel, by decide +kernel⟩
theorem pf_RX6_15 : hPK RX6 15 6 1 .int false := ⟨RX6, TX6, 8, tyX6, rfl, inB6, by decide, (tb_1 207 (by decide +kernel) (by decide +kernel)), by decide +kernel, tyX6_ok, nmX6, by decide +kernel, by decide +kernel⟩
theorem pf_RX6_19 : hPK RX6 19 6 2 (.array .int) true := ⟨RX6, TX6, 8, tyX6, rfl, inB6, by decide, (tb_1 209 (by decide +kernel) (by decide +kernel)), by decide +kernel, tyX6_ok, nmX6, by decide +kernel, by decide +kernel⟩
theorem pf_RX6_22 : hPK RX6 22 6 3 .int false := ⟨RX6, TX6, 8, tyX6, rfl, inB6, by decide, (tb_1 210 (by decide +kernel) (by decide +kernel)), by decide +kernel, tyX6_ok, nmX6, by decide +kernel, by decide +kernel⟩
theorem pf_RX6_25 : hPK RX6 25 6 4 .int false := ⟨RX6, TX6, 8, tyX6, rfl, inB6, by decide, (tb_1 211 (by decide +kernel) (by decide +kernel)), by decide +kernel, tyX6_ok, nmX6, by decide +kernel, by decide +kernel⟩
theorem pf_RX6_28 : hPK RX6 28 6 5 (.array .boolean) true := ⟨RX6, TX6, 8, tyX6, rfl, inB6, by decide, (tb_1 212 (by decide +kernel) (by decide +kernel)), by decide +kernel, tyX6_ok, nmX6, by decide +kernel, by decide +kernel⟩
theorem pf_RX6_32 : hPK RX6 32 6 6 .boolean false := ⟨RX6, TX6, 8, tyX6, rfl, inB6, by decide, (tb_1 213 (by decide +kernel) (by decide +kernel)), by decide +kernel, tyX6_ok, nmX6, by decide +kernel, by decide +kernel⟩
theorem pf_RX6_36 : hPK RX6 36 6 7 .int false := ⟨RX6, TX6, 8, tyX6, rfl, inB6, by decide, (tb_1 214 (by decide +kernel) (by decide +kernel)), by decide +kernel, tyX6_ok, nmX6, by decide +kernel, by decide +kernel⟩
theorem cj_RX10_32 : hCJ RX10 32 "FollowTheSun" yX6_init cX6_init 1 0 := ⟨by decide +kernel, (tb_1 202 (by decide +kernel) (by decide +kernel)), (tb_1 6 (by decide +kernel) (by decide +kernel)), (tb_1 203 (by decide +kernel) (by decide +kernel)), rfl, by decide +kernel⟩
theorem pf_RX10_33 : hPK RX10 33 10 3 (.object "FollowTheSun$RuleReader") true := ⟨RX10, TX10, 14, tyX10, rfl, inB10, by decide, (tb_2 178 (by decide +kernel) (by decide +kernel)), by decide +kernel, tyX10_ok, nmX10, by decide +kernel, by decide +kernel⟩
theorem cl_RX10_37 : Cond.classLink RX10 37 RX8 ∈ lw_tb := (tb_1 232 (by decide +kernel) (by decide +kernel))
theorem wi_8 : Cond.instantiable RX8 8 ∈ lw_tb := (tb_1 233 (by decide +kernel) (by decide +kernel))
theorem wz_8 : Cond.initialized RX8 ∈ lw_tb := (tb_1 7 (by decide +kernel) (by decide +kernel))
theorem wd_8 : ∀ j, j < 8 → defaultValue (tyX8 j) = vp_V [.null, .null, .null, .int 0, .int 0, .int 0, .null, .int 0] j := by decide +kernel
theorem gf_RX10_12 : hFl RX10 12 10 0 := ⟨RX10, TX10, 14, rfl, inB10, by decide, (tb_2 175 (by decide +kernel) (by decide +kernel))⟩
theorem gf_RX10_19 : hFl RX10 19 10 1 := ⟨RX10, TX10, 14, rfl, inB10, by decide, (tb_2 176 (by decide +kernel) (by decide +kernel))⟩
theorem gf_RX10_26 : hFl RX10 26 10 2 := ⟨RX10, TX10, 14, rfl, inB10, by decide, (tb_2 177 (by decide +kernel) (by decide +kernel))⟩
theorem oi_RX8_3 : Cond.methodLink RX8 3 objectInit ∈ lw_tb := (tb_1 237 (by decide +kernel) (by decide +kernel))
theorem pf_RX8_9 : hPK RX8 9 8 3 .boolean false := ⟨RX8, TX8, 8, tyX8, rfl, inB8, by decide, (tb_2 1 (by decide +kernel) (by decide +kernel)), by decide +kernel, tyX8_ok, nmX8, by decide +kernel, by decide +kernel⟩
theorem pf_RX8_15 : hPK RX8 15 8 4 .boolean false := ⟨RX8, TX8, 8, tyX8, rfl, inB8, by decide, (tb_2 3 (by decide +kernel) (by decide +kernel)), by decide +kernel, tyX8_ok, nmX8, by decide +kernel, by decide +kernel⟩
theorem pf_RX8_18 : hPK RX8 18 8 5 .int false := ⟨RX8, TX8, 8, tyX8, rfl, inB8, by decide, (tb_2 5 (by decide +kernel) (by decide +kernel)), by decide +kernel, tyX8_ok, nmX8, by decide +kernel, by decide +kernel⟩
theorem pf_RX8_22 : hPK RX8 22 8 6 (.array .int) true := ⟨RX8, TX8, 8, tyX8, rfl, inB8, by decide, (tb_2 7 (by decide +kernel) (by decide +kernel)), by decide +kernel, tyX8_ok, nmX8, by decide +kernel, by decide +kernel⟩
theorem pf_RX8_26 : hPK RX8 26 8 7 .int false := ⟨RX8, TX8, 8, tyX8, rfl, inB8, by decide, (tb_2 8 (by decide +kernel) (by decide +kernel)), by decide +kernel, tyX8_ok, nmX8, by decide +kernel, by decide +kernel⟩
theorem pf_RX8_29 : hPK RX8 29 8 0 (.object "FollowTheSun$Earth") true := ⟨RX8, TX8, 8, tyX8, rfl, inB8, by decide, (tb_1 238 (by decide +kernel) (by decide +kernel)), by decide +kernel, tyX8_ok, nmX8, by decide +kernel, by decide +kernel⟩
theorem pf_RX8_33 : hPK RX8 33 8 1 (.object "FollowTheSun$Pieces") true := ⟨RX8, TX8, 8, tyX8, rfl, inB8, by decide, (tb_1 239 (by decide +kernel) (by decide +kernel)), by decide +kernel, tyX8_ok, nmX8, by decide +kernel, by decide +kernel⟩
theorem pf_RX8_37 : hPK RX8 37 8 2 (.object "FollowTheSun$Rule") true := ⟨RX8, TX8, 8, tyX8, rfl, inB8, by decide, (tb_2 0 (by decide +kernel) (by decide +kernel)), by decide +kernel, tyX8_ok, nmX8, by decide +kernel, by decide +kernel⟩
theorem ci_RX10_39 : hCI RX10 39 yX8_init cX8_init 4 3 := ⟨(tb_1 234 (by decide +kernel) (by decide +kernel)), (tb_1 235 (by decide +kernel) (by decide +kernel)), (tb_1 7 (by decide +kernel) (by decide +kernel)), (tb_1 236 (by decide +kernel) (by decide +kernel)), rfl, by decide +kernel⟩
theorem pf_RX10_42 : hPK RX10 42 10 4 (.object "FollowTheSun$Walk") true := ⟨RX10, TX10, 14, tyX10, rfl, inB10, by decide, (tb_2 179 (by decide +kernel) (by decide +kernel)), by decide +kernel, tyX10_ok, nmX10, by decide +kernel, by decide +kernel⟩
theorem cl_RX10_46 : Cond.classLink RX10 46 RX9 ∈ lw_tb := (tb_2 27 (by decide +kernel) (by decide +kernel))
theorem wi_9 : Cond.instantiable RX9 9 ∈ lw_tb := (tb_2 28 (by decide +kernel) (by decide +kernel))
theorem wz_9 : Cond.initialized RX9 ∈ lw_tb := (tb_1 8 (by decide +kernel) (by decide +kernel))
theorem wd_9 : ∀ j, j < 9 → defaultValue (tyX9 j) = vp_V [.null, .null, .null, .null, .int 0, .int 0, .null, .null, .null] j := by decide +kernel
theorem oi_RX9_3 : Cond.methodLink RX9 3 objectInit ∈ lw_tb := (tb_2 32 (by decide +kernel) (by decide +kernel))
theorem pf_RX9_9 : hPK RX9 9 9 1 (.array .int) true := ⟨RX9, TX9, 9, tyX9, rfl, inB9, by decide, (tb_2 34 (by decide +kernel) (by decide +kernel)), by decide +kernel, tyX9_ok, nmX9, by decide +kernel, by decide +kernel⟩
theorem pf_RX9_15 : hPK RX9 15 9 2 (.array .int) true := ⟨RX9, TX9, 9, tyX9, rfl, inB9, by decide, (tb_2 35 (by decide +kernel) (by decide +kernel)), by decide +kernel, tyX9_ok, nmX9, by decide +kernel, by decide +kernel⟩
theorem pf_RX9_18 : hPK RX9 18 9 3 (.array .int) true := ⟨RX9, TX9, 9, tyX9, rfl, inB9, by decide, (tb_2 36 (by decide +kernel) (by decide +kernel)), by decide +kernel, tyX9_ok, nmX9, by decide +kernel, by decide +kernel⟩
theorem pf_RX9_21 : hPK RX9 21 9 4 .int false := ⟨RX9, TX9, 9, tyX9, rfl, inB9, by decide, (tb_2 37 (by decide +kernel) (by decide +kernel)), by decide +kernel, tyX9_ok, nmX9, by decide +kernel, by decide +kernel⟩
theorem pf_RX9_25 : hPK RX9 25 9 5 .int false := ⟨RX9, TX9, 9, tyX9, rfl, inB9, by decide, (tb_2 38 (by decide +kernel) (by decide +kernel)), by decide +kernel, tyX9_ok, nmX9, by decide +kernel, by decide +kernel⟩
theorem pf_RX9_28 : hPK RX9 28 9 6 (.array .int) true := ⟨RX9, TX9, 9, tyX9, rfl, inB9, by decide, (tb_2 39 (by decide +kernel) (by decide +kernel)), by decide +kernel, tyX9_ok, nmX9, by decide +kernel, by decide +kernel⟩
theorem pf_RX9_31 : hPK RX9 31 9 7 (.array .int) true := ⟨RX9, TX9, 9, tyX9, rfl, inB9, by decide, (tb_2 40 (by decide +kernel) (by decide +kernel)), by decide +kernel, tyX9_ok, nmX9, by decide +kernel, by decide +kernel⟩
theorem pf_RX9_34 : hPK RX9 34 9 8 (.array .int) true := ⟨RX9, TX9, 9, tyX9, rfl, inB9, by decide, (tb_2 41 (by decide +kernel) (by decide +kernel)), by decide +kernel, tyX9_ok, nmX9, by decide +kernel, by decide +kernel⟩
theorem pf_RX9_37 : hPK RX9 37 9 0 (.object "FollowTheSun$Earth") true := ⟨RX9, TX9, 9, tyX9, rfl, inB9, by decide, (tb_2 33 (by decide +kernel) (by decide +kernel)), by decide +kernel, tyX9_ok, nmX9, by decide +kernel, by decide +kernel⟩
theorem ci_RX10_48 : hCI RX10 48 yX9_init cX9_init 2 1 := ⟨(tb_2 29 (by decide +kernel) (by decide +kernel)), (tb_2 30 (by decide +kernel) (by decide +kernel)), (tb_1 8 (by decide +kernel) (by decide +kernel)), (tb_2 31 (by decide +kernel) (by decide +kernel)), rfl, by decide +kernel⟩
theorem pf_RX10_51 : hPK RX10 51 10 5 (.object "FollowTheSun$Ways") true := ⟨RX10, TX10, 14, tyX10, rfl, inB10, by decide, (tb_2 180 (by decide +kernel) (by decide +kernel)), by decide +kernel, tyX10_ok, nmX10, by decide +kernel, by decide +kernel⟩
theorem cl_RX10_55 : Cond.classLink RX10 55 RX3 ∈ lw_tb := (tb_2 61 (by decide +kernel) (by decide +kernel))
theorem wi_3 : Cond.instantiable RX3 5 ∈ lw_tb := (tb_2 62 (by decide +kernel) (by decide +kernel))
theorem wz_3 : Cond.initialized RX3 ∈ lw_tb := (tb_1 9 (by decide +kernel) (by decide +kernel))
theorem wd_3 : ∀ j, j < 5 → defaultValue (tyX3 j) = vp_V [.null, .null, .null, .null, .int 0] j := by decide +kernel
theorem oi_RX3_3 : Cond.methodLink RX3 3 objectInit ∈ lw_tb := (tb_2 66 (by decide +kernel) (by decide +kernel))
theorem pf_RX3_9 : hPK RX3 9 3 0 (.array .int) true := ⟨RX3, TX3, 5, tyX3, rfl, inB3, by decide, (tb_2 67 (by decide +kernel) (by decide +kernel)), by decide +kernel, tyX3_ok, nmX3, by decide +kernel, by decide +kernel⟩
theorem pf_RX3_15 : hPK RX3 15 3 1 (.array .int) true := ⟨RX3, TX3, 5, tyX3, rfl, inB3, by decide, (tb_2 69 (by decide +kernel) (by decide +kernel)), by decide +kernel, tyX3_ok, nmX3, by decide +kernel, by decide +kernel⟩
theorem pf_RX3_18 : hPK RX3 18 3 2 (.array .int) true := ⟨RX3, TX3, 5, tyX3, rfl, inB3, by decide, (tb_2 71 (by decide +kernel) (by decide +kernel)), by decide +kernel, tyX3_ok, nmX3, by decide +kernel, by decide +kernel⟩
theorem pf_RX3_21 : hPK RX3 21 3 3 (.array .int) true := ⟨RX3, TX3, 5, tyX3, rfl, inB3, by decide, (tb_2 73 (by decide +kernel) (by decide +kernel)), by decide +kernel, tyX3_ok, nmX3, by decide +kernel, by decide +kernel⟩
theorem pf_RX3_24 : hPK RX3 24 3 4 .int false := ⟨RX3, TX3, 5, tyX3, rfl, inB3, by decide, (tb_2 74 (by decide +kernel) (by decide +kernel)), by decide +kernel, tyX3_ok, nmX3, by decide +kernel, by decide +kernel⟩
theorem cj_RX10_57 : hCJ RX10 57 "FollowTheSun" yX3_init cX3_init 1 0 := ⟨by decide +kernel, (tb_2 64 (by decide +kernel) (by decide +kernel)), (tb_1 9 (by decide +kernel) (by decide +kernel)), (tb_2 65 (by decide +kernel) (by decide +kernel)), rfl, by decide +kernel⟩
theorem pf_RX10_58 : hPK RX10 58 10 6 (.object "FollowTheSun$Pairs") true := ⟨RX10, TX10, 14, tyX10, rfl, inB10, by decide, (tb_2 181 (by decide +kernel) (by decide +kernel)), by decide +kernel, tyX10_ok, nmX10, by decide +kernel, by decide +kernel⟩
theorem cl_RX10_62 : Cond.classLink RX10 62 RX7 ∈ lw_tb := (tb_2 87 (by decide +kernel) (by decide +kernel))
theorem wi_7 : Cond.instantiable RX7 13 ∈ lw_tb := (tb_2 88 (by decide +kernel) (by decide +kernel))
theorem wz_7 : Cond.initialized RX7 ∈ lw_tb := (tb_1 10 (by decide +kernel) (by decide +kernel))
theorem wd_7 : ∀ j, j < 13 → defaultValue (tyX7 j) = vp_V [.int 0, .int 0, .int 0, .null, .null, .null, .null, .null, .null, .null, .int 0, .null, .int 0] j := by decide +kernel
theorem oi_RX7_3 : Cond.methodLink RX7 3 objectInit ∈ lw_tb := (tb_2 92 (by decide +kernel) (by decide +kernel))
theorem pf_RX7_9 : hPK RX7 9 7 0 .int false := ⟨RX7, TX7, 13, tyX7, rfl, inB7, by decide, (tb_2 93 (by decide +kernel) (by decide +kernel)), by decide +kernel, tyX7_ok, nmX7, by decide +kernel, by decide +kernel⟩
theorem pf_RX7_15 : hPK RX7 15 7 1 .int false := ⟨RX7, TX7, 13, tyX7, rfl, inB7, by decide, (tb_2 96 (by decide +kernel) (by decide +kernel)), by decide +kernel, tyX7_ok, nmX7, by decide +kernel, by decide +kernel⟩
theorem pf_RX7_18 : hPK RX7 18 7 2 .int false := ⟨RX7, TX7, 13, tyX7, rfl, inB7, by decide, (tb_2 99 (by decide +kernel) (by decide +kernel)), by decide +kernel, tyX7_ok, nmX7, by decide +kernel, by decide +kernel⟩
theorem pf_RX7_21 : hPK RX7 21 7 3 (.array .int) true := ⟨RX7, TX7, 13, tyX7, rfl, inB7, by decide, (tb_2 102 (by decide +kernel) (by decide +kernel)), by decide +kernel, tyX7_ok, nmX7, by decide +kernel, by decide +kernel⟩
theorem pf_RX7_25 : hPK RX7 25 7 4 (.array .int) true := ⟨RX7, TX7, 13, tyX7, rfl, inB7, by decide, (tb_2 105 (by decide +kernel) (by decide +kernel)), by decide +kernel, tyX7_ok, nmX7, by decide +kernel, by decide +kernel⟩
theorem pf_RX7_28 : hPK RX7 28 7 5 (.array .int) true := ⟨RX7, TX7, 13, tyX7, rfl, inB7, by decide, (tb_2 108 (by decide +kernel) (by decide +kernel)), by decide +kernel, tyX7_ok, nmX7, by decide +kernel, by decide +kernel⟩
theorem pf_RX7_31 : hPK RX7 31 7 6 (.array .int) true := ⟨RX7, TX7, 13, tyX7, rfl, inB7, by decide, (tb_2 111 (by decide +kernel) (by decide +kernel)), by decide +kernel, tyX7_ok, nmX7, by decide +kernel, by decide +kernel⟩
theorem pf_RX7_34 : hPK RX7 34 7 7 (.array .int) true := ⟨RX7, TX7, 13, tyX7, rfl, inB7, by decide, (tb_2 114 (by decide +kernel) (by decide +kernel)), by decide +kernel, tyX7_ok, nmX7, by decide +kernel, by decide +kernel⟩
theorem pf_RX7_37 : hPK RX7 37 7 8 (.array .int) true := ⟨RX7, TX7, 13, tyX7, rfl, inB7, by decide, (tb_2 117 (by decide +kernel) (by decide +kernel)), by decide +kernel, tyX7_ok, nmX7, by decide +kernel, by decide +kernel⟩
theorem pf_RX7_40 : hPK RX7 40 7 9 (.array .int) true := ⟨RX7, TX7, 13, tyX7, rfl, inB7, by decide, (tb_2 120 (by decide +kernel) (by decide +kernel)), by decide +kernel, tyX7_ok, nmX7, by decide +kernel, by decide +kernel⟩
theorem pf_RX7_43 : hPK RX7 43 7 10 .int false := ⟨RX7, TX7, 13, tyX7, rfl, inB7, by decide, (tb_2 123 (by decide +kernel) (by decide +kernel)), by decide +kernel, tyX7_ok, nmX7, by decide +kernel, by decide +kernel⟩
theorem pf_RX7_46 : hPK RX7 46 7 11 (.array .int) true := ⟨RX7, TX7, 13, tyX7, rfl, inB7, by decide, (tb_2 126 (by decide +kernel) (by decide +kernel)), by decide +kernel, tyX7_ok, nmX7, by decide +kernel, by decide +kernel⟩
theorem pf_RX7_49 : hPK RX7 49 7 12 .int false := ⟨RX7, TX7, 13, tyX7, rfl, inB7, by decide, (tb_2 129 (by decide +kernel) (by decide +kernel)), by decide +kernel, tyX7_ok, nmX7, by decide +kernel, by decide +kernel⟩
theorem cj_RX10_64 : hCJ RX10 64 "FollowTheSun" yX7_init cX7_init 1 0 := ⟨by decide +kernel, (tb_2 90 (by decide +kernel) (by decide +kernel)), (tb_1 10 (by decide +kernel) (by decide +kernel)), (tb_2 91 (by decide +kernel) (by decide +kernel)), rfl, by decide +kernel⟩
theorem pf_RX10_65 : hPK RX10 65 10 7 (.object "FollowTheSun$State") true := ⟨RX10, TX10, 14, tyX10, rfl, inB10, by decide, (tb_2 182 (by decide +kernel) (by decide +kernel)), by decide +kernel, tyX10_ok, nmX10, by decide +kernel, by decide +kernel⟩
theorem pf_RX10_69 : hPK RX10 69 10 8 (.object "FollowTheSun$State") true := ⟨RX10, TX10, 14, tyX10, rfl, inB10, by decide, (tb_2 183 (by decide +kernel) (by decide +kernel)), by decide +kernel, tyX10_ok, nmX10, by decide +kernel, by decide +kernel⟩
theorem pf_RX10_72 : hPK RX10 72 10 9 (.array (.object "FollowTheSun$State")) true := ⟨RX10, TX10, 14, tyX10, rfl, inB10, by decide, (tb_2 184 (by decide +kernel) (by decide +kernel)), by decide +kernel, tyX10_ok, nmX10, by decide +kernel, by decide +kernel⟩
theorem pf_RX10_76 : hPK RX10 76 10 10 (.array .int) true := ⟨RX10, TX10, 14, tyX10, rfl, inB10, by decide, (tb_2 185 (by decide +kernel) (by decide +kernel)), by decide +kernel, tyX10_ok, nmX10, by decide +kernel, by decide +kernel⟩
theorem cl_RX10_80 : Cond.classLink RX10 80 RX1 ∈ lw_tb := (tb_2 160 (by decide +kernel) (by decide +kernel))
theorem wi_1 : Cond.instantiable RX1 2 ∈ lw_tb := (tb_2 161 (by decide +kernel) (by decide +kernel))
theorem wz_1 : Cond.initialized RX1 ∈ lw_tb := (tb_1 11 (by decide +kernel) (by decide +kernel))
theorem wd_1 : ∀ j, j < 2 → defaultValue (tyX1 j) = vp_V [.null, .int 0] j := by decide +kernel
theorem oi_RX1_3 : Cond.methodLink RX1 3 objectInit ∈ lw_tb := (tb_2 165 (by decide +kernel) (by decide +kernel))
theorem pf_RX1_9 : hPK RX1 9 1 0 (.array .long) true := ⟨RX1, TX1, 2, tyX1, rfl, inB1, by decide, (tb_2 166 (by decide +kernel) (by decide +kernel)), by decide +kernel, tyX1_ok, nmX1, by decide +kernel, by decide +kernel⟩
theorem pf_RX1_15 : hPK RX1 15 1 1 .int false := ⟨RX1, TX1, 2, tyX1, rfl, inB1, by decide, (tb_2 168 (by decide +kernel) (by decide +kernel)), by decide +kernel, tyX1_ok, nmX1, by decide +kernel, by decide +kernel⟩
theorem cj_RX10_82 : hCJ RX10 82 "FollowTheSun" yX1_init cX1_init 1 0 := ⟨by decide +kernel, (tb_2 163 (by decide +kernel) (by decide +kernel)), (tb_1 11 (by decide +kernel) (by decide +kernel)), (tb_2 164 (by decide +kernel) (by decide +kernel)), rfl, by decide +kernel⟩
theorem pf_RX10_83 : hPK RX10 83 10 11 (.object "FollowTheSun$Numbers") true := ⟨RX10, TX10, 14, tyX10, rfl, inB10, by decide, (tb_2 186 (by decide +kernel) (by decide +kernel)), by decide +kernel, tyX10_ok, nmX10, by decide +kernel, by decide +kernel⟩
theorem wa_char : Cond.arrayClass .char ∈ lw_tb := (tb_2 218 (by decide +kernel) (by decide +kernel))
theorem pf_RX10_87 : hPK RX10 87 10 12 (.array .char) true := ⟨RX10, TX10, 14, tyX10, rfl, inB10, by decide, (tb_2 187 (by decide +kernel) (by decide +kernel)), by decide +kernel, tyX10_ok, nmX10, by decide +kernel, by decide +kernel⟩
theorem pf_RX10_91 : hPK RX10 91 10 13 .int false := ⟨RX10, TX10, 14, tyX10, rfl, inB10, by decide, (tb_2 188 (by decide +kernel) (by decide +kernel)), by decide +kernel, tyX10_ok, nmX10, by decide +kernel, by decide +kernel⟩
theorem gf_RX10_72 : hFl RX10 72 10 9 := ⟨RX10, TX10, 14, rfl, inB10, by decide, (tb_2 184 (by decide +kernel) (by decide +kernel))⟩
theorem gf_RX10_76 : hFl RX10 76 10 10 := ⟨RX10, TX10, 14, rfl, inB10, by decide, (tb_2 185 (by decide +kernel) (by decide +kernel))⟩
theorem oi_RX11_478 : Cond.methodLink RX11 478 objectInit ∈ lw_tb := (tb_7 145 (by decide +kernel) (by decide +kernel))
theorem pf_RX11_7 : hPK RX11 7 11 2 (.array .long) true := ⟨RX11, TX11, 58, tyX11, rfl, inB11, by decide, (tb_7 148 (by decide +kernel) (by decide +kernel)), by decide +kernel, tyX11_ok, nmX11, by decide +kernel, by decide +kernel⟩
theorem pf_RX11_31 : hPK RX11 31 11 4 (.array .int) true := ⟨RX11, TX11, 58, tyX11, rfl, inB11, by decide, (tb_7 150 (by decide +kernel) (by decide +kernel)), by decide +kernel, tyX11_ok, nmX11, by decide +kernel, by decide +kernel⟩
theorem pf_RX11_35 : hPK RX11 35 11 5 (.array .int) true := ⟨RX11, TX11, 58, tyX11, rfl, inB11, by decide, (tb_7 151 (by decide +kernel) (by decide +kernel)), by decide +kernel, tyX11_ok, nmX11, by decide +kernel, by decide +kernel⟩
theorem pf_RX11_38 : hPK RX11 38 11 6 (.array .int) true := ⟨RX11, TX11, 58, tyX11, rfl, inB11, by decide, (tb_7 152 (by decide +kernel) (by decide +kernel)), by decide +kernel, tyX11_ok, nmX11, by decide +kernel, by decide +kernel⟩
theorem pf_RX11_41 : hPK RX11 41 11 7 (.array .int) true := ⟨RX11, TX11, 58, tyX11, rfl, inB11, by decide, (tb_7 153 (by decide +kernel) (by decide +kernel)), by decide +kernel, tyX11_ok, nmX11, by decide +kernel, by decide +kernel⟩
theorem pf_RX11_44 : hPK RX11 44 11 8 (.array .int) true := ⟨RX11, TX11, 58, tyX11, rfl, inB11, by decide, (tb_7 154 (by decide +kernel) (by decide +kernel)), by decide +kernel, tyX11_ok, nmX11, by decide +kernel, by decide +kernel⟩
theorem pf_RX11_47 : hPK RX11 47 11 9 (.array .int) true := ⟨RX11, TX11, 58, tyX11, rfl, inB11, by decide, (tb_7 155 (by decide +kernel) (by decide +kernel)), by decide +kernel, tyX11_ok, nmX11, by decide +kernel, by decide +kernel⟩
theorem pf_RX11_50 : hPK RX11 50 11 10 (.array .int) true := ⟨RX11, TX11, 58, tyX11, rfl, inB11, by decide, (tb_7 156 (by decide +kernel) (by decide +kernel)), by decide +kernel, tyX11_ok, nmX11, by decide +kernel, by decide +kernel⟩
theorem pf_RX11_53 : hPK RX11 53 11 11 (.array .int) true := ⟨RX11, TX11, 58, tyX11, rfl, inB11, by decide, (tb_7 157 (by decide +kernel) (by decide +kernel)), by decide +kernel, tyX11_ok, nmX11, by decide +kernel, by decide +kernel⟩
theorem pf_RX11_56 : hPK RX11 56 11 12 (.array .boolean) true := ⟨RX11, TX11, 58, tyX11, rfl, inB11, by decide, (tb_7 158 (by decide +kernel) (by decide +kernel)), by decide +kernel, tyX11_ok, nmX11, by decide +kernel, by decide +kernel⟩
theorem pf_RX11_60 : hPK RX11 60 11 13 (.array .int) true := ⟨RX11, TX11, 58, tyX11, rfl, inB11, by decide, (tb_7 159 (by decide +kernel) (by decide +kernel)), by decide +kernel, tyX11_ok, nmX11, by decide +kernel, by decide +kernel⟩
theorem pf_RX11_108 : hPK RX11 108 11 14 .int false := ⟨RX11, TX11, 58, tyX11, rfl, inB11, by decide, (tb_7 160 (by decide +kernel) (by decide +kernel)), by decide +kernel, tyX11_ok, nmX11, by decide +kernel, by decide +kernel⟩
theorem pf_RX11_111 : hPK RX11 111 11 15 .int false := ⟨RX11, TX11, 58, tyX11, rfl, inB11, by decide, (tb_7 161 (by decide +kernel) (by decide +kernel)), by decide +kernel, tyX11_ok, nmX11, by decide +kernel, by decide +kernel⟩
theorem pf_RX11_154 : hPK RX11 154 11 17 (.array .int) true := ⟨RX11, TX11, 58, tyX11, rfl, inB11, by decide, (tb_7 163 (by decide +kernel) (by decide +kernel)), by decide +kernel, tyX11_ok, nmX11, by decide +kernel, by decide +kernel⟩
theorem pf_RX11_146 : hPK RX11 146 11 18 (.array .int) true := ⟨RX11, TX11, 58, tyX11, rfl, inB11, by decide, (tb_7 164 (by decide +kernel) (by decide +kernel)), by decide +kernel, tyX11_ok, nmX11, by decide +kernel, by decide +kernel⟩
theorem pf_RX11_160 : hPK RX11 160 11 19 (.array .int) true := ⟨RX11, TX11, 58, tyX11, rfl, inB11, by decide, (tb_7 165 (by decide +kernel) (by decide +kernel)), by decide +kernel, tyX11_ok, nmX11, by decide +kernel, by decide +kernel⟩
theorem pf_RX11_143 : hPK RX11 143 11 20 (.array .int) true := ⟨RX11, TX11, 58, tyX11, rfl, inB11, by decide, (tb_7 166 (by decide +kernel) (by decide +kernel)), by decide +kernel, tyX11_ok, nmX11, by decide +kernel, by decide +kernel⟩
theorem pf_RX11_163 : hPK RX11 163 11 21 (.array .int) true := ⟨RX11, TX11, 58, tyX11, rfl, inB11, by decide, (tb_7 167 (by decide +kernel) (by decide +kernel)), by decide +kernel, tyX11_ok, nmX11, by decide +kernel, by decide +kernel⟩
theorem pf_RX11_157 : hPK RX11 157 11 22 (.array .int) true := ⟨RX11, TX11, 58, tyX11, rfl, inB11, by decide, (tb_7 168 (by decide +kernel) (by decide +kernel)), by decide +kernel, tyX11_ok, nmX11, by decide +kernel, by decide +kernel⟩
theorem pf_RX11_140 : hPK RX11 140 11 23 (.array .int) true := ⟨RX11, TX11, 58, tyX11, rfl, inB11, by decide, (tb_7 169 (by decide +kernel) (by decide +kernel)), by decide +kernel, tyX11_ok, nmX11, by decide +kernel, by decide +kernel⟩
theorem pf_RX11_322 : hPK RX11 322 11 24 (.array .int) true := ⟨RX11, TX11, 58, tyX11, rfl, inB11, by decide, (tb_7 170 (by decide +kernel) (by decide +kernel)), by decide +kernel, tyX11_ok, nmX11, by decide +kernel, by decide +kernel⟩
theorem pf_RX11_196 : hPK RX11 196 11 25 (.array .int) true := ⟨RX11, TX11, 58, tyX11, rfl, inB11, by decide, (tb_7 171 (by decide +kernel) (by decide +kernel)), by decide +kernel, tyX11_ok, nmX11, by decide +kernel, by decide +kernel⟩
theorem pf_RX11_199 : hPK RX11 199 11 26 (.array .int) true := ⟨RX11, TX11, 58, tyX11, rfl, inB11, by decide, (tb_7 172 (by decide +kernel) (by decide +kernel)), by decide +kernel, tyX11_ok, nmX11, by decide +kernel, by decide +kernel⟩
theorem pf_RX11_246 : hPK RX11 246 11 27 (.array .int) true := ⟨RX11, TX11, 58, tyX11, rfl, inB11, by decide, (tb_7 173 (by decide +kernel) (by decide +kernel)), by decide +kernel, tyX11_ok, nmX11, by decide +kernel, by decide +kernel⟩
theorem pf_RX11_173 : hPK RX11 173 11 28 (.array .int) true := ⟨RX11, TX11, 58, tyX11, rfl, inB11, by decide, (tb_7 174 (by decide +kernel) (by decide +kernel)), by decide +kernel, tyX11_ok, nmX11, by decide +kernel, by decide +kernel⟩
theorem pf_RX11_287 : hPK RX11 287 11 33 (.array .int) true := ⟨RX11, TX11, 58, tyX11, rfl, inB11, by decide, (tb_7 179 (by decide +kernel) (by decide +kernel)), by decide +kernel, tyX11_ok, nmX11, by decide +kernel, by decide +kernel⟩
theorem pf_RX11_338 : hPK RX11 338 11 38 (.array .int) false := ⟨RX11, TX11, 58, tyX11, rfl, inB11, by decide, (tb_7 184 (by decide +kernel) (by decide +kernel)), by decide +kernel, tyX11_ok, nmX11, by decide +kernel, by decide +kernel⟩
theorem pf_RX11_347 : hPK RX11 347 11 39 (.array .int) false := ⟨RX11, TX11, 58, tyX11, rfl, inB11, by decide, (tb_7 185 (by decide +kernel) (by decide +kernel)), by decide +kernel, tyX11_ok, nmX11, by decide +kernel, by decide +kernel⟩
theorem pf_RX11_335 : hPK RX11 335 11 40 (.array .int) true := ⟨RX11, TX11, 58, tyX11, rfl, inB11, by decide, (tb_7 186 (by decide +kernel) (by decide +kernel)), by decide +kernel, tyX11_ok, nmX11, by decide +kernel, by decide +kernel⟩
theorem pf_RX11_394 : hPK RX11 394 11 43 (.array .long) false := ⟨RX11, TX11, 58, tyX11, rfl, inB11, by decide, (tb_7 189 (by decide +kernel) (by decide +kernel)), by decide +kernel, tyX11_ok, nmX11, by decide +kernel, by decide +kernel⟩
theorem pf_RX11_374 : hPK RX11 374 11 44 (.array .long) false := ⟨RX11, TX11, 58, tyX11, rfl, inB11, by decide, (tb_7 190 (by decide +kernel) (by decide +kernel)), by decide +kernel, tyX11_ok, nmX11, by decide +kernel, by decide +kernel⟩
theorem pf_RX11_411 : hPK RX11 411 11 48 (.array .int) true := ⟨RX11, TX11, 58, tyX11, rfl, inB11, by decide, (tb_7 194 (by decide +kernel) (by decide +kernel)), by decide +kernel, tyX11_ok, nmX11, by decide +kernel, by decide +kernel⟩
theorem pf_RX11_425 : hPK RX11 425 11 49 (.array .int) true := ⟨RX11, TX11, 58, tyX11, rfl, inB11, by decide, (tb_7 195 (by decide +kernel) (by decide +kernel)), by decide +kernel, tyX11_ok, nmX11, by decide +kernel, by decide +kernel⟩
theorem pf_RX11_437 : hPK RX11 437 11 51 (.array .int) true := ⟨RX11, TX11, 58, tyX11, rfl, inB11, by decide, (tb_7 197 (by decide +kernel) (by decide +kernel)), by decide +kernel, tyX11_ok, nmX11, by decide +kernel, by decide +kernel⟩
theorem pf_RX11_440 : hPK RX11 440 11 52 (.array .int) true := ⟨RX11, TX11, 58, tyX11, rfl, inB11, by decide, (tb_7 198 (by decide +kernel) (by decide +kernel)), by decide +kernel, tyX11_ok, nmX11, by decide +kernel, by decide +kernel⟩
theorem pf_RX11_443 : hPK RX11 443 11 53 (.array .int) true := ⟨RX11, TX11, 58, tyX11, rfl, inB11, by decide, (tb_7 199 (by decide +kernel) (by decide +kernel)), by decide +kernel, tyX11_ok, nmX11, by decide +kernel, by decide +kernel⟩
theorem pf_RX11_446 : hPK RX11 446 11 54 (.array .int) true := ⟨RX11, TX11, 58, tyX11, rfl, inB11, by decide, (tb_7 200 (by decide +kernel) (by decide +kernel)), by decide +kernel, tyX11_ok, nmX11, by decide +kernel, by decide +kernel⟩
theorem pf_RX11_456 : hPK RX11 456 11 55 (.array .long) true := ⟨RX11, TX11, 58, tyX11, rfl, inB11, by decide, (tb_7 201 (by decide +kernel) (by decide +kernel)), by decide +kernel, tyX11_ok, nmX11, by decide +kernel, by decide +kernel⟩
theorem pf_RX11_469 : hPK RX11 469 11 56 (.array .int) true := ⟨RX11, TX11, 58, tyX11, rfl, inB11, by decide, (tb_7 202 (by decide +kernel) (by decide +kernel)), by decide +kernel, tyX11_ok, nmX11, by decide +kernel, by decide +kernel⟩
theorem pf_RX11_472 : hPK RX11 472 11 57 (.array .int) true := ⟨RX11, TX11, 58, tyX11, rfl, inB11, by decide, (tb_7 203 (by decide +kernel) (by decide +kernel)), by decide +kernel, tyX11_ok, nmX11, by decide +kernel, by decide +kernel⟩
theorem wo_1 : Cond.instanceMethod objectInit ∈ lw_tb := (tb_1 32 (by decide +kernel) (by decide +kernel))
theorem wo_2 : Cond.code objectInit ⟨#[0xb1]⟩ 1 none ∈ lw_tb := (tb_1 33 (by decide +kernel) (by decide +kernel))
theorem dX0_init_0 : decode cX0_init 0 = .ok (.aload_n 0, 1) := by decide +kernel
theorem dX0_init_1 : decode cX0_init 1 = .ok (.invokespecial 3, 3) := by decide +kernel
theorem dX0_init_4 : decode cX0_init 4 = .ok (.aload_n 0, 1) := by decide +kernel
theorem dX0_init_5 : decode cX0_init 5 = .ok (.bipush 6, 2) := by decide +kernel
theorem dX0_init_7 : decode cX0_init 7 = .ok (.anewarray 9, 3) := by decide +kernel
theorem dX0_init_10 : decode cX0_init 10 = .ok (.putfield 11, 3) := by decide +kernel
theorem dX0_init_13 : decode cX0_init 13 = .ok (.aload_n 0, 1) := by decide +kernel
theorem dX0_init_14 : decode cX0_init 14 = .ok (.bipush 36, 2) := by decide +kernel
theorem dX0_init_16 : decode cX0_init 16 = .ok (.newarray .int, 2) := by decide +kernel
theorem dX0_init_18 : decode cX0_init 18 = .ok (.putfield 17, 3) := by decide +kernel
theorem dX0_init_21 : decode cX0_init 21 = .ok (.aload_n 0, 1) := by decide +kernel
theorem dX0_init_22 : decode cX0_init 22 = .ok (.sipush 2560, 3) := by decide +kernel
theorem dX0_init_25 : decode cX0_init 25 = .ok (.newarray .int, 2) := by decide +kernel
theorem dX0_init_27 : decode cX0_init 27 = .ok (.putfield 21, 3) := by decide +kernel
theorem dX0_init_30 : decode cX0_init 30 = .ok (.aload_n 0, 1) := by decide +kernel
theorem dX0_init_31 : decode cX0_init 31 = .ok (.sipush 240, 3) := by decide +kernel
theorem dX0_init_34 : decode cX0_init 34 = .ok (.newarray .long, 2) := by decide +kernel
theorem dX0_init_36 : decode cX0_init 36 = .ok (.putfield 24, 3) := by decide +kernel
theorem dX0_init_39 : decode cX0_init 39 = .ok (.aload_n 0, 1) := by decide +kernel
theorem dX0_init_40 : decode cX0_init 40 = .ok (.iconst 0, 1) := by decide +kernel
theorem dX0_init_41 : decode cX0_init 41 = .ok (.putfield 28, 3) := by decide +kernel
theorem dX0_init_44 : decode cX0_init 44 = .ok (.aload_n 0, 1) := by decide +kernel
theorem dX0_init_45 : decode cX0_init 45 = .ok (.iconst 4, 1) := by decide +kernel
theorem dX0_init_46 : decode cX0_init 46 = .ok (.putfield 32, 3) := by decide +kernel
theorem dX0_init_49 : decode cX0_init 49 = .ok (.aload_n 0, 1) := by decide +kernel
theorem dX0_init_50 : decode cX0_init 50 = .ok (.bipush 10, 2) := by decide +kernel
theorem dX0_init_52 : decode cX0_init 52 = .ok (.putfield 35, 3) := by decide +kernel
theorem dX0_init_55 : decode cX0_init 55 = .ok (.iconst 0, 1) := by decide +kernel
theorem dX0_init_56 : decode cX0_init 56 = .ok (.istore_n 1, 1) := by decide +kernel
theorem dX0_init_57 : decode cX0_init 57 = .ok (.iload_n 1, 1) := by decide +kernel
theorem dX0_init_58 : decode cX0_init 58 = .ok (.bipush 6, 2) := by decide +kernel
theorem dX0_init_60 : decode cX0_init 60 = .ok (.if_icmp .ge 35, 3) := by decide +kernel
theorem dX0_init_63 : decode cX0_init 63 = .ok (.aload_n 0, 1) := by decide +kernel
theorem dX0_init_64 : decode cX0_init 64 = .ok (.getfield 11, 3) := by decide +kernel
theorem dX0_init_67 : decode cX0_init 67 = .ok (.iload_n 1, 1) := by decide +kernel
theorem dX0_init_68 : decode cX0_init 68 = .ok (.new 9, 3) := by decide +kernel
theorem dX0_init_71 : decode cX0_init 71 = .ok (.dup, 1) := by decide +kernel
theorem dX0_init_72 : decode cX0_init 72 = .ok (.invokespecial 38, 3) := by decide +kernel
theorem dX0_init_75 : decode cX0_init 75 = .ok (.aastore, 1) := by decide +kernel
theorem dX0_init_76 : decode cX0_init 76 = .ok (.aload_n 0, 1) := by decide +kernel
theorem dX0_init_77 : decode cX0_init 77 = .ok (.getfield 17, 3) := by decide +kernel
theorem dX0_init_80 : decode cX0_init 80 = .ok (.iload_n 1, 1) := by decide +kernel
theorem dX0_init_81 : decode cX0_init 81 = .ok (.bipush 6, 2) := by decide +kernel
theorem dX0_init_83 : decode cX0_init 83 = .ok (.imul, 1) := by decide +kernel
theorem dX0_init_84 : decode cX0_init 84 = .ok (.iload_n 1, 1) := by decide +kernel
theorem dX0_init_85 : decode cX0_init 85 = .ok (.iadd, 1) := by decide +kernel
theorem dX0_init_86 : decode cX0_init 86 = .ok (.bipush 9, 2) := by decide +kernel
theorem dX0_init_88 : decode cX0_init 88 = .ok (.iastore, 1) := by decide +kernel
theorem dX0_init_89 : decode cX0_init 89 = .ok (.iinc 1 1, 3) := by decide +kernel
theorem dX0_init_92 : decode cX0_init 92 = .ok (.goto (-35), 3) := by decide +kernel
theorem dX0_init_95 : decode cX0_init 95 = .ok (.return_, 1) := by decide +kernel
theorem dX1_init_0 : decode cX1_init 0 = .ok (.aload_n 0, 1) := by decide +kernel
theorem dX1_init_1 : decode cX1_init 1 = .ok (.invokespecial 3, 3) := by decide +kernel
theorem dX1_init_4 : decode cX1_init 4 = .ok (.aload_n 0, 1) := by decide +kernel
theorem dX1_init_5 : decode cX1_init 5 = .ok (.bipush 11, 2) := by decide +kernel
theorem dX1_init_7 : decode cX1_init 7 = .ok (.newarray .long, 2) := by decide +kernel
theorem dX1_init_9 : decode cX1_init 9 = .ok (.putfield 9, 3) := by decide +kernel
theorem dX1_init_12 : decode cX1_init 12 = .ok (.aload_n 0, 1) := by decide +kernel
theorem dX1_init_13 : decode cX1_init 13 = .ok (.iconst 0, 1) := by decide +kernel
theorem dX1_init_14 : decode cX1_init 14 = .ok (.putfield 15, 3) := by decide +kernel
theorem dX1_init_17 : decode cX1_init 17 = .ok (.return_, 1) := by decide +kernel
theorem dX2_init_0 : decode cX2_init 0 = .ok (.aload_n 0, 1) := by decide +kernel
theorem dX2_init_1 : decode cX2_init 1 = .ok (.invokespecial 3, 3) := by decide +kernel
theorem dX2_init_4 : decode cX2_init 4 = .ok (.aload_n 0, 1) := by decide +kernel
theorem dX2_init_5 : decode cX2_init 5 = .ok (.bipush 100, 2) := by decide +kernel
theorem dX2_init_7 : decode cX2_init 7 = .ok (.newarray .boolean, 2) := by decide +kernel
theorem dX2_init_9 : decode cX2_init 9 = .ok (.putfield 9, 3) := by decide +kernel
theorem dX2_init_12 : decode cX2_init 12 = .ok (.return_, 1) := by decide +kernel
theorem dX3_init_0 : decode cX3_init 0 = .ok (.aload_n 0, 1) := by decide +kernel
theorem dX3_init_1 : decode cX3_init 1 = .ok (.invokespecial 3, 3) := by decide +kernel
theorem dX3_init_4 : decode cX3_init 4 = .ok (.aload_n 0, 1) := by decide +kernel
theorem dX3_init_5 : decode cX3_init 5 = .ok (.bipush 9, 2) := by decide +kernel
theorem dX3_init_7 : decode cX3_init 7 = .ok (.newarray .int, 2) := by decide +kernel
theorem dX3_init_9 : decode cX3_init 9 = .ok (.putfield 9, 3) := by decide +kernel
theorem dX3_init_12 : decode cX3_init 12 = .ok (.aload_n 0, 1) := by decide +kernel
theorem dX3_init_13 : decode cX3_init 13 = .ok (.bipush 9, 2) := by decide +kernel
theorem dX3_init_15 : decode cX3_init 15 = .ok (.newarray .int, 2) := by decide +kernel
theorem dX3_init_17 : decode cX3_init 17 = .ok (.putfield 15, 3) := by decide +kernel
theorem dX3_init_20 : decode cX3_init 20 = .ok (.aload_n 0, 1) := by decide +kernel
theorem dX3_init_21 : decode cX3_init 21 = .ok (.bipush 9, 2) := by decide +kernel
theorem dX3_init_23 : decode cX3_init 23 = .ok (.newarray .int, 2) := by decide +kernel
theorem dX3_init_25 : decode cX3_init 25 = .ok (.putfield 18, 3) := by decide +kernel
theorem dX3_init_28 : decode cX3_init 28 = .ok (.aload_n 0, 1) := by decide +kernel
theorem dX3_init_29 : decode cX3_init 29 = .ok (.bipush 9, 2) := by decide +kernel
theorem dX3_init_31 : decode cX3_init 31 = .ok (.newarray .int, 2) := by decide +kernel
theorem dX3_init_33 : decode cX3_init 33 = .ok (.putfield 21, 3) := by decide +kernel
theorem dX3_init_36 : decode cX3_init 36 = .ok (.aload_n 0, 1) := by decide +kernel
theorem dX3_init_37 : decode cX3_init 37 = .ok (.iconst 0, 1) := by decide +kernel
theorem dX3_init_38 : decode cX3_init 38 = .ok (.putfield 24, 3) := by decide +kernel
theorem dX3_init_41 : decode cX3_init 41 = .ok (.return_, 1) := by decide +kernel
theorem dX4_init_0 : decode cX4_init 0 = .ok (.aload_n 0, 1) := by decide +kernel
theorem dX4_init_1 : decode cX4_init 1 = .ok (.invokespecial 3, 3) := by decide +kernel
theorem dX4_init_4 : decode cX4_init 4 = .ok (.aload_n 0, 1) := by decide +kernel
theorem dX4_init_5 : decode cX4_init 5 = .ok (.bipush 8, 2) := by decide +kernel
theorem dX4_init_7 : decode cX4_init 7 = .ok (.newarray .int, 2) := by decide +kernel
theorem dX4_init_9 : decode cX4_init 9 = .ok (.putfield 9, 3) := by decide +kernel
theorem dX4_init_12 : decode cX4_init 12 = .ok (.aload_n 0, 1) := by decide +kernel
theorem dX4_init_13 : decode cX4_init 13 = .ok (.bipush 8, 2) := by decide +kernel
theorem dX4_init_15 : decode cX4_init 15 = .ok (.newarray .int, 2) := by decide +kernel
theorem dX4_init_17 : decode cX4_init 17 = .ok (.putfield 15, 3) := by decide +kernel
theorem dX4_init_20 : decode cX4_init 20 = .ok (.aload_n 0, 1) := by decide +kernel
theorem dX4_init_21 : decode cX4_init 21 = .ok (.bipush 8, 2) := by decide +kernel
theorem dX4_init_23 : decode cX4_init 23 = .ok (.newarray .int, 2) := by decide +kernel
theorem dX4_init_25 : decode cX4_init 25 = .ok (.putfield 18, 3) := by decide +kernel
theorem dX4_init_28 : decode cX4_init 28 = .ok (.aload_n 0, 1) := by decide +kernel
theorem dX4_init_29 : decode cX4_init 29 = .ok (.bipush 8, 2) := by decide +kernel
theorem dX4_init_31 : decode cX4_init 31 = .ok (.newarray .int, 2) := by decide +kernel
theorem dX4_init_33 : decode cX4_init 33 = .ok (.putfield 21, 3) := by decide +kernel
theorem dX4_init_36 : decode cX4_init 36 = .ok (.aload_n 0, 1) := by decide +kernel
theorem dX4_init_37 : decode cX4_init 37 = .ok (.bipush 8, 2) := by decide +kernel
theorem dX4_init_39 : decode cX4_init 39 = .ok (.newarray .int, 2) := by decide +kernel
theorem dX4_init_41 : decode cX4_init 41 = .ok (.putfield 24, 3) := by decide +kernel
theorem dX4_init_44 : decode cX4_init 44 = .ok (.aload_n 0, 1) := by decide +kernel
theorem dX4_init_45 : decode cX4_init 45 = .ok (.bipush 8, 2) := by decide +kernel
theorem dX4_init_47 : decode cX4_init 47 = .ok (.newarray .int, 2) := by decide +kernel
theorem dX4_init_49 : decode cX4_init 49 = .ok (.putfield 27, 3) := by decide +kernel
theorem dX4_init_52 : decode cX4_init 52 = .ok (.aload_n 0, 1) := by decide +kernel
theorem dX4_init_53 : decode cX4_init 53 = .ok (.iconst 0, 1) := by decide +kernel
theorem dX4_init_54 : decode cX4_init 54 = .ok (.putfield 30, 3) := by decide +kernel
theorem dX4_init_57 : decode cX4_init 57 = .ok (.return_, 1) := by decide +kernel
theorem dX5_init_0 : decode cX5_init 0 = .ok (.aload_n 0, 1) := by decide +kernel
theorem dX5_init_1 : decode cX5_init 1 = .ok (.invokespecial 3, 3) := by decide +kernel
theorem dX5_init_4 : decode cX5_init 4 = .ok (.aload_n 0, 1) := by decide +kernel
theorem dX5_init_5 : decode cX5_init 5 = .ok (.bipush 40, 2) := by decide +kernel
theorem dX5_init_7 : decode cX5_init 7 = .ok (.newarray .int, 2) := by decide +kernel
theorem dX5_init_9 : decode cX5_init 9 = .ok (.putfield 9, 3) := by decide +kernel
theorem dX5_init_12 : decode cX5_init 12 = .ok (.aload_n 0, 1) := by decide +kernel
theorem dX5_init_13 : decode cX5_init 13 = .ok (.iconst 0, 1) := by decide +kernel
theorem dX5_init_14 : decode cX5_init 14 = .ok (.putfield 15, 3) := by decide +kernel
theorem dX5_init_17 : decode cX5_init 17 = .ok (.aload_n 0, 1) := by decide +kernel
theorem dX5_init_18 : decode cX5_init 18 = .ok (.bipush 40, 2) := by decide +kernel
theorem dX5_init_20 : decode cX5_init 20 = .ok (.newarray .int, 2) := by decide +kernel
theorem dX5_init_22 : decode cX5_init 22 = .ok (.putfield 19, 3) := by decide +kernel
theorem dX5_init_25 : decode cX5_init 25 = .ok (.aload_n 0, 1) := by decide +kernel
theorem dX5_init_26 : decode cX5_init 26 = .ok (.iconst 0, 1) := by decide +kernel
theorem dX5_init_27 : decode cX5_init 27 = .ok (.putfield 22, 3) := by decide +kernel
theorem dX5_init_30 : decode cX5_init 30 = .ok (.return_, 1) := by decide +kernel
theorem dX6_init_0 : decode cX6_init 0 = .ok (.aload_n 0, 1) := by decide +kernel
theorem dX6_init_1 : decode cX6_init 1 = .ok (.invokespecial 3, 3) := by decide +kernel
theorem dX6_init_4 : decode cX6_init 4 = .ok (.aload_n 0, 1) := by decide +kernel
theorem dX6_init_5 : decode cX6_init 5 = .ok (.bipush 40, 2) := by decide +kernel
theorem dX6_init_7 : decode cX6_init 7 = .ok (.newarray .int, 2) := by decide +kernel
theorem dX6_init_9 : decode cX6_init 9 = .ok (.putfield 9, 3) := by decide +kernel
theorem dX6_init_12 : decode cX6_init 12 = .ok (.aload_n 0, 1) := by decide +kernel
theorem dX6_init_13 : decode cX6_init 13 = .ok (.iconst 0, 1) := by decide +kernel
theorem dX6_init_14 : decode cX6_init 14 = .ok (.putfield 15, 3) := by decide +kernel
theorem dX6_init_17 : decode cX6_init 17 = .ok (.aload_n 0, 1) := by decide +kernel
theorem dX6_init_18 : decode cX6_init 18 = .ok (.bipush 40, 2) := by decide +kernel
theorem dX6_init_20 : decode cX6_init 20 = .ok (.newarray .int, 2) := by decide +kernel
theorem dX6_init_22 : decode cX6_init 22 = .ok (.putfield 19, 3) := by decide +kernel
theorem dX6_init_25 : decode cX6_init 25 = .ok (.aload_n 0, 1) := by decide +kernel
theorem dX6_init_26 : decode cX6_init 26 = .ok (.iconst 0, 1) := by decide +kernel
theorem dX6_init_27 : decode cX6_init 27 = .ok (.putfield 22, 3) := by decide +kernel
theorem dX6_init_30 : decode cX6_init 30 = .ok (.aload_n 0, 1) := by decide +kernel
theorem dX6_init_31 : decode cX6_init 31 = .ok (.iconst 0, 1) := by decide +kernel
theorem dX6_init_32 : decode cX6_init 32 = .ok (.putfield 25, 3) := by decide +kernel
theorem dX6_init_35 : decode cX6_init 35 = .ok (.aload_n 0, 1) := by decide +kernel
theorem dX6_init_36 : decode cX6_init 36 = .ok (.bipush 6, 2) := by decide +kernel
theorem dX6_init_38 : decode cX6_init 38 = .ok (.newarray .boolean, 2) := by decide +kernel
theorem dX6_init_40 : decode cX6_init 40 = .ok (.putfield 28, 3) := by decide +kernel
theorem dX6_init_43 : decode cX6_init 43 = .ok (.aload_n 0, 1) := by decide +kernel
theorem dX6_init_44 : decode cX6_init 44 = .ok (.iconst 1, 1) := by decide +kernel
theorem dX6_init_45 : decode cX6_init 45 = .ok (.putfield 32, 3) := by decide +kernel
theorem dX6_init_48 : decode cX6_init 48 = .ok (.aload_n 0, 1) := by decide +kernel
theorem dX6_init_49 : decode cX6_init 49 = .ok (.iconst 0, 1) := by decide +kernel
theorem dX6_init_50 : decode cX6_init 50 = .ok (.putfield 36, 3) := by decide +kernel
theorem dX6_init_53 : decode cX6_init 53 = .ok (.return_, 1) := by decide +kernel
theorem dX7_init_0 : decode cX7_init 0 = .ok (.aload_n 0, 1) := by decide +kernel
theorem dX7_init_1 : decode cX7_init 1 = .ok (.invokespecial 3, 3) := by decide +kernel
theorem dX7_init_4 : decode cX7_init 4 = .ok (.aload_n 0, 1) := by decide +kernel
theorem dX7_init_5 : decode cX7_init 5 = .ok (.iconst 0, 1) := by decide +kernel
theorem dX7_init_6 : decode cX7_init 6 = .ok (.putfield 9, 3) := by decide +kernel
theorem dX7_init_9 : decode cX7_init 9 = .ok (.aload_n 0, 1) := by decide +kernel
theorem dX7_init_10 : decode cX7_init 10 = .ok (.iconst 0, 1) := by decide +kernel
theorem dX7_init_11 : decode cX7_init 11 = .ok (.putfield 15, 3) := by decide +kernel
theorem dX7_init_14 : decode cX7_init 14 = .ok (.aload_n 0, 1) := by decide +kernel
theorem dX7_init_15 : decode cX7_init 15 = .ok (.iconst 0, 1) := by decide +kernel
theorem dX7_init_16 : decode cX7_init 16 = .ok (.putfield 18, 3) := by decide +kernel
theorem dX7_init_19 : decode cX7_init 19 = .ok (.aload_n 0, 1) := by decide +kernel
theorem dX7_init_20 : decode cX7_init 20 = .ok (.bipush 8, 2) := by decide +kernel
theorem dX7_init_22 : decode cX7_init 22 = .ok (.newarray .int, 2) := by decide +kernel
theorem dX7_init_24 : decode cX7_init 24 = .ok (.putfield 21, 3) := by decide +kernel
theorem dX7_init_27 : decode cX7_init 27 = .ok (.aload_n 0, 1) := by decide +kernel
theorem dX7_init_28 : decode cX7_init 28 = .ok (.bipush 8, 2) := by decide +kernel
theorem dX7_init_30 : decode cX7_init 30 = .ok (.newarray .int, 2) := by decide +kernel
theorem dX7_init_32 : decode cX7_init 32 = .ok (.putfield 25, 3) := by decide +kernel
theorem dX7_init_35 : decode cX7_init 35 = .ok (.aload_n 0, 1) := by decide +kernel
theorem dX7_init_36 : decode cX7_init 36 = .ok (.bipush 8, 2) := by decide +kernel
theorem dX7_init_38 : decode cX7_init 38 = .ok (.newarray .int, 2) := by decide +kernel
theorem dX7_init_40 : decode cX7_init 40 = .ok (.putfield 28, 3) := by decide +kernel
theorem dX7_init_43 : decode cX7_init 43 = .ok (.aload_n 0, 1) := by decide +kernel
theorem dX7_init_44 : decode cX7_init 44 = .ok (.bipush 8, 2) := by decide +kernel
theorem dX7_init_46 : decode cX7_init 46 = .ok (.newarray .int, 2) := by decide +kernel
theorem dX7_init_48 : decode cX7_init 48 = .ok (.putfield 31, 3) := by decide +kernel
theorem dX7_init_51 : decode cX7_init 51 = .ok (.aload_n 0, 1) := by decide +kernel
theorem dX7_init_52 : decode cX7_init 52 = .ok (.bipush 8, 2) := by decide +kernel
theorem dX7_init_54 : decode cX7_init 54 = .ok (.newarray .int, 2) := by decide +kernel
theorem dX7_init_56 : decode cX7_init 56 = .ok (.putfield 34, 3) := by decide +kernel
theorem dX7_init_59 : decode cX7_init 59 = .ok (.aload_n 0, 1) := by decide +kernel
theorem dX7_init_60 : decode cX7_init 60 = .ok (.bipush 8, 2) := by decide +kernel
theorem dX7_init_62 : decode cX7_init 62 = .ok (.newarray .int, 2) := by decide +kernel
theorem dX7_init_64 : decode cX7_init 64 = .ok (.putfield 37, 3) := by decide +kernel
theorem dX7_init_67 : decode cX7_init 67 = .ok (.aload_n 0, 1) := by decide +kernel
theorem dX7_init_68 : decode cX7_init 68 = .ok (.bipush 8, 2) := by decide +kernel
theorem dX7_init_70 : decode cX7_init 70 = .ok (.newarray .int, 2) := by decide +kernel
theorem dX7_init_72 : decode cX7_init 72 = .ok (.putfield 40, 3) := by decide +kernel
theorem dX7_init_75 : decode cX7_init 75 = .ok (.aload_n 0, 1) := by decide +kernel
theorem dX7_init_76 : decode cX7_init 76 = .ok (.iconst 0, 1) := by decide +kernel
theorem dX7_init_77 : decode cX7_init 77 = .ok (.putfield 43, 3) := by decide +kernel
theorem dX7_init_80 : decode cX7_init 80 = .ok (.aload_n 0, 1) := by decide +kernel
theorem dX7_init_81 : decode cX7_init 81 = .ok (.bipush 60, 2) := by decide +kernel
theorem dX7_init_83 : decode cX7_init 83 = .ok (.newarray .int, 2) := by decide +kernel
theorem dX7_init_85 : decode cX7_init 85 = .ok (.putfield 46, 3) := by decide +kernel
theorem dX7_init_88 : decode cX7_init 88 = .ok (.aload_n 0, 1) := by decide +kernel
theorem dX7_init_89 : decode cX7_init 89 = .ok (.iconst 0, 1) := by decide +kernel
theorem dX7_init_90 : decode cX7_init 90 = .ok (.putfield 49, 3) := by decide +kernel
theorem dX7_init_93 : decode cX7_init 93 = .ok (.return_, 1) := by decide +kernel
theorem dX8_init_0 : decode cX8_init 0 = .ok (.aload_n 0, 1) := by decide +kernel
theorem dX8_init_1 : decode cX8_init 1 = .ok (.invokespecial 3, 3) := by decide +kernel
theorem dX8_init_4 : decode cX8_init 4 = .ok (.aload_n 0, 1) := by decide +kernel
theorem dX8_init_5 : decode cX8_init 5 = .ok (.iconst 1, 1) := by decide +kernel
theorem dX8_init_6 : decode cX8_init 6 = .ok (.putfield 9, 3) := by decide +kernel
theorem dX8_init_9 : decode cX8_init 9 = .ok (.aload_n 0, 1) := by decide +kernel
theorem dX8_init_10 : decode cX8_init 10 = .ok (.iconst 1, 1) := by decide +kernel
theorem dX8_init_11 : decode cX8_init 11 = .ok (.putfield 15, 3) := by decide +kernel
theorem dX8_init_14 : decode cX8_init 14 = .ok (.aload_n 0, 1) := by decide +kernel
theorem dX8_init_15 : decode cX8_init 15 = .ok (.iconst 0, 1) := by decide +kernel
theorem dX8_init_16 : decode cX8_init 16 = .ok (.putfield 18, 3) := by decide +kernel
theorem dX8_init_19 : decode cX8_init 19 = .ok (.aload_n 0, 1) := by decide +kernel
theorem dX8_init_20 : decode cX8_init 20 = .ok (.bipush 6, 2) := by decide +kernel
theorem dX8_init_22 : decode cX8_init 22 = .ok (.newarray .int, 2) := by decide +kernel
theorem dX8_init_24 : decode cX8_init 24 = .ok (.putfield 22, 3) := by decide +kernel
theorem dX8_init_27 : decode cX8_init 27 = .ok (.aload_n 0, 1) := by decide +kernel
theorem dX8_init_28 : decode cX8_init 28 = .ok (.iconst 0, 1) := by decide +kernel
theorem dX8_init_29 : decode cX8_init 29 = .ok (.putfield 26, 3) := by decide +kernel
theorem dX8_init_32 : decode cX8_init 32 = .ok (.aload_n 0, 1) := by decide +kernel
theorem dX8_init_33 : decode cX8_init 33 = .ok (.aload_n 1, 1) := by decide +kernel
theorem dX8_init_34 : decode cX8_init 34 = .ok (.putfield 29, 3) := by decide +kernel
theorem dX8_init_37 : decode cX8_init 37 = .ok (.aload_n 0, 1) := by decide +kernel
theorem dX8_init_38 : decode cX8_init 38 = .ok (.aload_n 2, 1) := by decide +kernel
theorem dX8_init_39 : decode cX8_init 39 = .ok (.putfield 33, 3) := by decide +kernel
theorem dX8_init_42 : decode cX8_init 42 = .ok (.aload_n 0, 1) := by decide +kernel
theorem dX8_init_43 : decode cX8_init 43 = .ok (.aload_n 3, 1) := by decide +kernel
theorem dX8_init_44 : decode cX8_init 44 = .ok (.putfield 37, 3) := by decide +kernel
theorem dX8_init_47 : decode cX8_init 47 = .ok (.return_, 1) := by decide +kernel
theorem dX9_init_0 : decode cX9_init 0 = .ok (.aload_n 0, 1) := by decide +kernel
theorem dX9_init_1 : decode cX9_init 1 = .ok (.invokespecial 3, 3) := by decide +kernel
theorem dX9_init_4 : decode cX9_init 4 = .ok (.aload_n 0, 1) := by decide +kernel
theorem dX9_init_5 : decode cX9_init 5 = .ok (.sipush 156, 3) := by decide +kernel
theorem dX9_init_8 : decode cX9_init 8 = .ok (.newarray .int, 2) := by decide +kernel
theorem dX9_init_10 : decode cX9_init 10 = .ok (.putfield 9, 3) := by decide +kernel
theorem dX9_init_13 : decode cX9_init 13 = .ok (.aload_n 0, 1) := by decide +kernel
theorem dX9_init_14 : decode cX9_init 14 = .ok (.sipush 156, 3) := by decide +kernel
theorem dX9_init_17 : decode cX9_init 17 = .ok (.newarray .int, 2) := by decide +kernel
theorem dX9_init_19 : decode cX9_init 19 = .ok (.putfield 15, 3) := by decide +kernel
theorem dX9_init_22 : decode cX9_init 22 = .ok (.aload_n 0, 1) := by decide +kernel
theorem dX9_init_23 : decode cX9_init 23 = .ok (.sipush 156, 3) := by decide +kernel
theorem dX9_init_26 : decode cX9_init 26 = .ok (.newarray .int, 2) := by decide +kernel
theorem dX9_init_28 : decode cX9_init 28 = .ok (.putfield 18, 3) := by decide +kernel
theorem dX9_init_31 : decode cX9_init 31 = .ok (.aload_n 0, 1) := by decide +kernel
theorem dX9_init_32 : decode cX9_init 32 = .ok (.iconst 0, 1) := by decide +kernel
theorem dX9_init_33 : decode cX9_init 33 = .ok (.putfield 21, 3) := by decide +kernel
theorem dX9_init_36 : decode cX9_init 36 = .ok (.aload_n 0, 1) := by decide +kernel
theorem dX9_init_37 : decode cX9_init 37 = .ok (.iconst 0, 1) := by decide +kernel
theorem dX9_init_38 : decode cX9_init 38 = .ok (.putfield 25, 3) := by decide +kernel
theorem dX9_init_41 : decode cX9_init 41 = .ok (.aload_n 0, 1) := by decide +kernel
theorem dX9_init_42 : decode cX9_init 42 = .ok (.sipush 156, 3) := by decide +kernel
theorem dX9_init_45 : decode cX9_init 45 = .ok (.newarray .int, 2) := by decide +kernel
theorem dX9_init_47 : decode cX9_init 47 = .ok (.putfield 28, 3) := by decide +kernel
theorem dX9_init_50 : decode cX9_init 50 = .ok (.aload_n 0, 1) := by decide +kernel
theorem dX9_init_51 : decode cX9_init 51 = .ok (.sipush 3255, 3) := by decide +kernel
theorem dX9_init_54 : decode cX9_init 54 = .ok (.newarray .int, 2) := by decide +kernel
theorem dX9_init_56 : decode cX9_init 56 = .ok (.putfield 31, 3) := by decide +kernel
theorem dX9_init_59 : decode cX9_init 59 = .ok (.aload_n 0, 1) := by decide +kernel
theorem dX9_init_60 : decode cX9_init 60 = .ok (.bipush 36, 2) := by decide +kernel
theorem dX9_init_62 : decode cX9_init 62 = .ok (.newarray .int, 2) := by decide +kernel
theorem dX9_init_64 : decode cX9_init 64 = .ok (.putfield 34, 3) := by decide +kernel
theorem dX9_init_67 : decode cX9_init 67 = .ok (.aload_n 0, 1) := by decide +kernel
theorem dX9_init_68 : decode cX9_init 68 = .ok (.aload_n 1, 1) := by decide +kernel
theorem dX9_init_69 : decode cX9_init 69 = .ok (.putfield 37, 3) := by decide +kernel
theorem dX9_init_72 : decode cX9_init 72 = .ok (.return_, 1) := by decide +kernel
theorem dX10_init_0 : decode cX10_init 0 = .ok (.aload_n 0, 1) := by decide +kernel
theorem dX10_init_1 : decode cX10_init 1 = .ok (.invokespecial 3, 3) := by decide +kernel
theorem dX10_init_4 : decode cX10_init 4 = .ok (.aload_n 0, 1) := by decide +kernel
theorem dX10_init_5 : decode cX10_init 5 = .ok (.new 9, 3) := by decide +kernel
theorem dX10_init_8 : decode cX10_init 8 = .ok (.dup, 1) := by decide +kernel
theorem dX10_init_9 : decode cX10_init 9 = .ok (.invokespecial 11, 3) := by decide +kernel
theorem dX10_init_12 : decode cX10_init 12 = .ok (.putfield 12, 3) := by decide +kernel
theorem dX10_init_15 : decode cX10_init 15 = .ok (.aload_n 0, 1) := by decide +kernel
theorem dX10_init_16 : decode cX10_init 16 = .ok (.new 16, 3) := by decide +kernel
theorem dX10_init_19 : decode cX10_init 19 = .ok (.dup, 1) := by decide +kernel
theorem dX10_init_20 : decode cX10_init 20 = .ok (.invokespecial 18, 3) := by decide +kernel
theorem dX10_init_23 : decode cX10_init 23 = .ok (.putfield 19, 3) := by decide +kernel
theorem dX10_init_26 : decode cX10_init 26 = .ok (.aload_n 0, 1) := by decide +kernel
theorem dX10_init_27 : decode cX10_init 27 = .ok (.new 23, 3) := by decide +kernel
theorem dX10_init_30 : decode cX10_init 30 = .ok (.dup, 1) := by decide +kernel
theorem dX10_init_31 : decode cX10_init 31 = .ok (.invokespecial 25, 3) := by decide +kernel
theorem dX10_init_34 : decode cX10_init 34 = .ok (.putfield 26, 3) := by decide +kernel
theorem dX10_init_37 : decode cX10_init 37 = .ok (.aload_n 0, 1) := by decide +kernel
theorem dX10_init_38 : decode cX10_init 38 = .ok (.new 30, 3) := by decide +kernel
theorem dX10_init_41 : decode cX10_init 41 = .ok (.dup, 1) := by decide +kernel
theorem dX10_init_42 : decode cX10_init 42 = .ok (.invokespecial 32, 3) := by decide +kernel
theorem dX10_init_45 : decode cX10_init 45 = .ok (.putfield 33, 3) := by decide +kernel
theorem dX10_init_48 : decode cX10_init 48 = .ok (.aload_n 0, 1) := by decide +kernel
theorem dX10_init_49 : decode cX10_init 49 = .ok (.new 37, 3) := by decide +kernel
theorem dX10_init_52 : decode cX10_init 52 = .ok (.dup, 1) := by decide +kernel
theorem dX10_init_53 : decode cX10_init 53 = .ok (.aload_n 0, 1) := by decide +kernel
theorem dX10_init_54 : decode cX10_init 54 = .ok (.getfield 12, 3) := by decide +kernel
theorem dX10_init_57 : decode cX10_init 57 = .ok (.aload_n 0, 1) := by decide +kernel
theorem dX10_init_58 : decode cX10_init 58 = .ok (.getfield 19, 3) := by decide +kernel
theorem dX10_init_61 : decode cX10_init 61 = .ok (.aload_n 0, 1) := by decide +kernel
theorem dX10_init_62 : decode cX10_init 62 = .ok (.getfield 26, 3) := by decide +kernel
theorem dX10_init_65 : decode cX10_init 65 = .ok (.invokespecial 39, 3) := by decide +kernel
theorem dX10_init_68 : decode cX10_init 68 = .ok (.putfield 42, 3) := by decide +kernel
theorem dX10_init_71 : decode cX10_init 71 = .ok (.aload_n 0, 1) := by decide +kernel
theorem dX10_init_72 : decode cX10_init 72 = .ok (.new 46, 3) := by decide +kernel
theorem dX10_init_75 : decode cX10_init 75 = .ok (.dup, 1) := by decide +kernel
theorem dX10_init_76 : decode cX10_init 76 = .ok (.aload_n 0, 1) := by decide +kernel
theorem dX10_init_77 : decode cX10_init 77 = .ok (.getfield 12, 3) := by decide +kernel
theorem dX10_init_80 : decode cX10_init 80 = .ok (.invokespecial 48, 3) := by decide +kernel
theorem dX10_init_83 : decode cX10_init 83 = .ok (.putfield 51, 3) := by decide +kernel
theorem dX10_init_86 : decode cX10_init 86 = .ok (.aload_n 0, 1) := by decide +kernel
theorem dX10_init_87 : decode cX10_init 87 = .ok (.new 55, 3) := by decide +kernel
theorem dX10_init_90 : decode cX10_init 90 = .ok (.dup, 1) := by decide +kernel
theorem dX10_init_91 : decode cX10_init 91 = .ok (.invokespecial 57, 3) := by decide +kernel
theorem dX10_init_94 : decode cX10_init 94 = .ok (.putfield 58, 3) := by decide +kernel
theorem dX10_init_97 : decode cX10_init 97 = .ok (.aload_n 0, 1) := by decide +kernel
theorem dX10_init_98 : decode cX10_init 98 = .ok (.new 62, 3) := by decide +kernel
theorem dX10_init_101 : decode cX10_init 101 = .ok (.dup, 1) := by decide +kernel
theorem dX10_init_102 : decode cX10_init 102 = .ok (.invokespecial 64, 3) := by decide +kernel
theorem dX10_init_105 : decode cX10_init 105 = .ok (.putfield 65, 3) := by decide +kernel
theorem dX10_init_108 : decode cX10_init 108 = .ok (.aload_n 0, 1) := by decide +kernel
theorem dX10_init_109 : decode cX10_init 109 = .ok (.new 62, 3) := by decide +kernel
theorem dX10_init_112 : decode cX10_init 112 = .ok (.dup, 1) := by decide +kernel
theorem dX10_init_113 : decode cX10_init 113 = .ok (.invokespecial 64, 3) := by decide +kernel
theorem dX10_init_116 : decode cX10_init 116 = .ok (.putfield 69, 3) := by decide +kernel
theorem dX10_init_119 : decode cX10_init 119 = .ok (.aload_n 0, 1) := by decide +kernel
theorem dX10_init_120 : decode cX10_init 120 = .ok (.iconst 3, 1) := by decide +kernel
theorem dX10_init_121 : decode cX10_init 121 = .ok (.anewarray 62, 3) := by decide +kernel
theorem dX10_init_124 : decode cX10_init 124 = .ok (.putfield 72, 3) := by decide +kernel
theorem dX10_init_127 : decode cX10_init 127 = .ok (.aload_n 0, 1) := by decide +kernel
theorem dX10_init_128 : decode cX10_init 128 = .ok (.iconst 3, 1) := by decide +kernel
theorem dX10_init_129 : decode cX10_init 129 = .ok (.newarray .int, 2) := by decide +kernel
theorem dX10_init_131 : decode cX10_init 131 = .ok (.putfield 76, 3) := by decide +kernel
theorem dX10_init_134 : decode cX10_init 134 = .ok (.aload_n 0, 1) := by decide +kernel
theorem dX10_init_135 : decode cX10_init 135 = .ok (.new 80, 3) := by decide +kernel
theorem dX10_init_138 : decode cX10_init 138 = .ok (.dup, 1) := by decide +kernel
theorem dX10_init_139 : decode cX10_init 139 = .ok (.invokespecial 82, 3) := by decide +kernel
theorem dX10_init_142 : decode cX10_init 142 = .ok (.putfield 83, 3) := by decide +kernel
theorem dX10_init_145 : decode cX10_init 145 = .ok (.aload_n 0, 1) := by decide +kernel
theorem dX10_init_146 : decode cX10_init 146 = .ok (.bipush 60, 2) := by decide +kernel
theorem dX10_init_148 : decode cX10_init 148 = .ok (.newarray .char, 2) := by decide +kernel
theorem dX10_init_150 : decode cX10_init 150 = .ok (.putfield 87, 3) := by decide +kernel
theorem dX10_init_153 : decode cX10_init 153 = .ok (.aload_n 0, 1) := by decide +kernel
theorem dX10_init_154 : decode cX10_init 154 = .ok (.iconst 0, 1) := by decide +kernel
theorem dX10_init_155 : decode cX10_init 155 = .ok (.putfield 91, 3) := by decide +kernel
theorem dX10_init_158 : decode cX10_init 158 = .ok (.iconst 0, 1) := by decide +kernel
theorem dX10_init_159 : decode cX10_init 159 = .ok (.istore_n 1, 1) := by decide +kernel
theorem dX10_init_160 : decode cX10_init 160 = .ok (.iload_n 1, 1) := by decide +kernel
theorem dX10_init_161 : decode cX10_init 161 = .ok (.aload_n 0, 1) := by decide +kernel
theorem dX10_init_162 : decode cX10_init 162 = .ok (.getfield 72, 3) := by decide +kernel
theorem dX10_init_165 : decode cX10_init 165 = .ok (.arraylength, 1) := by decide +kernel
theorem dX10_init_166 : decode cX10_init 166 = .ok (.if_icmp .ge 29, 3) := by decide +kernel
theorem dX10_init_169 : decode cX10_init 169 = .ok (.aload_n 0, 1) := by decide +kernel
theorem dX10_init_170 : decode cX10_init 170 = .ok (.getfield 72, 3) := by decide +kernel
theorem dX10_init_173 : decode cX10_init 173 = .ok (.iload_n 1, 1) := by decide +kernel
theorem dX10_init_174 : decode cX10_init 174 = .ok (.new 62, 3) := by decide +kernel
theorem dX10_init_177 : decode cX10_init 177 = .ok (.dup, 1) := by decide +kernel
theorem dX10_init_178 : decode cX10_init 178 = .ok (.invokespecial 64, 3) := by decide +kernel
theorem dX10_init_181 : decode cX10_init 181 = .ok (.aastore, 1) := by decide +kernel
theorem dX10_init_182 : decode cX10_init 182 = .ok (.aload_n 0, 1) := by decide +kernel
theorem dX10_init_183 : decode cX10_init 183 = .ok (.getfield 76, 3) := by decide +kernel
theorem dX10_init_186 : decode cX10_init 186 = .ok (.iload_n 1, 1) := by decide +kernel
theorem dX10_init_187 : decode cX10_init 187 = .ok (.iconst (-1), 1) := by decide +kernel
theorem dX10_init_188 : decode cX10_init 188 = .ok (.iastore, 1) := by decide +kernel
theorem dX10_init_189 : decode cX10_init 189 = .ok (.iinc 1 1, 3) := by decide +kernel
theorem dX10_init_192 : decode cX10_init 192 = .ok (.goto (-32), 3) := by decide +kernel
theorem dX10_init_195 : decode cX10_init 195 = .ok (.return_, 1) := by decide +kernel
theorem dX11_init_0 : decode cX11_init 0 = .ok (.aload_n 0, 1) := by decide +kernel
theorem dX11_init_1 : decode cX11_init 1 = .ok (.invokespecial 478, 3) := by decide +kernel
theorem dX11_init_4 : decode cX11_init 4 = .ok (.aload_n 0, 1) := by decide +kernel
theorem dX11_init_5 : decode cX11_init 5 = .ok (.bipush 24, 2) := by decide +kernel
theorem dX11_init_7 : decode cX11_init 7 = .ok (.newarray .long, 2) := by decide +kernel
theorem dX11_init_9 : decode cX11_init 9 = .ok (.putfield 7, 3) := by decide +kernel
theorem dX11_init_12 : decode cX11_init 12 = .ok (.aload_n 0, 1) := by decide +kernel
theorem dX11_init_13 : decode cX11_init 13 = .ok (.bipush 6, 2) := by decide +kernel
theorem dX11_init_15 : decode cX11_init 15 = .ok (.newarray .int, 2) := by decide +kernel
theorem dX11_init_17 : decode cX11_init 17 = .ok (.putfield 31, 3) := by decide +kernel
theorem dX11_init_20 : decode cX11_init 20 = .ok (.aload_n 0, 1) := by decide +kernel
theorem dX11_init_21 : decode cX11_init 21 = .ok (.bipush 6, 2) := by decide +kernel
theorem dX11_init_23 : decode cX11_init 23 = .ok (.newarray .int, 2) := by decide +kernel
theorem dX11_init_25 : decode cX11_init 25 = .ok (.putfield 35, 3) := by decide +kernel
theorem dX11_init_28 : decode cX11_init 28 = .ok (.aload_n 0, 1) := by decide +kernel
theorem dX11_init_29 : decode cX11_init 29 = .ok (.bipush 6, 2) := by decide +kernel
theorem dX11_init_31 : decode cX11_init 31 = .ok (.newarray .int, 2) := by decide +kernel
theorem dX11_init_33 : decode cX11_init 33 = .ok (.putfield 38, 3) := by decide +kernel
theorem dX11_init_36 : decode cX11_init 36 = .ok (.aload_n 0, 1) := by decide +kernel
theorem dX11_init_37 : decode cX11_init 37 = .ok (.bipush 6, 2) := by decide +kernel
theorem dX11_init_39 : decode cX11_init 39 = .ok (.newarray .int, 2) := by decide +kernel
theorem dX11_init_41 : decode cX11_init 41 = .ok (.putfield 41, 3) := by decide +kernel
theorem dX11_init_44 : decode cX11_init 44 = .ok (.aload_n 0, 1) := by decide +kernel
theorem dX11_init_45 : decode cX11_init 45 = .ok (.bipush 6, 2) := by decide +kernel
theorem dX11_init_47 : decode cX11_init 47 = .ok (.newarray .int, 2) := by decide +kernel
theorem dX11_init_49 : decode cX11_init 49 = .ok (.putfield 44, 3) := by decide +kernel
theorem dX11_init_52 : decode cX11_init 52 = .ok (.aload_n 0, 1) := by decide +kernel
theorem dX11_init_53 : decode cX11_init 53 = .ok (.bipush 6, 2) := by decide +kernel
theorem dX11_init_55 : decode cX11_init 55 = .ok (.newarray .int, 2) := by decide +kernel
theorem dX11_init_57 : decode cX11_init 57 = .ok (.putfield 47, 3) := by decide +kernel
theorem dX11_init_60 : decode cX11_init 60 = .ok (.aload_n 0, 1) := by decide +kernel
theorem dX11_init_61 : decode cX11_init 61 = .ok (.bipush 6, 2) := by decide +kernel
theorem dX11_init_63 : decode cX11_init 63 = .ok (.newarray .int, 2) := by decide +kernel
theorem dX11_init_65 : decode cX11_init 65 = .ok (.putfield 50, 3) := by decide +kernel
theorem dX11_init_68 : decode cX11_init 68 = .ok (.aload_n 0, 1) := by decide +kernel
theorem dX11_init_69 : decode cX11_init 69 = .ok (.bipush 6, 2) := by decide +kernel
theorem dX11_init_71 : decode cX11_init 71 = .ok (.newarray .int, 2) := by decide +kernel
theorem dX11_init_73 : decode cX11_init 73 = .ok (.putfield 53, 3) := by decide +kernel
theorem dX11_init_76 : decode cX11_init 76 = .ok (.aload_n 0, 1) := by decide +kernel
theorem dX11_init_77 : decode cX11_init 77 = .ok (.sipush 600, 3) := by decide +kernel
theorem dX11_init_80 : decode cX11_init 80 = .ok (.newarray .boolean, 2) := by decide +kernel
theorem dX11_init_82 : decode cX11_init 82 = .ok (.putfield 56, 3) := by decide +kernel
theorem dX11_init_85 : decode cX11_init 85 = .ok (.aload_n 0, 1) := by decide +kernel
theorem dX11_init_86 : decode cX11_init 86 = .ok (.bipush 36, 2) := by decide +kernel
theorem dX11_init_88 : decode cX11_init 88 = .ok (.newarray .int, 2) := by decide +kernel
theorem dX11_init_90 : decode cX11_init 90 = .ok (.putfield 60, 3) := by decide +kernel
theorem dX11_init_93 : decode cX11_init 93 = .ok (.aload_n 0, 1) := by decide +kernel
theorem dX11_init_94 : decode cX11_init 94 = .ok (.iconst 4, 1) := by decide +kernel
theorem dX11_init_95 : decode cX11_init 95 = .ok (.putfield 108, 3) := by decide +kernel
theorem dX11_init_98 : decode cX11_init 98 = .ok (.aload_n 0, 1) := by decide +kernel
theorem dX11_init_99 : decode cX11_init 99 = .ok (.bipush 10, 2) := by decide +kernel
theorem dX11_init_101 : decode cX11_init 101 = .ok (.putfield 111, 3) := by decide +kernel
theorem dX11_init_104 : decode cX11_init 104 = .ok (.aload_n 0, 1) := by decide +kernel
theorem dX11_init_105 : decode cX11_init 105 = .ok (.bipush 8, 2) := by decide +kernel
theorem dX11_init_107 : decode cX11_init 107 = .ok (.newarray .int, 2) := by decide +kernel
theorem dX11_init_109 : decode cX11_init 109 = .ok (.putfield 154, 3) := by decide +kernel
theorem dX11_init_112 : decode cX11_init 112 = .ok (.aload_n 0, 1) := by decide +kernel
theorem dX11_init_113 : decode cX11_init 113 = .ok (.bipush 8, 2) := by decide +kernel
theorem dX11_init_115 : decode cX11_init 115 = .ok (.newarray .int, 2) := by decide +kernel
theorem dX11_init_117 : decode cX11_init 117 = .ok (.putfield 146, 3) := by decide +kernel
theorem dX11_init_120 : decode cX11_init 120 = .ok (.aload_n 0, 1) := by decide +kernel
theorem dX11_init_121 : decode cX11_init 121 = .ok (.bipush 8, 2) := by decide +kernel
theorem dX11_init_123 : decode cX11_init 123 = .ok (.newarray .int, 2) := by decide +kernel
theorem dX11_init_125 : decode cX11_init 125 = .ok (.putfield 160, 3) := by decide +kernel
theorem dX11_init_128 : decode cX11_init 128 = .ok (.aload_n 0, 1) := by decide +kernel
theorem dX11_init_129 : decode cX11_init 129 = .ok (.bipush 8, 2) := by decide +kernel
theorem dX11_init_131 : decode cX11_init 131 = .ok (.newarray .int, 2) := by decide +kernel
theorem dX11_init_133 : decode cX11_init 133 = .ok (.putfield 143, 3) := by decide +kernel
theorem dX11_init_136 : decode cX11_init 136 = .ok (.aload_n 0, 1) := by decide +kernel
theorem dX11_init_137 : decode cX11_init 137 = .ok (.bipush 8, 2) := by decide +kernel
theorem dX11_init_139 : decode cX11_init 139 = .ok (.newarray .int, 2) := by decide +kernel
theorem dX11_init_141 : decode cX11_init 141 = .ok (.putfield 163, 3) := by decide +kernel
theorem dX11_init_144 : decode cX11_init 144 = .ok (.aload_n 0, 1) := by decide +kernel
theorem dX11_init_145 : decode cX11_init 145 = .ok (.bipush 8, 2) := by decide +kernel
theorem dX11_init_147 : decode cX11_init 147 = .ok (.newarray .int, 2) := by decide +kernel
theorem dX11_init_149 : decode cX11_init 149 = .ok (.putfield 157, 3) := by decide +kernel
theorem dX11_init_152 : decode cX11_init 152 = .ok (.aload_n 0, 1) := by decide +kernel
theorem dX11_init_153 : decode cX11_init 153 = .ok (.bipush 127, 2) := by decide +kernel
theorem dX11_init_155 : decode cX11_init 155 = .ok (.newarray .int, 2) := by decide +kernel
theorem dX11_init_157 : decode cX11_init 157 = .ok (.putfield 140, 3) := by decide +kernel
theorem dX11_init_160 : decode cX11_init 160 = .ok (.aload_n 0, 1) := by decide +kernel
theorem dX11_init_161 : decode cX11_init 161 = .ok (.bipush 127, 2) := by decide +kernel
theorem dX11_init_163 : decode cX11_init 163 = .ok (.newarray .int, 2) := by decide +kernel
theorem dX11_init_165 : decode cX11_init 165 = .ok (.putfield 322, 3) := by decide +kernel
theorem dX11_init_168 : decode cX11_init 168 = .ok (.aload_n 0, 1) := by decide +kernel
theorem dX11_init_169 : decode cX11_init 169 = .ok (.bipush 96, 2) := by decide +kernel
theorem dX11_init_171 : decode cX11_init 171 = .ok (.newarray .int, 2) := by decide +kernel
theorem dX11_init_173 : decode cX11_init 173 = .ok (.putfield 196, 3) := by decide +kernel
theorem dX11_init_176 : decode cX11_init 176 = .ok (.aload_n 0, 1) := by decide +kernel
theorem dX11_init_177 : decode cX11_init 177 = .ok (.iconst 2, 1) := by decide +kernel
theorem dX11_init_178 : decode cX11_init 178 = .ok (.newarray .int, 2) := by decide +kernel
theorem dX11_init_180 : decode cX11_init 180 = .ok (.putfield 199, 3) := by decide +kernel
theorem dX11_init_183 : decode cX11_init 183 = .ok (.aload_n 0, 1) := by decide +kernel
theorem dX11_init_184 : decode cX11_init 184 = .ok (.bipush 48, 2) := by decide +kernel
theorem dX11_init_186 : decode cX11_init 186 = .ok (.newarray .int, 2) := by decide +kernel
theorem dX11_init_188 : decode cX11_init 188 = .ok (.putfield 246, 3) := by decide +kernel
theorem dX11_init_191 : decode cX11_init 191 = .ok (.aload_n 0, 1) := by decide +kernel
theorem dX11_init_192 : decode cX11_init 192 = .ok (.bipush 60, 2) := by decide +kernel
theorem dX11_init_194 : decode cX11_init 194 = .ok (.newarray .int, 2) := by decide +kernel
theorem dX11_init_196 : decode cX11_init 196 = .ok (.putfield 173, 3) := by decide +kernel
theorem dX11_init_199 : decode cX11_init 199 = .ok (.aload_n 0, 1) := by decide +kernel
theorem dX11_init_200 : decode cX11_init 200 = .ok (.bipush 6, 2) := by decide +kernel
theorem dX11_init_202 : decode cX11_init 202 = .ok (.newarray .int, 2) := by decide +kernel
theorem dX11_init_204 : decode cX11_init 204 = .ok (.putfield 287, 3) := by decide +kernel
theorem dX11_init_207 : decode cX11_init 207 = .ok (.aload_n 0, 1) := by decide +kernel
theorem dX11_init_208 : decode cX11_init 208 = .ok (.sipush 3072, 3) := by decide +kernel
theorem dX11_init_211 : decode cX11_init 211 = .ok (.newarray .int, 2) := by decide +kernel
theorem dX11_init_213 : decode cX11_init 213 = .ok (.putfield 338, 3) := by decide +kernel
theorem dX11_init_216 : decode cX11_init 216 = .ok (.aload_n 0, 1) := by decide +kernel
theorem dX11_init_217 : decode cX11_init 217 = .ok (.sipush 3072, 3) := by decide +kernel
theorem dX11_init_220 : decode cX11_init 220 = .ok (.newarray .int, 2) := by decide +kernel
theorem dX11_init_222 : decode cX11_init 222 = .ok (.putfield 347, 3) := by decide +kernel
theorem dX11_init_225 : decode cX11_init 225 = .ok (.aload_n 0, 1) := by decide +kernel
theorem dX11_init_226 : decode cX11_init 226 = .ok (.bipush 36, 2) := by decide +kernel
theorem dX11_init_228 : decode cX11_init 228 = .ok (.newarray .int, 2) := by decide +kernel
theorem dX11_init_230 : decode cX11_init 230 = .ok (.putfield 335, 3) := by decide +kernel
theorem dX11_init_233 : decode cX11_init 233 = .ok (.aload_n 0, 1) := by decide +kernel
theorem dX11_init_234 : decode cX11_init 234 = .ok (.sipush 3072, 3) := by decide +kernel
theorem dX11_init_237 : decode cX11_init 237 = .ok (.newarray .long, 2) := by decide +kernel
theorem dX11_init_239 : decode cX11_init 239 = .ok (.putfield 394, 3) := by decide +kernel
theorem dX11_init_242 : decode cX11_init 242 = .ok (.aload_n 0, 1) := by decide +kernel
theorem dX11_init_243 : decode cX11_init 243 = .ok (.sipush 3072, 3) := by decide +kernel
theorem dX11_init_246 : decode cX11_init 246 = .ok (.newarray .long, 2) := by decide +kernel
theorem dX11_init_248 : decode cX11_init 248 = .ok (.putfield 374, 3) := by decide +kernel
theorem dX11_init_251 : decode cX11_init 251 = .ok (.aload_n 0, 1) := by decide +kernel
theorem dX11_init_252 : decode cX11_init 252 = .ok (.bipush 8, 2) := by decide +kernel
theorem dX11_init_254 : decode cX11_init 254 = .ok (.newarray .int, 2) := by decide +kernel
theorem dX11_init_256 : decode cX11_init 256 = .ok (.putfield 411, 3) := by decide +kernel
theorem dX11_init_259 : decode cX11_init 259 = .ok (.aload_n 0, 1) := by decide +kernel
theorem dX11_init_260 : decode cX11_init 260 = .ok (.bipush 8, 2) := by decide +kernel
theorem dX11_init_262 : decode cX11_init 262 = .ok (.newarray .int, 2) := by decide +kernel
theorem dX11_init_264 : decode cX11_init 264 = .ok (.putfield 425, 3) := by decide +kernel
theorem dX11_init_267 : decode cX11_init 267 = .ok (.aload_n 0, 1) := by decide +kernel
theorem dX11_init_268 : decode cX11_init 268 = .ok (.bipush 9, 2) := by decide +kernel
theorem dX11_init_270 : decode cX11_init 270 = .ok (.newarray .int, 2) := by decide +kernel
theorem dX11_init_272 : decode cX11_init 272 = .ok (.putfield 437, 3) := by decide +kernel
theorem dX11_init_275 : decode cX11_init 275 = .ok (.aload_n 0, 1) := by decide +kernel
theorem dX11_init_276 : decode cX11_init 276 = .ok (.bipush 9, 2) := by decide +kernel
theorem dX11_init_278 : decode cX11_init 278 = .ok (.newarray .int, 2) := by decide +kernel
theorem dX11_init_280 : decode cX11_init 280 = .ok (.putfield 440, 3) := by decide +kernel
theorem dX11_init_283 : decode cX11_init 283 = .ok (.aload_n 0, 1) := by decide +kernel
theorem dX11_init_284 : decode cX11_init 284 = .ok (.bipush 9, 2) := by decide +kernel
theorem dX11_init_286 : decode cX11_init 286 = .ok (.newarray .int, 2) := by decide +kernel
theorem dX11_init_288 : decode cX11_init 288 = .ok (.putfield 443, 3) := by decide +kernel
theorem dX11_init_291 : decode cX11_init 291 = .ok (.aload_n 0, 1) := by decide +kernel
theorem dX11_init_292 : decode cX11_init 292 = .ok (.bipush 36, 2) := by decide +kernel
theorem dX11_init_294 : decode cX11_init 294 = .ok (.newarray .int, 2) := by decide +kernel
theorem dX11_init_296 : decode cX11_init 296 = .ok (.putfield 446, 3) := by decide +kernel
theorem dX11_init_299 : decode cX11_init 299 = .ok (.aload_n 0, 1) := by decide +kernel
theorem dX11_init_300 : decode cX11_init 300 = .ok (.bipush 9, 2) := by decide +kernel
theorem dX11_init_302 : decode cX11_init 302 = .ok (.newarray .long, 2) := by decide +kernel
theorem dX11_init_304 : decode cX11_init 304 = .ok (.putfield 456, 3) := by decide +kernel
theorem dX11_init_307 : decode cX11_init 307 = .ok (.aload_n 0, 1) := by decide +kernel
theorem dX11_init_308 : decode cX11_init 308 = .ok (.iconst 3, 1) := by decide +kernel
theorem dX11_init_309 : decode cX11_init 309 = .ok (.newarray .int, 2) := by decide +kernel
theorem dX11_init_311 : decode cX11_init 311 = .ok (.dup, 1) := by decide +kernel
theorem dX11_init_312 : decode cX11_init 312 = .ok (.iconst 0, 1) := by decide +kernel
theorem dX11_init_313 : decode cX11_init 313 = .ok (.iconst (-1), 1) := by decide +kernel
theorem dX11_init_314 : decode cX11_init 314 = .ok (.iastore, 1) := by decide +kernel
theorem dX11_init_315 : decode cX11_init 315 = .ok (.dup, 1) := by decide +kernel
theorem dX11_init_316 : decode cX11_init 316 = .ok (.iconst 1, 1) := by decide +kernel
theorem dX11_init_317 : decode cX11_init 317 = .ok (.iconst (-1), 1) := by decide +kernel
theorem dX11_init_318 : decode cX11_init 318 = .ok (.iastore, 1) := by decide +kernel
theorem dX11_init_319 : decode cX11_init 319 = .ok (.dup, 1) := by decide +kernel
theorem dX11_init_320 : decode cX11_init 320 = .ok (.iconst 2, 1) := by decide +kernel
theorem dX11_init_321 : decode cX11_init 321 = .ok (.iconst (-1), 1) := by decide +kernel
theorem dX11_init_322 : decode cX11_init 322 = .ok (.iastore, 1) := by decide +kernel
theorem dX11_init_323 : decode cX11_init 323 = .ok (.putfield 469, 3) := by decide +kernel
theorem dX11_init_326 : decode cX11_init 326 = .ok (.aload_n 0, 1) := by decide +kernel
theorem dX11_init_327 : decode cX11_init 327 = .ok (.sipush 381, 3) := by decide +kernel
theorem dX11_init_330 : decode cX11_init 330 = .ok (.newarray .int, 2) := by decide +kernel
theorem dX11_init_332 : decode cX11_init 332 = .ok (.putfield 472, 3) := by decide +kernel
theorem dX11_init_335 : decode cX11_init 335 = .ok (.return_, 1) := by decide +kernel
