/-! ===== the law from its entry ===== -/
theorem dL_law_0 : decode cL_law 0 = .ok (.new 8, 3) := by decide +kernel
theorem dL_law_3 : decode cL_law 3 = .ok (.dup, 1) := by decide +kernel
theorem dL_law_4 : decode cL_law 4 = .ok (.invokespecial 22, 3) := by decide +kernel
theorem dL_law_7 : decode cL_law 7 = .ok (.astore_n 1, 1) := by decide +kernel
theorem dL_law_8 : decode cL_law 8 = .ok (.new 23, 3) := by decide +kernel
theorem dL_law_11 : decode cL_law 11 = .ok (.dup, 1) := by decide +kernel
theorem dL_law_12 : decode cL_law 12 = .ok (.invokespecial 25, 3) := by decide +kernel
theorem dL_law_15 : decode cL_law 15 = .ok (.astore_n 2, 1) := by decide +kernel
theorem dL_law_16 : decode cL_law 16 = .ok (.iconst 1, 1) := by decide +kernel
theorem dL_law_17 : decode cL_law 17 = .ok (.newarray .long, 2) := by decide +kernel
theorem dL_law_19 : decode cL_law 19 = .ok (.astore_n 3, 1) := by decide +kernel
theorem dL_law_20 : decode cL_law 20 = .ok (.iconst 0, 1) := by decide +kernel
theorem dL_law_21 : decode cL_law 21 = .ok (.istore 4, 2) := by decide +kernel
theorem cl_RL_8 : Cond.classLink RL 8 RX10 ∈ lw_tb := tb_in (by decide +kernel) (by decide +kernel)
theorem cl_RL_23 : Cond.classLink RL 23 RX11 ∈ lw_tb := tb_in (by decide +kernel) (by decide +kernel)
theorem wi_10 : Cond.instantiable RX10 14 ∈ lw_tb := tb_in (by decide +kernel) (by decide +kernel)
theorem wi_11 : Cond.instantiable RX11 58 ∈ lw_tb := tb_in (by decide +kernel) (by decide +kernel)
theorem wz_10 : Cond.initialized RX10 ∈ lw_tb := tb_in (by decide +kernel) (by decide +kernel)
theorem wz_11 : Cond.initialized RX11 ∈ lw_tb := tb_in (by decide +kernel) (by decide +kernel)
theorem wd_10 : ∀ j, j < 14 → defaultValue (tyX10 j) = vp_V [.null, .null, .null, .null, .null, .null, .null, .null, .null, .null, .null, .null, .null, .int 0] j := by decide +kernel
theorem wd_11 : ∀ j, j < 58 → defaultValue (tyX11 j) = vp_V [.int 0, .int 0, .null, .int 0, .null, .null, .null, .null, .null, .null, .null, .null, .null, .null, .int 0, .int 0, .int 0, .null, .null, .null, .null, .null, .null, .null, .null, .null, .null, .null, .null, .int 0, .int 0, .int 0, .int 0, .null, .int 0, .int 0, .int 0, .int 0, .null, .null, .null, .int 0, .int 0, .null, .null, .long 0, .int 0, .int 0, .null, .null, .int 0, .null, .null, .null, .null, .null, .null, .null] j := by decide +kernel
theorem ci_RL_22 : hCI RL 22 yX10_init cX10_init 2 0 := ⟨tb_in (by decide +kernel) (by decide +kernel), tb_in (by decide +kernel) (by decide +kernel), wz_10, tb_in (by decide +kernel) (by decide +kernel), rfl, by decide +kernel⟩
theorem ci_RL_25 : hCI RL 25 yX11_init cX11_init 1 0 := ⟨tb_in (by decide +kernel) (by decide +kernel), tb_in (by decide +kernel) (by decide +kernel), wz_11, tb_in (by decide +kernel) (by decide +kernel), rfl, by decide +kernel⟩
theorem rk_istore {G : hG} {X : hX} {n0 ca sa d : Nat} {cc : ByteArray} {nL : Nat} {own : String} {pc n : Nat} {lv : List (Nat × Value)} {st : List Value} {f : kM} {cs sl : Nat} (C : Ck G X n0 ca sa d cc nL own) {i : Nat} {x : Int32} (lv' : List (Nat × Value)) (hd : decode cc pc = .ok (.istore i, 2)) (hn : pc + 2 = n) (hi2 : i < nL) (hlv : (i, Value.int x) :: lv.filter (fun q => !(q.1 == i) && !(q.1 + 1 == i && q.2.category == 2)) = lv') (k : Rk G X n0 n lv' st f cs sl) : Rk G X n0 pc lv (Value.int x :: st) f cs sl := by
  obtain ⟨p, e, R, s, mt, args, below, meth, c, ca', sa', Qp⟩ := X
  obtain ⟨hx, hb, hml, how, hts, hK, hs, hR⟩ := C
  subst hn
  intro ls H locs hl hh hS
  exact lv_istore hx hb hd hl (by rw [hml]; exact hi2) hlv (fun ls' hl' => k ls' H locs hl' hh hS)
set_option maxRecDepth 100000 in
theorem rk_start {G : hG} {X : hX} {b : Nat} {f : kM} (C : Ck G X 0 136 22530 4 cL_law 8 RL) (kk : Rk G X 0 23 (lwL G b 0) [] (F0k G f) 136 22530) : Rk G X 0 0 [(0, .ref b)] [] f 0 0 := by
  refine rk_newW C (n := 3) (ci := 10) (N := 14) (q := 0) (cs' := 1) (sl' := 14) tyX10 [.null, .null, .null, .null, .null, .null, .null, .null, .null, .null, .null, .null, .null, .int 0] rfl inB10 tyX10_ok cl_RL_8 wi_10 wz_10 wd_10 (by decide) (by decide) dL_law_0 rfl rfl rfl rfl ?_
  refine rk_dup C (n := 4) dL_law_3 rfl rfl ?_
  refine rk_callIW C (n := 7) (nn := 1) (cs' := 96) (sl' := 8453) rfl rfl rfl (k_X10i_0 G f) ci_RL_22 (by decide) rfl (Nat.le_of_ble_eq_true rfl) rfl (by decide) (by decide) dL_law_4 rfl ?_
  refine rk_astore_n C (n := 8) [(1, hA G 0), (0, .ref b)] dL_law_7 rfl rfl (by decide) rfl ?_
  refine rk_newW C (n := 11) (ci := 11) (N := 58) (q := 96) (cs' := 97) (sl' := 8511) tyX11 [.int 0, .int 0, .null, .int 0, .null, .null, .null, .null, .null, .null, .null, .null, .null, .null, .int 0, .int 0, .int 0, .null, .null, .null, .null, .null, .null, .null, .null, .null, .null, .null, .null, .int 0, .int 0, .int 0, .int 0, .null, .int 0, .int 0, .int 0, .int 0, .null, .null, .null, .int 0, .int 0, .null, .null, .long 0, .int 0, .int 0, .null, .null, .int 0, .null, .null, .null, .null, .null, .null, .null] rfl inB11 tyX11_ok cl_RL_23 wi_11 wz_11 wd_11 (by decide) (by decide) dL_law_8 rfl rfl rfl rfl ?_
  refine rk_dup C (n := 12) dL_law_11 rfl rfl ?_
  refine rk_callIW C (n := 15) (nn := 97) (cs' := 135) (sl' := 22529) rfl rfl rfl (k_X11i_96 G _) ci_RL_25 (by decide) rfl (Nat.le_of_ble_eq_true rfl) rfl (by decide) (by decide) dL_law_12 rfl ?_
  refine rk_astore_n C (n := 16) [(2, hA G 96), (1, hA G 0), (0, .ref b)] dL_law_15 rfl rfl (by decide) rfl ?_
  refine rk_iconst C (n := 17) (v := 1) dL_law_16 rfl (by decide) ?_
  refine rk_newaW C (n := 19) (tk := 3) (N := 1) (q := 135) (cs' := 136) (sl' := 22530) (a0 := (1, .inr (.inl (fun _ => 0)))) wa_long rfl rfl (fun _ _ h => h) (fun _ => rfl) (by decide) (by decide) (by decide) (by decide) (by decide) dL_law_17 rfl rfl rfl rfl ?_
  refine rk_astore_n C (n := 20) [(3, hA G 135), (2, hA G 96), (1, hA G 0), (0, .ref b)] dL_law_19 rfl rfl (by decide) rfl ?_
  refine rk_iconst C (n := 21) (v := 0) dL_law_20 rfl (by decide) ?_
  refine rk_istore C (n := 23) (lwL G b 0) dL_law_21 rfl (by decide) rfl ?_
  exact kk
theorem whole_go {G : hG} {p : Program} {e : Env} {s : State} {m : MethodId} {below : List Frame} {meth : Method} {c : Code} {b L : Nat} {xs : Nat → Int32} (hL : L ≤ 3072) (hx : p.tables.exec = Jvm.exec) (hb : c.code = code) (hr : meth.sig.returnType = ret) (hml : c.maxLocals = 8) (hown : s.vm.findClass RL = some m.cls) (htb : ∀ w ∈ lw_tb, w.before #[Value.ref b] s = true) (hX : va_X b L xs s s.heap) (hbl : b < s.heap.size) (hlocks : meth.locks = false) (hGb : G.2.2.2.1 = s.heap.size) (hK : kK G s) (z2 : hK2 G s s.heap) (z3 : hK3 s) : W p G.1 e room_1 s m #[Value.ref b] below meth c s.heap [] 0 0 (lw_Z below #[Value.ref b] s) (entryFrame m ([Value.ref b] : List Value).toArray 8) := by
  have hC : ∀ cs sl, cs ≤ 601024 → sl ≤ 7293034 → Cx G (p, e, room_1, s, m, #[Value.ref b], below, meth, c, cs, sl, fun _ _ => lw_Z below #[Value.ref b] s) 1400 cL_law 8 RL ret ∧ Cz G (p, e, room_1, s, m, #[Value.ref b], below, meth, c, cs, sl, fun _ _ => lw_Z below #[Value.ref b] s) ∧ Cs G (p, e, room_1, s, m, #[Value.ref b], below, meth, c, cs, sl, fun _ _ => lw_Z below #[Value.ref b] s) b L xs := fun cs sl h1 h2 => ⟨⟨hx, hb, hml, hown, htb, hK.1, hr, hlocks, ⟨by decide, by decide, h1, h2⟩⟩, z2, hX, hbl, by rw [hGb]; exact Nat.not_le.mpr hbl⟩
  have hC2 : ∀ cs sl, cs ≤ 601024 → sl ≤ 7293034 → Cx G (p, e, room_1, s, m, #[Value.ref b], below, meth, c, cs, sl, fun _ _ => lw_Z below #[Value.ref b] s) 1400 cL_law 8 RL ret ∧ Cs G (p, e, room_1, s, m, #[Value.ref b], below, meth, c, cs, sl, fun _ _ => lw_Z below #[Value.ref b] s) b L xs := fun cs sl h1 h2 => ⟨(hC cs sl h1 h2).1, (hC cs sl h1 h2).2.2⟩
  have hk : L / 6 ≤ 512 := by omega
  have loop := lw_loop (XF := fun cs sl => (p, e, room_1, s, m, #[Value.ref b], below, meth, c, cs, sl, fun _ _ => lw_Z below #[Value.ref b] s)) hL hC (lw_value (by decide) (by decide) z2 z3 hC2) (lw_of (by decide) (by decide) z2 z3 hC2) (lw_wrong (by decide) (by decide) hC2) (lw_row (by decide) (by decide) z2 z3 hC2) (E := some ((), mZ)) (fun cs sl m' i h1 h2 ls H locs a m2 hl hh hS hE => W.widen h1 h2 (va_forget (fun q hq => by rw [← hGb]; exact hS.2.2 q hq) (lw_ret hx hb hr hlocks dL_law_1876))) (L / 6) 0 136 22530 m0 (Nat.zero_add _) iv_m0 (Nat.le_trans (Nat.add_le_add_left (Nat.mul_le_mul_left 1000 hk) 136) (by decide)) (Nat.le_trans (Nat.add_le_add_left (Nat.mul_le_mul_left 1000 hk) 22530) (by decide))
  have C : Ck G (p, e, room_1, s, m, #[Value.ref b], below, meth, c, 0, 0, fun _ _ => lw_Z below #[Value.ref b] s) 0 136 22530 4 cL_law 8 RL := ⟨hx, hb, hml, hown, htb, hK, by rw [hGb]; rfl, ⟨by decide, by decide, by decide, by decide⟩⟩
  have st := rk_start (b := b) (f := fun _ => .inr (0, [])) C (fun ls H locs hl hh hS => loop ls H locs () mZ hl (f0_R hh) hS rfl)
  have hl := lv_entry ([.ref b]) (n := 8) (Nat.le_of_ble_eq_true rfl)
  rw [lg_entry_eq]
  exact st _ s.heap [] (by rw [hml]; exact hl) (fun k hk => absurd hk (Nat.not_lt_zero k)) va_S.rf
/-- from the entry, for every script of at most 3072 ints, the law comes to its end with true -/
theorem whole_start {p : Program} {e : Env} {s : State} {m : MethodId} {below : List Frame} {meth : Method} {c : Code} (l : Launch) (hst : l.stackTraces = false) {b L : Nat} {xs : Nat → Int32} (hL : L ≤ 3072) (C0 : lw_At p s m meth c b L xs) : W p l e room_1 s m #[Value.ref b] below meth c s.heap [] 0 0 (lw_Z below #[Value.ref b] s) (entryFrame m ([Value.ref b] : List Value).toArray 8) := by
  obtain ⟨hx, hb, hr, hml, hown, hts, hX, hbl, hlocks, hgv⟩ := id C0
  obtain ⟨dC, dI, hKc⟩ := kn_of hts
  obtain ⟨cy, hcy⟩ := cy_of hts
  obtain ⟨adK, adV, hk2⟩ := k2_of hts hgv hst
  exact whole_go (G := (l, (dC, dI), cy, s.heap.size, adK, adV)) hL hx hb hr hml hown (fun w hw => hts w (tb_sub hw)) hX hbl hlocks rfl ⟨⟨⟨hKc, hcy⟩, fun w hw => va_Nw.of (o_hNs w hw) (hts w (i_hNs w hw))⟩, va_AO.of (hts _ go_2), va_AO.of (hts _ go_7)⟩ (hk2 _ _) (fun w hw => va_Nw.of (o_nsC w hw) (hts w (nsC_in w hw)))
