/-! ===== the law: the call of wrong ===== -/
theorem lwc_154 : hCV RL 154 RX10 yX10_wrong cX10_wrong 9 (some .int) 1 := ⟨(tb_5 17 (by decide +kernel) (by decide +kernel)), (tb_5 18 (by decide +kernel) (by decide +kernel)), (tb_5 19 (by decide +kernel) (by decide +kernel)), (tb_1 1 (by decide +kernel) (by decide +kernel)), (tb_5 20 (by decide +kernel) (by decide +kernel)), by decide +kernel⟩
theorem lwc_157 : hCV RL 157 RX11 yX11_wrong cX11_wrong 8 (some .int) 1 := ⟨(tb_7 78 (by decide +kernel) (by decide +kernel)), (tb_7 79 (by decide +kernel) (by decide +kernel)), (tb_7 80 (by decide +kernel) (by decide +kernel)), (tb_1 12 (by decide +kernel) (by decide +kernel)), cw_X11_wrong, by decide +kernel⟩
theorem dL_law_1455 : decode cL_law 1455 = .ok (.aload_n 1, 1) := by decide +kernel
theorem dL_law_1456 : decode cL_law 1456 = .ok (.aload_n 0, 1) := by decide +kernel
theorem dL_law_1457 : decode cL_law 1457 = .ok (.iload 4, 2) := by decide +kernel
theorem dL_law_1459 : decode cL_law 1459 = .ok (.iconst 1, 1) := by decide +kernel
theorem dL_law_1460 : decode cL_law 1460 = .ok (.iadd, 1) := by decide +kernel
theorem dL_law_1461 : decode cL_law 1461 = .ok (.iaload, 1) := by decide +kernel
theorem dL_law_1462 : decode cL_law 1462 = .ok (.invokevirtual 154, 3) := by decide +kernel
theorem dL_law_1465 : decode cL_law 1465 = .ok (.aload_n 2, 1) := by decide +kernel
theorem dL_law_1466 : decode cL_law 1466 = .ok (.aload_n 0, 1) := by decide +kernel
theorem dL_law_1467 : decode cL_law 1467 = .ok (.iload 4, 2) := by decide +kernel
theorem dL_law_1469 : decode cL_law 1469 = .ok (.iconst 1, 1) := by decide +kernel
theorem dL_law_1470 : decode cL_law 1470 = .ok (.iadd, 1) := by decide +kernel
theorem dL_law_1471 : decode cL_law 1471 = .ok (.iaload, 1) := by decide +kernel
theorem dL_law_1472 : decode cL_law 1472 = .ok (.invokevirtual 157, 3) := by decide +kernel
theorem dL_law_1475 : decode cL_law 1475 = .ok (.if_icmp .eq 394, 3) := by decide +kernel
section RLA
variable {G : hG} {d : Nat} {cc : ByteArray} {nL : Nat} {own : String} {ret : Option FieldType} {pc n : Nat} {lv : List (Nat × Value)} {st : List Value} {m : hM} {E : Option (Unit × hM)} {p : Program} {e : Env} {R : Room} {s : State} {mt : MethodId} {args : Array Value} {below : List Frame} {meth : Method} {c : Code} {Qp : Option Value → hM → State → Prop} {cs sl a b : Nat}
theorem rfA_after {ls : Array Slot} {H : Heap} {locs : List Loc} {v : Option Value} {m1 : hM} {st0 : List Value} {av : Array Value} {Q : State → Prop}
    (hS : va_S (fun q => G.2.2.2.1 ≤ q) s.heap H locs)
    (hrun : va_Run p G.1 e R s mt args below meth c H locs cs sl a b (F0 mt pc ls st0) st (hQ G v m1 av) (fun q => G.2.2.2.1 ≤ q))
    (kk : ∀ (H1 : Heap) (locs1 : List Loc), hR G m1 H1 → va_S (fun q => G.2.2.2.1 ≤ q) s.heap H1 locs1 → W p G.1 e R s mt args below meth c H1 locs1 (cs + a) (sl + b) Q (F0 mt (pc + 3) ls (v.toList ++ st))) :
    W p G.1 e R s mt args below meth c H locs cs sl Q (F0 mt pc ls st0) := by
  intro T hT Xs
  obtain ⟨v, st₀, t, T', L, h0, X', hL, e1, e2, ⟨ho, hh', hF⟩, gs⟩ := hrun T hT Xs
  cases ho
  obtain ⟨hz, hk⟩ := hF
  rw [h0] at hz hk
  have hS' : va_S (fun q => G.2.2.2.1 ≤ q) s.heap T'.heap (locs ++ L) := by
    refine ⟨Nat.le_trans hS.1 (by rw [e1]; exact hz), fun q h1 h2 => ?_, fun q hq => ?_⟩
    · rw [e1, hk q (Nat.lt_of_lt_of_le h1 hS.1) h2]
      exact hS.2.1 q h1 h2
    · rcases List.mem_append.mp hq with h | h
      · exact hS.2.2 q h
      · exact hL q h
  obtain ⟨t2, a1, b1⟩ := kk T'.heap (locs ++ L) (by rw [e1]; exact hh') hS' T' rfl X'
  exact ⟨t2, gs t2 a1, b1⟩
theorem rl_callAi (C : Cx G (p, e, R, s, mt, args, below, meth, c, cs, sl, Qp) d cc nL own ret) {idx k ci d' maxL nA : Nat} {y : MethodName} {bytes : ByteArray} {ret' : Option FieldType} {Cn : String} {T : u_T} {N : Nat} {ks : List hKd} {As st0 : List Value} {E1 : Option (Int32 × hM)} {r : Int32} {m1 : hM} (hMt : MtA vI G d' a b y bytes maxL ret' (hA G k :: As) m E1) (hE1 : E1 = some (r, m1)) (hw : hCV own idx Cn y bytes maxL ret' nA) (hy : LY[k]? = some (.inl (ci, ks))) (hc : vwCl[ci]? = some (Cn, T, N)) (hdd : d' + 1 ≤ d ∧ maxL ≤ 41) (hAs : As.length = nA) (hsum : (st.map fun v => v.category).sum ≤ 8) (hst : st0 = As.reverse ++ hA G k :: st) (hca : cs + a ≤ R.cells) (hsb : sl + b ≤ R.slots) (hd : decode cc pc = .ok (.invokevirtual idx, 3)) (hn : pc + 3 = n) (kk : Rf vU G (p, e, R, s, mt, args, below, meth, c, cs + a, sl + b, Qp) n lv (.int r :: st) m1 E) : Rf vU G (p, e, R, s, mt, args, below, meth, c, cs, sl, Qp) pc lv st0 m E := by
  obtain ⟨hx, hb, hml, how, hts, hK, hr, hlk, hR⟩ := C
  subst hn
  intro ls H locs u m' hl hh hS hE
  subst hst
  obtain ⟨hw1, hw2, hw3, hw4, hw5, hw6⟩ := hw
  have he : (hW G m)[k]? = some (G.2.2.2.1 + k, .inr (ci, ks.mapIdx (fun i q => hV G.2.2.2.1 m k i q))) := hW_get hy
  have hGd : GoodIn lw_tb (wsV own idx Cn y (Cond.code y bytes maxL ret' :: lw_tb)) := by
    intro w hw
    unfold wsV at hw
    rcases List.mem_append.mp hw with h | h
    · have hm : w ∈ lw_tb := by
        simp only [List.mem_cons, List.not_mem_nil, or_false] at h
        rcases h with rfl | rfl | rfl | rfl <;> assumption
      exact ⟨hm, good_of_word (List.mem_filter.mp hm).2⟩
    · exact tb_GoodC hw5 w h
  have cw : CallW R s args own Cn idx y bytes maxL ret' (Cond.code y bytes maxL ret' :: lw_tb) (rmK d' a b) a b nA := cwV nA hts hGd rfl rfl rfl hw6 ⟨Nat.le_trans hdd.1 hR.1, by have h9 := hR.2.1; show _ + 60 * d' ≤ R.locals; omega⟩
  refine rfA_after (v := vI r) (m1 := m1) hS (va_runV (As := As) (rest := st) (C := Cn) ⟨hx, hb, hml, how, hts⟩ (hMt r m1 hE1) cw ⟨hBlind, va_recv hK.1 hh hc he, fun U hU hW => ⟨rfl, by rw [hU]; exact hh, hKK_pre hK hS hU hW⟩⟩ rfl hAs (hl.1.trans hml) rfl (lv_room hsum) hd ⟨hca, hsb⟩) (fun H1 locs1 hh1 hS1 => ?_)
  exact kk ls H1 locs1 u m' hl hh1 hS1 hE
end RLA
theorem IV_L {Z Y : hM} (h : IV Z) (g : ∀ a j, gI Y a j = gI Z a j) (l : ∀ a j, a ≠ 132 → gL Y a j = gL Z a j) (r : ∀ a j, gR Y a j = gR Z a j) : IV Y := by
  obtain ⟨n, c, k, t, h⟩ := h
  exact ⟨n, c, k, t, h.cg ⟨fun a j _ => g a j, fun j => l _ _ (by omega), fun z => rfOk_cg z (fun j => r _ _)⟩ ⟨fun a j _ => g a j, fun j => l _ _ (by omega)⟩ (jk_cg h.2.2.2.2.2.1 (fun a j _ _ => g a j))⟩
/-- wrong: the class's answer, the reference's, the same -/
theorem ok_wrong {m : hM} (h : IV m) (G : hG) (x1 : Int32) : ∃ (E1 : Option (Int32 × hM)) (r : Int32) (m1 m2 : hM), MtA vI G 3 1 9 yX10_wrong cX10_wrong 9 (some .int) [hA G 0, .int x1] m E1 ∧ E1 = some (r, m1) ∧ f_X11_wrong 4000 x1 m1 = some (r, m2) ∧ IV m2 := by
  obtain ⟨n, c, k, t, h⟩ := h
  have hst := h.2.2.2.2.1
  obtain ⟨w, hw, hwe⟩ := wr_num hst.1
  by_cases q : hIn x1 9
  · obtain ⟨kk, hk, rfl⟩ := hIn_of q (by omega)
    have h2 : ∀ i, i < w → gI m 54 i = sFn m (67 + i) := fun i hi => hst.2.2.2.2.2.2.1 i (by rw [hwe, nI_clamp (show w < 2 ^ 31 by omega)]; exact hi)
    obtain ⟨l1, l2⟩ := lowA_ok (min w 8) (by omega)
    have cl : wrE m (sFn m) (min w 8) kk = some (0, setRow m 67 66 1 (wrR (sFn m) (min w 8) kk)) := by
      unfold wrE
      rw [cx_clear, hBd_some, cx_frac (by omega) m _ _ l1 l2, hBd_some]
      rfl
    have hS : rS (sFn m) (setRow m 67 66 1 (wrR (sFn m) (min w 8) kk)) := fun j hj => by
      have z : gI (setRow m 67 66 1 (wrR (sFn m) (min w 8) kk)) 114 j = if 114 = 66 ∧ j = 1 then nI (wrR (sFn m) (min w 8) kk).length else gI m 114 j := rfl
      rw [z, if_neg (by omega)]; rfl
    obtain ⟨M', f, e2⟩ := (rx_wrong (fu := 4000) (by omega) hS hwe hw (nI kk)).2 q
    rw [nI_clamp (show kk < 2 ^ 31 by omega)] at e2
    refine ⟨_, 0, _, _, c_wrongY G m (S := sFn m) (by omega) hw (by rw [hst.2.2.2.2.1]; exact hwe) h2, cl, e2, ?_⟩
    have hx : (wrR (sFn m) (min w 8) kk).length ≤ 11 := Nat.le_of_ble_eq_true rfl
    refine IV_L (h.rowq hx) (fun a j => ?_) (fun a j ha => ?_) (fun a j => ?_)
    · show (if a = 96 ∧ j = 1 then _ else gI M' a j) = (if a = 96 ∧ j = 1 then _ else gI (sI (setRow m 67 66 1 _) 96 0 0) a j)
      rw [f.1]
    · show (if a = 97 ∧ j < _ then _ else gL M' a j) = (if a = 97 ∧ j < _ then _ else gL (sI (setRow m 67 66 1 _) 96 0 0) a j)
      rw [f.2.1 a j ha]
    · exact f.2.2 a j
  · exact ⟨_, -1, m, _, c_wrongN G m x1 q, rfl, (rx_wrong (fu := 4000) (by omega) h.rs hwe hw x1).1 q, h.th rfl rfl⟩
theorem lw_wrong {G : hG} {p : Program} {e : Env} {R : Room} {s : State} {mt : MethodId} {args : Array Value} {below : List Frame} {meth : Method} {c : Code} {Qp : Option Value → hM → State → Prop} {b L : Nat} {xs : Nat → Int32} {ret : Option FieldType} (hRc : 601024 ≤ R.cells) (hRs : 7293034 ≤ R.slots) (hC : ∀ cs sl, cs ≤ 601024 → sl ≤ 7293034 → Cx G (p, e, R, s, mt, args, below, meth, c, cs, sl, Qp) 1400 cL_law 8 RL ret ∧ Cs G (p, e, R, s, mt, args, below, meth, c, cs, sl, Qp) b L xs) : lwSp G (fun cs sl => (p, e, R, s, mt, args, below, meth, c, cs, sl, Qp)) b L xs 1455 := by
  intro cs sl i m E hi h c1 c2 kk
  obtain ⟨E1, r, m1, m2, hMt, e1, e2, h2⟩ := ok_wrong h G (xs (i + 1).toNatClampNeg)
  obtain ⟨C, S⟩ := hC cs sl (Nat.le_trans (Nat.le_add_right _ _) c1) (Nat.le_trans (Nat.le_add_right _ _) c2)
  have d1 : cs + 1 ≤ 601024 := Nat.le_trans (Nat.add_le_add_left (by decide) cs) c1
  have d2 : sl + 9 ≤ 7293034 := Nat.le_trans (Nat.add_le_add_left (by decide) sl) c2
  obtain ⟨C1, S1⟩ := hC (cs + 1) (sl + 9) d1 d2
  refine rf_aload_n C (n := 1456) (q := 3) (x := 0) dL_law_1455 rfl rfl rfl ?_
  refine rl_arg C S (n := 1462) (v := 1) dL_law_1456 dL_law_1457 dL_law_1459 dL_law_1460 dL_law_1461 rfl rfl rfl rfl rfl (by decide) (hi 1 (by decide) (by decide)) ?_
  refine rl_callAi C (n := 1465) hMt e1 lwc_154 ly_0 rfl ⟨by decide, by decide⟩ rfl (Nat.le_of_ble_eq_true rfl) rfl (Nat.le_trans d1 hRc) (Nat.le_trans d2 hRs) dL_law_1462 rfl ?_
  refine rf_aload_n C1 (n := 1466) (q := 2) (x := 96) dL_law_1465 rfl rfl rfl ?_
  refine rl_arg C1 S1 (n := 1472) (v := 1) dL_law_1466 dL_law_1467 dL_law_1469 dL_law_1470 dL_law_1471 rfl rfl rfl rfl rfl (by decide) (hi 1 (by decide) (by decide)) ?_
  refine rl_callVi C1 (n := 1475) (c_X11_wrong G 4000 _ _) e2 lwc_157 ly_96 rfl ⟨by decide, by decide⟩ rfl (Nat.le_of_ble_eq_true rfl) rfl dL_law_1472 rfl ?_
  refine rl_eqT C1 (n := 1869) dL_law_1475 (by decide) ?_
  exact kk (cs + 1) (sl + 9) m2 h2 (Nat.add_le_add_left (by decide) cs) (Nat.add_le_add_left (by decide) sl)
