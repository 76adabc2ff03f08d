/-! ===== wrong, in the class: its contract; calls that make cells ===== -/
def MtA {α : Type} (vl : α → Option Value) (G : hG) (d a b : Nat) (y : MethodName) (bytes : ByteArray) (maxL : Nat) (ret : Option FieldType) (av : List Value) (m : hM) (E : Option (α × hM)) : Prop :=
  ∀ (r : α) (m' : hM), E = some (r, m') → Met G.1 y (Cond.code y bytes maxL ret :: lw_tb) (rmK d a b) (va_Pc av (fun U => hR G m U.heap ∧ hKK G U U.heap)) (hQ G (vl r) m') a b (fun q => G.2.2.2.1 ≤ q)
def CrA (G : hG) (X X1 : hX) (a b : Nat) : Prop :=
  match X with
  | (p, e, R, s, mt, args, below, meth, c, cs, sl, Qp) => cs = 0 ∧ sl = 0 ∧ a ≤ R.cells ∧ b ≤ R.slots ∧ X1 = (p, e, R, s, mt, args, below, meth, c, a, b, Qp) ∧ Qp = fun v m' => MQ below (hQ G v m') args s a b (fun q => G.2.2.2.1 ≤ q)
def CrB (G : hG) (X : hX) (a b : Nat) : Prop :=
  match X with
  | (p, e, R, s, mt, args, below, meth, c, cs, sl, Qp) => cs = a ∧ sl = b ∧ Qp = fun v m' => MQ below (hQ G v m') args s a b (fun q => G.2.2.2.1 ≤ q)
section RA
variable {G : hG} {X X1 : hX} {d a b : Nat} {cc : ByteArray} {nL : Nat} {own : String} {ret : Option FieldType} {pc n : Nat} {lv : List (Nat × Value)} {st : List Value} {m : hM} {E : Option (Int32 × hM)}
theorem rf_iretA (C : Cx G X d cc nL own (some .int)) (K : CrA G X X1 a b) {v : Int32} (hd : decode cc pc = .ok (.ireturn, 1)) : Rf vI G X pc lv [.int v] m (some (v, m)) := by
  obtain ⟨p, e, R, s, mt, args, below, meth, c, cs, sl, Qp⟩ := X
  obtain ⟨hx, hb, hml, how, hts, hK, hr, hlk, hR⟩ := C
  intro ls H locs r m' hl hh hS hE
  cases hE
  obtain ⟨rfl, rfl, -, -, -, rfl⟩ := K
  refine W.widen (k := a) (n := b) (Nat.zero_le _) (Nat.zero_le _) ?_
  exact W.iret hx hb hr (fun t ht hW => ⟨rfl, by rw [ht]; exact hh, hS.F ht⟩) hS.2.2 hd hlk
theorem rf_iretB (C : Cx G X d cc nL own (some .int)) (K : CrB G X a b) {v : Int32} (hd : decode cc pc = .ok (.ireturn, 1)) : Rf vI G X pc lv [.int v] m (some (v, m)) := by
  obtain ⟨p, e, R, s, mt, args, below, meth, c, cs, sl, Qp⟩ := X
  obtain ⟨hx, hb, hml, how, hts, hK, hr, hlk, hR⟩ := C
  intro ls H locs r m' hl hh hS hE
  cases hE
  obtain ⟨rfl, rfl, rfl⟩ := K
  exact W.iret hx hb hr (fun t ht hW => ⟨rfl, by rw [ht]; exact hh, hS.F ht⟩) hS.2.2 hd hlk
theorem hR_size {H : Heap} (h : hR G m H) : G.2.2.2.1 + 136 ≤ H.size := by
  have hk := h 135 _ (hW_get ly_135)
  have := hk.lt
  show G.2.2.2.1 + 136 ≤ H.size
  have h2 : G.2.2.2.1 + 135 < H.size := this
  omega
theorem rf_newl (C : Cx G X d cc nL own ret) (K : CrA G X X1 1 9) (hd : decode cc pc = .ok (.newarray .long, 2)) (hn : pc + 2 = n) (kk : ∀ qa, Rg G X1 qa n lv (.ref qa :: st) (fun _ => 0) m E) : Rf vI G X pc lv (.int 9 :: st) m E := by
  obtain ⟨p, e, R, s, mt, args, below, meth, c, cs, sl, Qp⟩ := X
  obtain ⟨hx, hb, hml, how, hts, hK, hr, hlk, hR⟩ := C
  subst hn
  intro ls H locs r m' hl hh hS hE
  obtain ⟨rfl, rfl, k1, k2, rfl, k4⟩ := K
  refine va_newaK (atype := .long) (g := F0 mt pc ls (.int 9 :: st)) (rest := st) (N := 9) hx hb (hts _ wa_long) rfl hd rfl (by decide) (by decide) (by decide) k1 k2 rfl (fun H1 cA e1 z1 o1 hAr hNm => ?_)
  have hc : cA = G.2.2.1 3 := Option.some.inj (hNm.symm.trans (hK.1.2 3 _ rfl).2)
  subst hc
  refine kk H.size ls H1 locs r m' hl (va_P.kept hh (fun k q hq => o1 q.1 (hh k q hq).lt)) (hR_size hh) ?_ ⟨Nat.le_trans hS.1 (by omega), fun q h1 h2 => (o1 q (Nat.lt_of_lt_of_le h1 hS.1)).trans (hS.2.1 q h1 h2), hS.2.2⟩ hE
  show H1[H.size]? = some (vp_cell _ _)
  rw [e1]; rfl
theorem mtA_of {y : MethodName} {maxL : Nat} {av : List Value} (hy : plainFor y = true) (hlen : (lg_sl av).length ≤ maxL) (h : ∀ X X1 : hX, Cx G X d cc maxL y.cls ret → Cx G X1 d cc maxL y.cls ret → CrA G X X1 a b → CrB G X1 a b → Rf vI G X 0 (lv_args 0 av) [] m E) : MtA vI G d a b y cc maxL ret av m E := by
  intro r m' hE
  refine MetFree.of_bodySF (code := cc) (maxLocals := maxL) (ret := ret) hy ?_ ?_
  · intro args s mt h hn
    obtain ⟨meth, c, h1, h2, h3, h4, h5, h6, -, -⟩ := Cond.code_spec hn (atoms_spec (ws := Cond.code y cc maxL ret :: lw_tb) h _ List.mem_cons_self)
    exact ⟨meth, c, h1, h2, h3, h4, h5, h6⟩
  · intro p e s mt args below meth c s₁ B hml hv _
    have hh0 : s₁.heap = s.heap := by rw [B.state]; rfl
    obtain ⟨rfl, hh, hK⟩ := hv
    have hts0 := atoms_spec (ws := Cond.code y cc maxL ret :: lw_tb) B.pre
    have hl := lv_entry av (n := maxL) hlen
    have w := h (p, e, rmK d a b, s, mt, av.toArray, below, meth, c, 0, 0, fun v m' => MQ below (hQ G v m') av.toArray s a b (fun q => G.2.2.2.1 ≤ q)) (p, e, rmK d a b, s, mt, av.toArray, below, meth, c, a, b, fun v m' => MQ below (hQ G v m') av.toArray s a b (fun q => G.2.2.2.1 ≤ q)) ⟨B.exec, B.bytes, hml, findClass_of_methodNamed B.named, fun w hw => hts0 w (List.mem_cons_of_mem _ hw), hK, B.returns, B.notSynchronized, ⟨Nat.le_refl _, Nat.le_refl _, Nat.zero_le _, Nat.zero_le _⟩⟩ ⟨B.exec, B.bytes, hml, findClass_of_methodNamed B.named, fun w hw => hts0 w (List.mem_cons_of_mem _ hw), hK, B.returns, B.notSynchronized, ⟨Nat.le_refl _, Nat.le_refl _, Nat.le_refl _, Nat.le_refl _⟩⟩ ⟨rfl, rfl, Nat.le_refl _, Nat.le_refl _, rfl, rfl⟩ ⟨rfl, rfl, rfl⟩ _ _ _ r m' (by rw [hml]; exact hl) hh va_S.rf hE
    have w2 : W p G.1 e (rmK d a b) s mt av.toArray below meth c s.heap [] 0 0 (MQ below (hQ G (vI r) m') av.toArray s a b (fun q => G.2.2.2.1 ≤ q)) (entryFrame mt av.toArray maxL) := by rw [lg_entry_eq]; exact w
    obtain ⟨t, a1, o, b1, b2, b3⟩ := w2 s₁ hh0 (Stand.of_body B)
    exact ⟨t, o, a1, b1, b2, ⟨b3.1, b3.2⟩⟩
theorem ra_ltT (C : Cx G X d cc nL own ret) {x : Int32} {off : Int} (h : x < 0) (hd : decode cc pc = .ok (.ifCond .lt off, 3)) (ht : (pc : Int) + off = (n : Int)) (k : Rf vI G X n lv st m E) : Rf vI G X pc lv (.int x :: st) m E := by
  have z := rf_if_lt (vl := vI) (X := X) (x := x) (lv := lv) (st := st) (m := m) (E1 := E) (E2 := none) (hdec := inferInstance) C hd ht rfl (fun _ => k) (fun q => absurd h q)
  exact rf_eq (by rw [if_pos h]) z
theorem ra_ltF (C : Cx G X d cc nL own ret) {x : Int32} {off : Int} {tgt : Nat} (h : ¬ x < 0) (hd : decode cc pc = .ok (.ifCond .lt off, 3)) (ht : (pc : Int) + off = (tgt : Int)) (hn : pc + 3 = n) (k : Rf vI G X n lv st m E) : Rf vI G X pc lv (.int x :: st) m E := by
  have z := rf_if_lt (vl := vI) (X := X) (x := x) (lv := lv) (st := st) (m := m) (E1 := none) (E2 := E) (hdec := inferInstance) C hd ht hn (fun q => absurd q h) (fun _ => k)
  exact rf_eq (by rw [if_neg h]) z
theorem ra_leT (C : Cx G X d cc nL own ret) {x y : Int32} {off : Int} (h : x ≤ y) (hd : decode cc pc = .ok (.if_icmp .le off, 3)) (ht : (pc : Int) + off = (n : Int)) (k : Rf vI G X n lv st m E) : Rf vI G X pc lv (.int y :: .int x :: st) m E := by
  have z := rf_icmp_le (vl := vI) (X := X) (x := x) (y := y) (lv := lv) (st := st) (m := m) (E1 := E) (E2 := none) (hdec := inferInstance) C hd ht rfl (fun _ => k) (fun q => absurd h q)
  exact rf_eq (by rw [if_pos h]) z
theorem ra_leF (C : Cx G X d cc nL own ret) {x y : Int32} {off : Int} {tgt : Nat} (h : ¬ x ≤ y) (hd : decode cc pc = .ok (.if_icmp .le off, 3)) (ht : (pc : Int) + off = (tgt : Int)) (hn : pc + 3 = n) (k : Rf vI G X n lv st m E) : Rf vI G X pc lv (.int y :: .int x :: st) m E := by
  have z := rf_icmp_le (vl := vI) (X := X) (x := x) (y := y) (lv := lv) (st := st) (m := m) (E1 := none) (E2 := E) (hdec := inferInstance) C hd ht hn (fun q => absurd q h) (fun _ => k)
  exact rf_eq (by rw [if_neg h]) z
theorem ra_callSi (C : Cx G X d cc nL own ret) {idx d' maxL nA : Nat} {y : MethodName} {bytes : ByteArray} {ret' : Option FieldType} {As st0 : List Value} {E1 : Option (Int32 × hM)} {r : Int32} {m1 : hM} (hMt : Mt vI G d' y bytes maxL ret' As m E1) (hE1 : E1 = some (r, m1)) (hw : hCS own idx y bytes maxL ret' nA) (hdd : d' + 1 ≤ d ∧ maxL ≤ 41) (hAs : As.length = nA) (hsum : (st.map fun v => v.category).sum ≤ 8) (hst : st0 = As.reverse ++ st) (hd : decode cc pc = .ok (.invokestatic idx, 3)) (hn : pc + 3 = n) (kk : Rf vI G X n lv (.int r :: st) m1 E) : Rf vI G X pc lv st0 m E := by
  have h := rf_callSi (vl := vI) C (F := fun b m2 => @ite _ (b = r ∧ m2 = m1) (Classical.propDecidable _) E none) hMt hw hdd hAs hsum hst hd hn (fun b m2 => by
    by_cases q : b = r ∧ m2 = m1
    · rw [if_pos q, q.1, q.2]; exact kk
    · rw [if_neg q]; exact rf_none)
  rw [hE1] at h
  exact rf_eq (by show E = @ite _ (r = r ∧ m1 = m1) (Classical.propDecidable _) E none; rw [if_pos ⟨rfl, rfl⟩]) h
end RA
theorem c_wrongN (G : hG) (m : hM) (x1 : Int32) (h : ¬ hIn x1 9) : MtA vI G 3 1 9 yX10_wrong cX10_wrong 9 (some .int) [hA G 0, .int x1] m (some (-1, m)) := by
  refine mtA_of (by decide +kernel) (Nat.le_of_ble_eq_true rfl) (fun X X1 C C1 K K1 => ?_)
  have C : Cx G X 3 cX10_wrong 9 RX10 (some .int) := C
  show Rf vI G X 0 [(0, hA G 0), (1, .int x1)] [] m _
  refine rf_iload_n C (n := 1) (q := 1) (x := x1) dX10_wrong_0 rfl rfl rfl ?_
  have e8 : (8 : Int32).toInt = 8 := rfl
  have e0 : (0 : Int32).toInt = 0 := rfl
  have fin : Rf vI G X 10 [(0, hA G 0), (1, .int x1)] [] m (some (-1, m)) := by
    refine rf_iconst C (n := 11) (v := (-1)) dX10_wrong_10 rfl (by decide) ?_
    exact rf_iretA C K dX10_wrong_11
  by_cases c1 : x1 < 0
  · exact ra_ltT C (n := 10) c1 dX10_wrong_1 (by decide) fin
  · refine ra_ltF C (n := 4) (tgt := 10) c1 dX10_wrong_1 (by decide) rfl ?_
    refine rf_iload_n C (n := 5) (q := 1) (x := x1) dX10_wrong_4 rfl rfl rfl ?_
    refine rf_bipush C (n := 7) (v := 8) dX10_wrong_5 rfl (by decide) ?_
    refine ra_leF C (n := 10) (tgt := 12) (fun z => h ?_) dX10_wrong_7 (by decide) rfl fin
    rw [i_le, e8] at z
    rw [i_lt, e0] at c1
    exact ⟨by omega, by omega⟩
/-- what the class answers to wrong -/
noncomputable def wrE (m : hM) (S : Nat → Int32) (N k : Nat) : Option (Int32 × hM) := hBd (f_X1_clear 4000 m) fun _ m2 => hBd (f_X1_tellFraction 4000 (upA (hitA S N) k (9 - k)) (lowA N) m2) fun _ m3 => some (0, m3)
theorem c_wrongY (G : hG) (m : hM) {S : Nat → Int32} {w k : Nat} (hk : k ≤ 8) (hw : w ≤ 60) (h1 : gI m 46 12 = nI w) (h2 : ∀ i, i < w → gI m 54 i = S (67 + i)) : MtA vI G 3 1 9 yX10_wrong cX10_wrong 9 (some .int) [hA G 0, .int (nI k)] m (wrE m S (min w 8) k) := by
  refine mtA_of (by decide +kernel) (Nat.le_of_ble_eq_true rfl) (fun X X1 C C1 K K1 => ?_)
  have C : Cx G X 3 cX10_wrong 9 RX10 (some .int) := C
  have C1 : Cx G X1 3 cX10_wrong 9 RX10 (some .int) := C1
  show Rf vI G X 0 [(0, hA G 0), (1, .int (nI k))] [] m _
  refine rf_iload_n C (n := 1) (q := 1) (x := nI k) dX10_wrong_0 rfl rfl rfl ?_
  refine ra_ltF C (n := 4) (tgt := 10) (nI_pos (by omega)) dX10_wrong_1 (by decide) rfl ?_
  refine rf_iload_n C (n := 5) (q := 1) (x := nI k) dX10_wrong_4 rfl rfl rfl ?_
  refine rf_bipush C (n := 7) (v := 8) dX10_wrong_5 rfl (by decide) ?_
  refine ra_leT C (n := 12) (nI_le (b := 8) hk (by omega)) dX10_wrong_7 (by decide) ?_
  refine rf_aload_n C (n := 13) (q := 0) dX10_wrong_12 rfl rfl rfl ?_
  refine rf_getS C (n := 16) fl_RX10_65 ly_0 rfl dX10_wrong_13 rfl ?_
  refine rf_getI C (n := 19) fl_RX10_360 ly_46 rfl dX10_wrong_16 rfl ?_
  refine rf_bipush C (n := 21) (v := 8) dX10_wrong_19 rfl (by decide) ?_
  have em : (if (8 : Int32) < gI m 46 12 then (8 : Int32) else gI m 46 12) = nI (min w 8) := by
    rw [h1]
    by_cases c : 8 < w
    · rw [if_pos (show (8 : Int32) < nI w from nI_lt (a := 8) c (by omega)), Nat.min_eq_right (by omega)]; rfl
    · rw [if_neg (show ¬ (8 : Int32) < nI w from nI_nlt (a := 8) (by omega) (by omega)), Nat.min_eq_left (by omega)]
  refine ra_callSi C (n := 24) (c_J9_min_7cf53 G 4000 (gI m 46 12) 8 m) e_min sw_RX10_363 ⟨by decide, by decide⟩ rfl (Nat.le_of_ble_eq_true rfl) rfl dX10_wrong_21 rfl ?_
  rw [em]
  have hN : min w 8 ≤ 8 := Nat.min_le_right _ _
  have hNw : min w 8 ≤ w := Nat.min_le_left _ _
  refine rf_istore_n C (n := 25) [(2, .int (nI (min w 8))), (0, hA G 0), (1, .int (nI k))] dX10_wrong_24 rfl rfl (by decide) rfl ?_
  refine rf_bipush C (n := 27) (v := 9) dX10_wrong_25 rfl (by decide) ?_
  refine rf_newl C K dX10_wrong_27 rfl (fun qa => ?_)
  refine rg_asq C1 (n := 30) [(3, .ref qa), (2, .int (nI (min w 8))), (0, hA G 0), (1, .int (nI k))] dX10_wrong_29 rfl rfl (by decide) rfl ?_
  refine rg_alq C1 (n := 31) (q := 0) dX10_wrong_30 rfl rfl rfl ?_
  refine rg_iconst C1 (n := 32) (v := 0) dX10_wrong_31 rfl (by decide) ?_
  refine rg_lconst C1 (n := 33) (v := 1) dX10_wrong_32 rfl (by decide) ?_
  refine rg_last C1 (n := 34) (j := 0) (by decide) (by decide) dX10_wrong_33 rfl ?_
  refine rg_lconst C1 (n := 35) (v := 1) dX10_wrong_34 rfl (by decide) ?_
  refine rg_lstore C1 (n := 37) [(4, .long 1), (3, .ref qa), (2, .int (nI (min w 8))), (0, hA G 0), (1, .int (nI k))] dX10_wrong_35 rfl (by decide) rfl ?_
  refine rg_iconst C1 (n := 38) (v := 0) dX10_wrong_37 rfl (by decide) ?_
  refine rg_istore C1 (n := 40) (wvA G qa (nI (min w 8)) (nI k) (nI 0) (lowA 0)) dX10_wrong_38 rfl (by decide) rfl ?_
  refine wr_outer C1 (S := S) hN (fun i hi => h2 i (by omega)) (fun g hg => ?_) (min w 8) 0 _ (by omega) (fun j hj => by
    show (if j = 0 then (1 : Int64) else 0) = hit0 j
    rfl)
  refine rg_lconst C1 (n := 123) (v := 0) dX10_wrong_122 rfl (by decide) ?_
  refine rg_lstore C1 (n := 125) [(6, .long 0), (4, .long (lowA (min w 8))), (3, .ref qa), (2, .int (nI (min w 8))), (0, hA G 0), (1, .int (nI k))] dX10_wrong_123 rfl (by decide) rfl ?_
  refine rg_iload_n C1 (n := 126) (q := 5) (x := nI k) dX10_wrong_125 rfl rfl rfl ?_
  refine rg_istore C1 (n := 128) (wvC G qa (nI (min w 8)) (nI k) (lowA (min w 8)) (upA (hitA S (min w 8)) k 0) (nI (k + 0))) dX10_wrong_126 rfl (by decide) rfl ?_
  refine wr_sum C1 (H := hitA S (min w 8)) hg hk ?_ (9 - k) 0 (by omega)
  refine rg_out ?_
  unfold wrE
  refine rf_aload_n C1 (n := 151) (q := 5) (x := 0) dX10_wrong_150 rfl rfl rfl ?_
  refine rf_getS C1 (n := 154) fl_RX10_83 ly_0 rfl dX10_wrong_151 rfl ?_
  refine rf_callVv C1 (n := 157) (c_X1_clear G 4000 m) mw_RX10_170 ly_66 rfl ⟨by decide, by decide⟩ rfl (Nat.le_of_ble_eq_true rfl) rfl dX10_wrong_154 rfl (fun _ m2 => ?_)
  refine rf_aload_n C1 (n := 158) (q := 5) (x := 0) dX10_wrong_157 rfl rfl rfl ?_
  refine rf_getS C1 (n := 161) fl_RX10_83 ly_0 rfl dX10_wrong_158 rfl ?_
  refine rf_lload C1 (n := 163) (q := 1) dX10_wrong_161 rfl rfl ?_
  refine rf_lload C1 (n := 165) (q := 2) dX10_wrong_163 rfl rfl ?_
  refine rf_callVv C1 (n := 168) (c_X1_tellFraction G 4000 _ _ m2) mw_RX10_373 ly_66 rfl ⟨by decide, by decide⟩ rfl (Nat.le_of_ble_eq_true rfl) rfl dX10_wrong_165 rfl (fun _ m3 => ?_)
  refine rf_iconst C1 (n := 169) (v := 0) dX10_wrong_168 rfl (by decide) ?_
  exact rf_iretB C1 K1 dX10_wrong_169
