/-! ===== String constants, statics, and contracts that use them ===== -/
def lnS : List Nat := [12, 1, 1, 2, 1, 1, 3, 2, 1]
def byS : List (List Int32) := [[107, 108, 111, 119, 114, 99, 115, 98, 113, 112, 102, 110], [40], [41], [33, 45], [124], [38], [60, 62, 61], [43, 45], [42]]
def stS : List (String × Nat × String × Nat) := [(RX6, 69, "klowrcsbqpfn", 0), (RX11, 209, "klowrcsbqpfn", 0), (RX11, 215, "(", 1), (RX11, 223, ")", 2), (RX11, 225, "!-", 3), (RX11, 233, "|", 4), (RX11, 235, "&", 5), (RX11, 237, "<>=", 6), (RX11, 239, "+-", 7), (RX11, 241, "*", 8)]
def zK (G : hG) (i : Nat) : Value := .ref (G.2.2.2.2.1 i)
def zV (G : hG) (i : Nat) : Value := .ref (G.2.2.2.2.2 i)
def hK2 (G : hG) (U : State) (H : Heap) : Prop :=
  vk_S 9 lnS byS G.2.2.2.2.1 G.2.2.2.2.2 (fun q => G.2.2.2.1 ≤ q) U H ∧ (∀ q ∈ stS, vk_R q.1 q.2.1 q.2.2.1 (G.2.2.2.2.1 q.2.2.2) U) ∧ va_Z "java/lang/String" "COMPACT_STRINGS" "Z" (.int 1) (fun q => G.2.2.2.1 ≤ q) U H ∧ va_Zq "jdk/internal/util/Preconditions" "SIOOBE_FORMATTER" "Ljava/util/function/BiFunction;" (fun q => G.2.2.2.1 ≤ q) U H ∧ vx_Zq Bundle.tN "UNASSIGNED_STACK" Bundle.steD (fun q => G.2.2.2.1 ≤ q) U H ∧ vx_Zq Bundle.tN "SUPPRESSED_SENTINEL" Bundle.listD (fun q => G.2.2.2.1 ≤ q) U H ∧ G.1.stackTraces = false
theorem hK2.warm {G : hG} {s U : State} {H : Heap} (hW : s.WarmedH U.vm) (h : hK2 G s H) : hK2 G U H := by
  obtain ⟨h1, h2, h3, h4, h5, h6, h7⟩ := h
  exact ⟨vk_S.moved hW.alike h1, fun q hq => vk_R.warm hW (h2 q hq), va_Z.moved hW.alike h3, va_Zq.moved hW.alike h4, vx_Zq.moved hW.alike h5, vx_Zq.moved hW.alike h6, h7⟩
theorem hK2.same {G : hG} {s U : State} {H : Heap} (hv : s.vm = U.vm) (h : hK2 G s H) : hK2 G U H := by
  obtain ⟨h1, h2, h3, h4, h5, h6, h7⟩ := h
  have ha : s.vm.Alike U.vm := by rw [hv]; exact Vm.Alike.refl _
  exact ⟨vk_S.moved ha h1, fun q hq => vk_R.same hv.symm (h2 q hq), va_Z.moved ha h3, va_Zq.moved ha h4, vx_Zq.moved ha h5, vx_Zq.moved ha h6, h7⟩
theorem hK2.kept {G : hG} {s : State} {H H1 : Heap} (h : hK2 G s H) (hq : ∀ q : Nat, q < H.size → ¬ G.2.2.2.1 ≤ q → H1[q]? = H[q]?) : hK2 G s H1 := by
  obtain ⟨h1, h2, h3, h4, h5, h6, h7⟩ := h
  exact ⟨h1.kept hq, h2, h3.kept hq, h4.kept hq, h5.kept hq, h6.kept hq, h7⟩
theorem hK2_pre {G : hG} {s : State} {H : Heap} {locs : List Loc} (hK : hK2 G s s.heap) (hS : va_S (fun q => G.2.2.2.1 ≤ q) s.heap H locs) {U : State} (hU : U.heap = H) (hW : s.WarmedH U.vm) : hK2 G U U.heap := by
  rw [hU]
  exact (hK.kept (fun q h1 h2 => hS.2.1 q h1 h2)).warm hW
def Cz (G : hG) (X : hX) : Prop :=
  match X with
  | (_, _, _, s, _, _, _, _, _, _, _, _) => hK2 G s s.heap
def Mt2 {α : Type} (vl : α → Option Value) (G : hG) (d : Nat) (y : MethodName) (bytes : ByteArray) (maxL : Nat) (ret : Option FieldType) (av : List Value) (m : hM) (E : Option (α × hM)) : Prop :=
  ∀ (a : α) (m' : hM), E = some (a, m') → Met G.1 y (Cond.code y bytes maxL ret :: lw_tb) (rmD d) (va_Pc av (fun U => hR G m U.heap ∧ hKK G U U.heap ∧ hK2 G U U.heap)) (hQ G (vl a) m') 0 0 (fun q => G.2.2.2.1 ≤ q)
theorem hBlind2 {G : hG} {m : hM} {av : List Value} : FrameBlind (va_Pc av (fun U => hR G m U.heap ∧ hKK G U U.heap ∧ hK2 G U U.heap)) :=
  fun a U g mk q => ⟨q.1, q.2.1, show hKK G (U.calling g mk a) U.heap from hKK.same (s := U) (U := U.calling g mk a) (H := U.heap) rfl q.2.2.1, show hK2 G (U.calling g mk a) U.heap from hK2.same (s := U) (U := U.calling g mk a) (H := U.heap) rfl q.2.2.2⟩
section RZ
variable {α : Type} {vl : α → Option Value} {G : hG} {X : hX} {d : Nat} {cc : ByteArray} {nL : Nat} {own : String} {ret : Option FieldType} {pc n : Nat} {lv : List (Nat × Value)} {st : List Value} {m : hM} {E E1 E2 : Option (α × hM)}
theorem rz_ldcS (C : Cx G X d cc nL own ret) (Z : Cz G X) {idx i : Nat} {tx : String} (hm : (own, idx, tx, i) ∈ stS) (hd : decode cc pc = .ok (.ldc idx, 2)) (hn : pc + 2 = n) (kk : Rf vl G X n lv (zK G i :: st) m E) : Rf vl G X pc lv st m E := by
  obtain ⟨p, e, R, s, mt, args, below, meth, c, cs, sl, Qp⟩ := X
  obtain ⟨hx, hb, hml, how, hts, hK, hr, hlk, hR⟩ := C
  subst hn
  intro ls H locs a m' hl hh hS hE
  exact va_ldcS hx hb how (Z.2.1 _ hm) hd (kk ls H locs a m' hl hh hS hE)
theorem rz_getSV (C : Cx G X d cc nL own ret) (Z : Cz G X) {idx i : Nat} (hi : i < 9) (hw : Cond.fieldLink own idx "java/lang/String" "value" "[B" ∈ lw_tb) (hd : decode cc pc = .ok (.getfield idx, 3)) (hn : pc + 3 = n) (kk : Rf vl G X n lv (zV G i :: st) m E) : Rf vl G X pc lv (zK G i :: st) m E := by
  obtain ⟨p, e, R, s, mt, args, below, meth, c, cs, sl, Qp⟩ := X
  obtain ⟨hx, hb, hml, how, hts, hK, hr, hlk, hR⟩ := C
  subst hn
  intro ls H locs a m' hl hh hS hE
  exact vk_getf hx hb (Z.1.1 i hi).2.2.1 hS how (hts _ hw) (fun _ h => h) hd (kk ls H locs a m' hl hh hS hE)
theorem rz_getSC (C : Cx G X d cc nL own ret) (Z : Cz G X) {idx i : Nat} (hi : i < 9) (hw : Cond.fieldLink own idx "java/lang/String" "coder" "B" ∈ lw_tb) (hd : decode cc pc = .ok (.getfield idx, 3)) (hn : pc + 3 = n) (kk : Rf vl G X n lv (.int 0 :: st) m E) : Rf vl G X pc lv (zK G i :: st) m E := by
  obtain ⟨p, e, R, s, mt, args, below, meth, c, cs, sl, Qp⟩ := X
  obtain ⟨hx, hb, hml, how, hts, hK, hr, hlk, hR⟩ := C
  subst hn
  intro ls H locs a m' hl hh hS hE
  exact vk_getf hx hb (Z.1.1 i hi).2.1 hS how (hts _ hw) (fun _ h => h) hd (kk ls H locs a m' hl hh hS hE)
theorem rz_gets (C : Cx G X d cc nL own ret) (Z : Cz G X) {idx : Nat} (hw : Cond.fieldLink own idx "java/lang/String" "COMPACT_STRINGS" "Z" ∈ lw_tb) (hd : decode cc pc = .ok (.getstatic idx, 3)) (hn : pc + 3 = n) (kk : Rf vl G X n lv (.int 1 :: st) m E) : Rf vl G X pc lv st m E := by
  obtain ⟨p, e, R, s, mt, args, below, meth, c, cs, sl, Qp⟩ := X
  obtain ⟨hx, hb, hml, how, hts, hK, hr, hlk, hR⟩ := C
  subst hn
  intro ls H locs a m' hl hh hS hE
  exact va_gets hx hb Z.2.2.1 hS how (hts _ hw) (fun _ h => h) hd (kk ls H locs a m' hl hh hS hE)
theorem rz_getsF (C : Cx G X d cc nL own ret) (Z : Cz G X) {idx : Nat} (hw : Cond.fieldLink own idx "jdk/internal/util/Preconditions" "SIOOBE_FORMATTER" "Ljava/util/function/BiFunction;" ∈ lw_tb) (hd : decode cc pc = .ok (.getstatic idx, 3)) (hn : pc + 3 = n) (kk : ∀ v : Option Nat, Rf vl G X n lv (va_rf v :: st) m E) : Rf vl G X pc lv st m E := by
  obtain ⟨p, e, R, s, mt, args, below, meth, c, cs, sl, Qp⟩ := X
  obtain ⟨hx, hb, hml, how, hts, hK, hr, hlk, hR⟩ := C
  subst hn
  intro ls H locs a m' hl hh hS hE
  rcases Z.2.2.2.1 with h | ⟨t, h⟩
  · exact va_gets hx hb h hS how (hts _ hw) (fun _ h => h) hd (kk none ls H locs a m' hl hh hS hE)
  · exact va_gets hx hb h hS how (hts _ hw) (fun _ h => h) hd (kk (some t) ls H locs a m' hl hh hS hE)
theorem rz_tlen (C : Cx G X d cc nL own ret) (Z : Cz G X) {i : Nat} (hi : i < 9) (hd : decode cc pc = .ok (.arraylength, 1)) (hn : pc + 1 = n) (kk : Rf vl G X n lv (.int (Int32.ofNat (lnS.getD i 0)) :: st) m E) : Rf vl G X pc lv (zV G i :: st) m E := by
  obtain ⟨p, e, R, s, mt, args, below, meth, c, cs, sl, Qp⟩ := X
  obtain ⟨hx, hb, hml, how, hts, hK, hr, hlk, hR⟩ := C
  subst hn
  intro ls H locs a m' hl hh hS hE
  exact va_tlen hx hb (Z.1.1 i hi).2.2.2 hS rfl hd (kk ls H locs a m' hl hh hS hE)
theorem rz_tb (C : Cx G X d cc nL own ret) (Z : Cz G X) {i : Nat} {j : Int32} (hi : i < 9) (hj : hIn j (lnS.getD i 0)) (hd : decode cc pc = .ok (.baload, 1)) (hn : pc + 1 = n) (kk : Rf vl G X n lv (.int ((byS.getD i []).getD j.toNatClampNeg 0) :: st) m E) : Rf vl G X pc lv (.int j :: zV G i :: st) m E := by
  obtain ⟨p, e, R, s, mt, args, below, meth, c, cs, sl, Qp⟩ := X
  obtain ⟨hx, hb, hml, how, hts, hK, hr, hlk, hR⟩ := C
  subst hn
  intro ls H locs a m' hl hh hS hE
  exact va_tb hx hb (Z.1.1 i hi).2.2.2 hS (hIn_vp hj) rfl hd (kk ls H locs a m' hl hh hS hE)
theorem rf_bret (C : Cx G X d cc nL own (some .byte)) (K : Cr G X) {v : Int32} (hv : narrow .byte (.int v) = .int v) (hd : decode cc pc = .ok (.ireturn, 1)) : Rf vI G X pc lv [.int v] m (some (v, m)) := by
  obtain ⟨p, e, R, s, mt, args, below, meth, c, cs, sl, Qp⟩ := X
  obtain ⟨hx, hb, hml, how, hts, hK, hr, hlk, hR⟩ := C
  intro ls H locs a m' hl hh hS hE
  cases hE
  obtain ⟨rfl, rfl, rfl⟩ := K
  exact W.zret hx hb hr hv (fun t ht hW => ⟨rfl, by rw [ht]; exact hh, hS.F ht⟩) hS.2.2 hd hlk
theorem rz_callVi (C : Cx G X d cc nL own ret) (Z : Cz G X) {idx k ci d' maxL nA : Nat} {y : MethodName} {bytes : ByteArray} {ret' : Option FieldType} {Cn : String} {T : u_T} {N : Nat} {ks : List hKd} {As st0 : List Value} {E1 : Option (Int32 × hM)} {F : Int32 → hM → Option (α × hM)} (hMt : Mt2 vI G d' y bytes maxL ret' (hA G k :: As) m E1) (hw : hCV own idx Cn y bytes maxL ret' nA) (hy : LY[k]? = some (.inl (ci, ks))) (hc : vwCl[ci]? = some (Cn, T, N)) (hdd : d' + 1 ≤ d ∧ maxL ≤ 41) (hAs : As.length = nA) (hsum : (st.map fun v => v.category).sum ≤ 8) (hst : st0 = As.reverse ++ hA G k :: st) (hd : decode cc pc = .ok (.invokevirtual idx, 3)) (hn : pc + 3 = n) (kk : ∀ (b : Int32) (m1 : hM), Rf vl G X n lv (.int b :: st) m1 (F b m1)) : Rf vl G X pc lv st0 m (hBd E1 F) := by
  obtain ⟨p, e, R, s, mt, args, below, meth, c, cs, sl, Qp⟩ := X
  obtain ⟨hx, hb, hml, how, hts, hK, hr, hlk, hR⟩ := C
  subst hn
  intro ls H locs a m' hl hh hS hE
  subst hst
  obtain ⟨hw1, hw2, hw3, hw4, hw5, hw6⟩ := hw
  cases hE1 : E1 with
  | none => rw [hE1] at hE; cases hE
  | some x =>
  obtain ⟨b, m1⟩ := x
  rw [hE1] at hE
  have he : (hW G m)[k]? = some (G.2.2.2.1 + k, .inr (ci, ks.mapIdx (fun i q => hV G.2.2.2.1 m k i q))) := hW_get hy
  have hGd : GoodIn lw_tb (wsV own idx Cn y (Cond.code y bytes maxL ret' :: lw_tb)) := by
    intro w hw
    unfold wsV at hw
    rcases List.mem_append.mp hw with h | h
    · have hm : w ∈ lw_tb := by
        simp only [List.mem_cons, List.not_mem_nil, or_false] at h
        rcases h with rfl | rfl | rfl | rfl <;> assumption
      exact ⟨hm, good_of_word (List.mem_filter.mp hm).2⟩
    · exact tb_GoodC hw5 w h
  have cw : CallW R s args own Cn idx y bytes maxL ret' (Cond.code y bytes maxL ret' :: lw_tb) (rmD d') 0 0 nA := cwV nA hts hGd rfl rfl rfl hw6 ⟨Nat.le_trans hdd.1 hR.1, by have h9 := hR.2.1; show _ + 60 * d' ≤ R.locals; omega⟩
  refine rf_after (vb := vI) (b := b) (m1 := m1) hS (va_runV (As := As) (rest := st) (C := Cn) ⟨hx, hb, hml, how, hts⟩ (hMt b m1 hE1) cw ⟨hBlind2, va_recv hK.1 hh hc he, fun U hU hW => ⟨rfl, by rw [hU]; exact hh, hKK_pre hK hS hU hW, hK2_pre Z hS hU hW⟩⟩ rfl hAs (hl.1.trans hml) rfl (lv_room hsum) hd ⟨hR.2.2.1, hR.2.2.2⟩) (fun H1 locs1 hh1 hS1 => ?_)
  exact kk b m1 ls H1 locs1 a m' hl hh1 hS1 hE
theorem rz_callSi (C : Cx G X d cc nL own ret) (Z : Cz G X) {idx d' maxL nA : Nat} {y : MethodName} {bytes : ByteArray} {ret' : Option FieldType} {As st0 : List Value} {E1 : Option (Int32 × hM)} {F : Int32 → hM → Option (α × hM)} (hMt : Mt2 vI G d' y bytes maxL ret' As m E1) (hw : hCS own idx y bytes maxL ret' nA) (hdd : d' + 1 ≤ d ∧ maxL ≤ 41) (hAs : As.length = nA) (hsum : (st.map fun v => v.category).sum ≤ 8) (hst : st0 = As.reverse ++ st) (hd : decode cc pc = .ok (.invokestatic idx, 3)) (hn : pc + 3 = n) (kk : ∀ (b : Int32) (m1 : hM), Rf vl G X n lv (.int b :: st) m1 (F b m1)) : Rf vl G X pc lv st0 m (hBd E1 F) := by
  obtain ⟨p, e, R, s, mt, args, below, meth, c, cs, sl, Qp⟩ := X
  obtain ⟨hx, hb, hml, how, hts, hK, hr, hlk, hR⟩ := C
  subst hn
  intro ls H locs a m' hl hh hS hE
  subst hst
  obtain ⟨hw1, hw2, hw3, hw4, hw5⟩ := hw
  cases hE1 : E1 with
  | none => rw [hE1] at hE; cases hE
  | some x =>
  obtain ⟨b, m1⟩ := x
  rw [hE1] at hE
  have cw : CallB R s args own idx y bytes maxL ret' (Cond.code y bytes maxL ret' :: lw_tb) (rmD d') 0 0 nA := callB_of nA hts (tb_GoodC hw4) rfl rfl rfl (hts _ hw3) (hts _ hw1) hw5 ⟨Nat.le_trans hdd.1 hR.1, by have h9 := hR.2.1; show _ + 60 * d' ≤ R.locals; omega⟩
  refine rf_after (vb := vI) (b := b) (m1 := m1) hS (va_runS (As := As) (rest := st) ⟨hx, hb, hml, how, hts⟩ (hMt b m1 hE1) ⟨cw, hts _ hw2⟩ ⟨hBlind2, fun U hU hW => ⟨rfl, by rw [hU]; exact hh, hKK_pre hK hS hU hW, hK2_pre Z hS hU hW⟩⟩ rfl hAs (hl.1.trans hml) rfl (lv_room hsum) hd ⟨hR.2.2.1, hR.2.2.2⟩) (fun H1 locs1 hh1 hS1 => ?_)
  exact kk b m1 ls H1 locs1 a m' hl hh1 hS1 hE
theorem rz_callVv (C : Cx G X d cc nL own ret) (Z : Cz G X) {idx k ci d' maxL nA : Nat} {y : MethodName} {bytes : ByteArray} {ret' : Option FieldType} {Cn : String} {T : u_T} {N : Nat} {ks : List hKd} {As st0 : List Value} {E1 : Option (Unit × hM)} {F : Unit → hM → Option (α × hM)} (hMt : Mt2 vU G d' y bytes maxL ret' (hA G k :: As) m E1) (hw : hCV own idx Cn y bytes maxL ret' nA) (hy : LY[k]? = some (.inl (ci, ks))) (hc : vwCl[ci]? = some (Cn, T, N)) (hdd : d' + 1 ≤ d ∧ maxL ≤ 41) (hAs : As.length = nA) (hsum : (st.map fun v => v.category).sum ≤ 8) (hst : st0 = As.reverse ++ hA G k :: st) (hd : decode cc pc = .ok (.invokevirtual idx, 3)) (hn : pc + 3 = n) (kk : ∀ (b : Unit) (m1 : hM), Rf vl G X n lv (st) m1 (F b m1)) : Rf vl G X pc lv st0 m (hBd E1 F) := by
  obtain ⟨p, e, R, s, mt, args, below, meth, c, cs, sl, Qp⟩ := X
  obtain ⟨hx, hb, hml, how, hts, hK, hr, hlk, hR⟩ := C
  subst hn
  intro ls H locs a m' hl hh hS hE
  subst hst
  obtain ⟨hw1, hw2, hw3, hw4, hw5, hw6⟩ := hw
  cases hE1 : E1 with
  | none => rw [hE1] at hE; cases hE
  | some x =>
  obtain ⟨b, m1⟩ := x
  rw [hE1] at hE
  have he : (hW G m)[k]? = some (G.2.2.2.1 + k, .inr (ci, ks.mapIdx (fun i q => hV G.2.2.2.1 m k i q))) := hW_get hy
  have hGd : GoodIn lw_tb (wsV own idx Cn y (Cond.code y bytes maxL ret' :: lw_tb)) := by
    intro w hw
    unfold wsV at hw
    rcases List.mem_append.mp hw with h | h
    · have hm : w ∈ lw_tb := by
        simp only [List.mem_cons, List.not_mem_nil, or_false] at h
        rcases h with rfl | rfl | rfl | rfl <;> assumption
      exact ⟨hm, good_of_word (List.mem_filter.mp hm).2⟩
    · exact tb_GoodC hw5 w h
  have cw : CallW R s args own Cn idx y bytes maxL ret' (Cond.code y bytes maxL ret' :: lw_tb) (rmD d') 0 0 nA := cwV nA hts hGd rfl rfl rfl hw6 ⟨Nat.le_trans hdd.1 hR.1, by have h9 := hR.2.1; show _ + 60 * d' ≤ R.locals; omega⟩
  refine rf_after (vb := vU) (b := b) (m1 := m1) hS (va_runV (As := As) (rest := st) (C := Cn) ⟨hx, hb, hml, how, hts⟩ (hMt b m1 hE1) cw ⟨hBlind2, va_recv hK.1 hh hc he, fun U hU hW => ⟨rfl, by rw [hU]; exact hh, hKK_pre hK hS hU hW, hK2_pre Z hS hU hW⟩⟩ rfl hAs (hl.1.trans hml) rfl (lv_room hsum) hd ⟨hR.2.2.1, hR.2.2.2⟩) (fun H1 locs1 hh1 hS1 => ?_)
  exact kk b m1 ls H1 locs1 a m' hl hh1 hS1 hE
theorem rz_callSv (C : Cx G X d cc nL own ret) (Z : Cz G X) {idx d' maxL nA : Nat} {y : MethodName} {bytes : ByteArray} {ret' : Option FieldType} {As st0 : List Value} {E1 : Option (Unit × hM)} {F : Unit → hM → Option (α × hM)} (hMt : Mt2 vU G d' y bytes maxL ret' As m E1) (hw : hCS own idx y bytes maxL ret' nA) (hdd : d' + 1 ≤ d ∧ maxL ≤ 41) (hAs : As.length = nA) (hsum : (st.map fun v => v.category).sum ≤ 8) (hst : st0 = As.reverse ++ st) (hd : decode cc pc = .ok (.invokestatic idx, 3)) (hn : pc + 3 = n) (kk : ∀ (b : Unit) (m1 : hM), Rf vl G X n lv (st) m1 (F b m1)) : Rf vl G X pc lv st0 m (hBd E1 F) := by
  obtain ⟨p, e, R, s, mt, args, below, meth, c, cs, sl, Qp⟩ := X
  obtain ⟨hx, hb, hml, how, hts, hK, hr, hlk, hR⟩ := C
  subst hn
  intro ls H locs a m' hl hh hS hE
  subst hst
  obtain ⟨hw1, hw2, hw3, hw4, hw5⟩ := hw
  cases hE1 : E1 with
  | none => rw [hE1] at hE; cases hE
  | some x =>
  obtain ⟨b, m1⟩ := x
  rw [hE1] at hE
  have cw : CallB R s args own idx y bytes maxL ret' (Cond.code y bytes maxL ret' :: lw_tb) (rmD d') 0 0 nA := callB_of nA hts (tb_GoodC hw4) rfl rfl rfl (hts _ hw3) (hts _ hw1) hw5 ⟨Nat.le_trans hdd.1 hR.1, by have h9 := hR.2.1; show _ + 60 * d' ≤ R.locals; omega⟩
  refine rf_after (vb := vU) (b := b) (m1 := m1) hS (va_runS (As := As) (rest := st) ⟨hx, hb, hml, how, hts⟩ (hMt b m1 hE1) ⟨cw, hts _ hw2⟩ ⟨hBlind2, fun U hU hW => ⟨rfl, by rw [hU]; exact hh, hKK_pre hK hS hU hW, hK2_pre Z hS hU hW⟩⟩ rfl hAs (hl.1.trans hml) rfl (lv_room hsum) hd ⟨hR.2.2.1, hR.2.2.2⟩) (fun H1 locs1 hh1 hS1 => ?_)
  exact kk b m1 ls H1 locs1 a m' hl hh1 hS1 hE
theorem rz_callTi (C : Cx G X d cc nL own ret) (Z : Cz G X) {idx k d' maxL nA : Nat} {y : MethodName} {bytes : ByteArray} {ret' : Option FieldType} {As st0 : List Value} {E1 : Option (Int32 × hM)} {F : Int32 → hM → Option (α × hM)} (hMt : Mt2 vI G d' y bytes maxL ret' (zK G k :: As) m E1) (hw : hCV own idx "java/lang/String" y bytes maxL ret' nA) (hk : k < 9) (hdd : d' + 1 ≤ d ∧ maxL ≤ 41) (hAs : As.length = nA) (hsum : (st.map fun v => v.category).sum ≤ 8) (hst : st0 = As.reverse ++ zK G k :: st) (hd : decode cc pc = .ok (.invokevirtual idx, 3)) (hn : pc + 3 = n) (kk : ∀ (b : Int32) (m1 : hM), Rf vl G X n lv (.int b :: st) m1 (F b m1)) : Rf vl G X pc lv st0 m (hBd E1 F) := by
  obtain ⟨p, e, R, s, mt, args, below, meth, c, cs, sl, Qp⟩ := X
  obtain ⟨hx, hb, hml, how, hts, hK, hr, hlk, hR⟩ := C
  subst hn
  intro ls H locs a m' hl hh hS hE
  subst hst
  obtain ⟨hw1, hw2, hw3, hw4, hw5, hw6⟩ := hw
  cases hE1 : E1 with
  | none => rw [hE1] at hE; cases hE
  | some x =>
  obtain ⟨b, m1⟩ := x
  rw [hE1] at hE
  have hGd : GoodIn lw_tb (wsV own idx "java/lang/String" y (Cond.code y bytes maxL ret' :: lw_tb)) := by
    intro w hw
    unfold wsV at hw
    rcases List.mem_append.mp hw with h | h
    · have hm : w ∈ lw_tb := by
        simp only [List.mem_cons, List.not_mem_nil, or_false] at h
        rcases h with rfl | rfl | rfl | rfl <;> assumption
      exact ⟨hm, good_of_word (List.mem_filter.mp hm).2⟩
    · exact tb_GoodC hw5 w h
  have cw : CallW R s args own "java/lang/String" idx y bytes maxL ret' (Cond.code y bytes maxL ret' :: lw_tb) (rmD d') 0 0 nA := cwV nA hts hGd rfl rfl rfl hw6 ⟨Nat.le_trans hdd.1 hR.1, by have h9 := hR.2.1; show _ + 60 * d' ≤ R.locals; omega⟩
  refine rf_after (vb := vI) (b := b) (m1 := m1) hS (va_runV (As := As) (rest := st) (C := "java/lang/String") ⟨hx, hb, hml, how, hts⟩ (hMt b m1 hE1) cw ⟨hBlind2, vk_recv Z.1 hk hS, fun U hU hW => ⟨rfl, by rw [hU]; exact hh, hKK_pre hK hS hU hW, hK2_pre Z hS hU hW⟩⟩ rfl hAs (hl.1.trans hml) rfl (lv_room hsum) hd ⟨hR.2.2.1, hR.2.2.2⟩) (fun H1 locs1 hh1 hS1 => ?_)
  exact kk b m1 ls H1 locs1 a m' hl hh1 hS1 hE
theorem mt2_of {y : MethodName} {maxL : Nat} {av : List Value} (hy : plainFor y = true) (hlen : (lg_sl av).length ≤ maxL) (h : ∀ X : hX, Cx G X d cc maxL y.cls ret → Cr G X → Cz G X → Rf vl G X 0 (lv_args 0 av) [] m E) : Mt2 vl G d y cc maxL ret av m E := by
  intro a m' hE
  refine MetFree.of_bodySF (code := cc) (maxLocals := maxL) (ret := ret) hy ?_ ?_
  · intro args s mt h hn
    obtain ⟨meth, c, h1, h2, h3, h4, h5, h6, -, -⟩ := Cond.code_spec hn (atoms_spec (ws := Cond.code y cc maxL ret :: lw_tb) h _ List.mem_cons_self)
    exact ⟨meth, c, h1, h2, h3, h4, h5, h6⟩
  · intro p e s mt args below meth c s₁ B hml hv _
    have hh0 : s₁.heap = s.heap := by rw [B.state]; rfl
    obtain ⟨rfl, hh, hK, hZ⟩ := hv
    have hts0 := atoms_spec (ws := Cond.code y cc maxL ret :: lw_tb) B.pre
    have hl := lv_entry av (n := maxL) hlen
    have w := h (p, e, rmD d, s, mt, av.toArray, below, meth, c, 0, 0, fun v m' => MQ below (hQ G v m') av.toArray s 0 0 (fun q => G.2.2.2.1 ≤ q)) ⟨B.exec, B.bytes, hml, findClass_of_methodNamed B.named, fun w hw => hts0 w (List.mem_cons_of_mem _ hw), hK, B.returns, B.notSynchronized, ⟨Nat.le_refl _, Nat.le_refl _, Nat.le_refl _, Nat.le_refl _⟩⟩ ⟨rfl, rfl, rfl⟩ hZ _ _ _ a m' (by rw [hml]; exact hl) hh va_S.rf hE
    have w2 : W p G.1 e (rmD d) s mt av.toArray below meth c s.heap [] 0 0 (MQ below (hQ G (vl a) m') av.toArray s 0 0 (fun q => G.2.2.2.1 ≤ q)) (entryFrame mt av.toArray maxL) := by rw [lg_entry_eq]; exact w
    obtain ⟨t, a1, o, b1, b2, b3⟩ := w2 s₁ hh0 (Stand.of_body B)
    exact ⟨t, o, a1, b1, b2, ⟨b3.1, b3.2⟩⟩
theorem rz_aload_nK (C : Cx G X d cc nL own ret) {z : Fin 4} {i q : Nat} {x : Nat} (hd : decode cc pc = .ok (.aload_n z, 1)) (hn : pc + 1 = n) (hi : (z : Nat) = i) (hq : lv[q]? = some (i, zK G x)) (k : Rf vl G X n lv (zK G x :: st) m E) : Rf vl G X pc lv (st) m E := by
  obtain ⟨p, e, R, s, mt, args, below, meth, c, cs, sl, Qp⟩ := X
  obtain ⟨hx, hb, hml, how, hts, hK, hr, hlk, hR⟩ := C
  subst hn
  intro ls H locs a m' hl hh hS hE
  exact lv_aload_n hx hb hd hi (lv_at hl q hq) (k ls H locs a m' hl hh hS hE)
theorem rz_aloadK (C : Cx G X d cc nL own ret) {i q : Nat} {x : Nat} (hd : decode cc pc = .ok (.aload i, 2)) (hn : pc + 2 = n) (hq : lv[q]? = some (i, zK G x)) (k : Rf vl G X n lv (zK G x :: st) m E) : Rf vl G X pc lv (st) m E := by
  obtain ⟨p, e, R, s, mt, args, below, meth, c, cs, sl, Qp⟩ := X
  obtain ⟨hx, hb, hml, how, hts, hK, hr, hlk, hR⟩ := C
  subst hn
  intro ls H locs a m' hl hh hS hE
  exact lv_aload hx hb hd (lv_at hl q hq) (k ls H locs a m' hl hh hS hE)
theorem rz_astore_nK (C : Cx G X d cc nL own ret) {i : Nat} {z : Fin 4} {x : Nat} (lv' : List (Nat × Value)) (hd : decode cc pc = .ok (.astore_n z, 1)) (hn : pc + 1 = n) (hi : (z : Nat) = i) (hi2 : i < nL) (hlv : (i, zK G x) :: lv.filter (fun q => !(q.1 == i) && !(q.1 + 1 == i && q.2.category == 2)) = lv') (k : Rf vl G X n lv' st m E) : Rf vl G X pc lv (zK G x :: st) m E := by
  obtain ⟨p, e, R, s, mt, args, below, meth, c, cs, sl, Qp⟩ := X
  obtain ⟨hx, hb, hml, how, hts, hK, hr, hlk, hR⟩ := C
  subst hn
  intro ls H locs a m' hl hh hS hE
  exact lv_astore_n hx hb hd hi hl (by rw [hml]; exact hi2) hlv (fun ls' hl' => k ls' H locs a m' hl' hh hS hE)
theorem rz_astoreK (C : Cx G X d cc nL own ret) {i : Nat}  {x : Nat} (lv' : List (Nat × Value)) (hd : decode cc pc = .ok (.astore i, 2)) (hn : pc + 2 = n) (hi2 : i < nL) (hlv : (i, zK G x) :: lv.filter (fun q => !(q.1 == i) && !(q.1 + 1 == i && q.2.category == 2)) = lv') (k : Rf vl G X n lv' st m E) : Rf vl G X pc lv (zK G x :: st) m E := by
  obtain ⟨p, e, R, s, mt, args, below, meth, c, cs, sl, Qp⟩ := X
  obtain ⟨hx, hb, hml, how, hts, hK, hr, hlk, hR⟩ := C
  subst hn
  intro ls H locs a m' hl hh hS hE
  exact lv_astore hx hb hd  hl (by rw [hml]; exact hi2) hlv (fun ls' hl' => k ls' H locs a m' hl' hh hS hE)
theorem rz_aload_nV (C : Cx G X d cc nL own ret) {z : Fin 4} {i q : Nat} {x : Nat} (hd : decode cc pc = .ok (.aload_n z, 1)) (hn : pc + 1 = n) (hi : (z : Nat) = i) (hq : lv[q]? = some (i, zV G x)) (k : Rf vl G X n lv (zV G x :: st) m E) : Rf vl G X pc lv (st) m E := by
  obtain ⟨p, e, R, s, mt, args, below, meth, c, cs, sl, Qp⟩ := X
  obtain ⟨hx, hb, hml, how, hts, hK, hr, hlk, hR⟩ := C
  subst hn
  intro ls H locs a m' hl hh hS hE
  exact lv_aload_n hx hb hd hi (lv_at hl q hq) (k ls H locs a m' hl hh hS hE)
theorem rz_aloadV (C : Cx G X d cc nL own ret) {i q : Nat} {x : Nat} (hd : decode cc pc = .ok (.aload i, 2)) (hn : pc + 2 = n) (hq : lv[q]? = some (i, zV G x)) (k : Rf vl G X n lv (zV G x :: st) m E) : Rf vl G X pc lv (st) m E := by
  obtain ⟨p, e, R, s, mt, args, below, meth, c, cs, sl, Qp⟩ := X
  obtain ⟨hx, hb, hml, how, hts, hK, hr, hlk, hR⟩ := C
  subst hn
  intro ls H locs a m' hl hh hS hE
  exact lv_aload hx hb hd (lv_at hl q hq) (k ls H locs a m' hl hh hS hE)
theorem rz_astore_nV (C : Cx G X d cc nL own ret) {i : Nat} {z : Fin 4} {x : Nat} (lv' : List (Nat × Value)) (hd : decode cc pc = .ok (.astore_n z, 1)) (hn : pc + 1 = n) (hi : (z : Nat) = i) (hi2 : i < nL) (hlv : (i, zV G x) :: lv.filter (fun q => !(q.1 == i) && !(q.1 + 1 == i && q.2.category == 2)) = lv') (k : Rf vl G X n lv' st m E) : Rf vl G X pc lv (zV G x :: st) m E := by
  obtain ⟨p, e, R, s, mt, args, below, meth, c, cs, sl, Qp⟩ := X
  obtain ⟨hx, hb, hml, how, hts, hK, hr, hlk, hR⟩ := C
  subst hn
  intro ls H locs a m' hl hh hS hE
  exact lv_astore_n hx hb hd hi hl (by rw [hml]; exact hi2) hlv (fun ls' hl' => k ls' H locs a m' hl' hh hS hE)
theorem rz_astoreV (C : Cx G X d cc nL own ret) {i : Nat}  {x : Nat} (lv' : List (Nat × Value)) (hd : decode cc pc = .ok (.astore i, 2)) (hn : pc + 2 = n) (hi2 : i < nL) (hlv : (i, zV G x) :: lv.filter (fun q => !(q.1 == i) && !(q.1 + 1 == i && q.2.category == 2)) = lv') (k : Rf vl G X n lv' st m E) : Rf vl G X pc lv (zV G x :: st) m E := by
  obtain ⟨p, e, R, s, mt, args, below, meth, c, cs, sl, Qp⟩ := X
  obtain ⟨hx, hb, hml, how, hts, hK, hr, hlk, hR⟩ := C
  subst hn
  intro ls H locs a m' hl hh hS hE
  exact lv_astore hx hb hd  hl (by rw [hml]; exact hi2) hlv (fun ls' hl' => k ls' H locs a m' hl' hh hS hE)
theorem rz_if_eqN (C : Cx G X d cc nL own ret) {x : Int32} {off : Int} {tgt : Nat} (hx : ¬ x = 0) (hd : decode cc pc = .ok (.ifCond .eq off, 3)) (ht : (pc : Int) + off = (tgt : Int)) (hn : pc + 3 = n) (kf : Rf vl G X n lv st m E) : Rf vl G X pc lv (.int x :: st) m E := by
  have q := rf_if_eq C (hdec := inferInstance) (E1 := E) (E2 := E) hd ht hn (fun h => absurd h hx) (fun _ => kf)
  rw [if_neg hx] at q
  exact q
theorem rz_if_neN (C : Cx G X d cc nL own ret) {x : Int32} {off : Int} {tgt : Nat} (hx : ¬ ¬ x = 0) (hd : decode cc pc = .ok (.ifCond .ne off, 3)) (ht : (pc : Int) + off = (tgt : Int)) (hn : pc + 3 = n) (kf : Rf vl G X n lv st m E) : Rf vl G X pc lv (.int x :: st) m E := by
  have q := rf_if_ne C (hdec := inferInstance) (E1 := E) (E2 := E) hd ht hn (fun h => absurd h hx) (fun _ => kf)
  rw [if_neg hx] at q
  exact q
end RZ
