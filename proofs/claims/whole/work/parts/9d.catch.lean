/-! ===== the law's own methods that catch: rows, contracts ===== -/
/-- a method of the law with a handler -/
def MtH (G : hG) (d : Nat) (y : MethodName) (bytes : ByteArray) (maxL : Nat) (ret : Option FieldType) (tb : List (Nat × Nat × Nat × Nat)) (av : List Value) (m : hM) (r : Int32) (m' : hM) : Prop :=
  Met G.1 y (Cond.codeWith y bytes maxL ret tb :: lw_tb) (rmK d 1 6) (va_Pc av (fun U => hR G m U.heap ∧ hKK G U U.heap ∧ hK2 G U U.heap ∧ hK3 U)) (hQ G (vI r) m') 1 6 (fun q => G.2.2.2.1 ≤ q)
theorem hBlind3 {G : hG} {m : hM} {av : List Value} : FrameBlind (va_Pc av (fun U => hR G m U.heap ∧ hKK G U U.heap ∧ hK2 G U U.heap ∧ hK3 U)) :=
  fun a U g mk q => ⟨q.1, q.2.1, show hKK G (U.calling g mk a) U.heap from hKK.same (s := U) (U := U.calling g mk a) (H := U.heap) rfl q.2.2.1, show hK2 G (U.calling g mk a) U.heap from hK2.same (s := U) (U := U.calling g mk a) (H := U.heap) rfl q.2.2.2.1, hK3.same (s := U) (U := U.calling g mk a) rfl q.2.2.2.2⟩
/-- what its body owes at its end -/
def CrH (G : hG) (X X1 : hX) (tb : List (Nat × Nat × Nat × Nat)) : Prop :=
  match X with
  | (p, e, R, s, mt, args, below, meth, c, cs, sl, Qp) => cs = 0 ∧ sl = 0 ∧ 1 ≤ R.cells ∧ 6 ≤ R.slots ∧ c.exceptionTable.toList = tableOf tb ∧ hK2 G s s.heap ∧ hK3 s ∧ X1 = (p, e, R, s, mt, args, below, meth, c, 1, 6, Qp) ∧ Qp = fun v m' => MQ below (hQ G v m') args s 1 6 (fun q => G.2.2.2.1 ≤ q)
/-- the words of a static call of a method with a handler -/
def hCH (own : String) (idx : Nat) (y : MethodName) (bytes : ByteArray) (maxL : Nat) (ret : Option FieldType) (tb : List (Nat × Nat × Nat × Nat)) (nA : Nat) : Prop := Cond.methodLink own idx y ∈ lw_tb ∧ Cond.static y ∈ lw_tb ∧ Cond.initialized y.cls ∈ lw_tb ∧ Cond.codeWith y bytes maxL ret tb ∈ lw_tb ∧ (y.cls ≠ "java/lang/invoke/MethodHandle" ∧ y.cls ≠ "java/lang/invoke/VarHandle" ∧ (parseMethodDescriptor y.desc).map (fun d => d.parameters.length) = some nA)
section RH
variable {G : hG} {X X1 : hX} {d : Nat} {cc : ByteArray} {nL : Nat} {own : String} {ret : Option FieldType} {pc n : Nat} {lv : List (Nat × Value)} {st : List Value} {m : hM} {E : Option (Int32 × hM)} {tb : List (Nat × Nat × Nat × Nat)}
theorem rh_iret (C : Cx G X d cc nL own (some .int)) (K : CrH G X X1 tb) {v : Int32} (hd : decode cc pc = .ok (.ireturn, 1)) : Rf vI G X pc lv [.int v] m (some (v, m)) := by
  obtain ⟨p, e, R, s, mt, args, below, meth, c, cs, sl, Qp⟩ := X
  obtain ⟨hx, hb, hml, how, hts, hK, hr, hlk, hR⟩ := C
  intro ls H locs r m' hl hh hS hE
  cases hE
  obtain ⟨rfl, rfl, -, -, -, -, -, -, rfl⟩ := K
  refine W.widen (k := 1) (n := 6) (Nat.zero_le _) (Nat.zero_le _) ?_
  exact W.iret hx hb hr (fun t ht hW => ⟨rfl, by rw [ht]; exact hh, hS.F ht⟩) hS.2.2 hd hlk
theorem rh_iret1 (C : Cx G X1 d cc nL own (some .int)) (K : CrH G X X1 tb) {v : Int32} (hd : decode cc pc = .ok (.ireturn, 1)) : Rf vI G X1 pc lv [.int v] m (some (v, m)) := by
  obtain ⟨p, e, R, s, mt, args, below, meth, c, cs, sl, Qp⟩ := X
  obtain ⟨rfl, rfl, -, -, -, -, -, rfl, rfl⟩ := K
  obtain ⟨hx, hb, hml, how, hts, hK, hr, hlk, hR⟩ := C
  intro ls H locs r m' hl hh hS hE
  cases hE
  exact W.iret hx hb hr (fun t ht hW => ⟨rfl, by rw [ht]; exact hh, hS.F ht⟩) hS.2.2 hd hlk
/-- a call that throws, caught here -/
theorem rh_callX (C : Cx G X d cc nL own ret) (K : CrH G X X1 tb) {idx k ci d' maxL nA hp t0 t1 : Nat} {y : MethodName} {bytes : ByteArray} {ret' : Option FieldType} {Cn : String} {T : u_T} {N : Nat} {ks : List hKd} {As st0 : List Value} (htb : tb = [(t0, t1, hp, 13)]) (hcov : covers ⟨t0, t1, hp, 13⟩ pc = true) (hl13 : Cond.classLink own 13 nsE ∈ lw_tb) (hMt : MtX G d' y bytes maxL ret' (hA G k :: As) m) (hw : hCV own idx Cn y bytes maxL ret' nA) (hy : LY[k]? = some (.inl (ci, ks))) (hc : vwCl[ci]? = some (Cn, T, N)) (hdd : d' + 1 ≤ d ∧ maxL ≤ 41) (hAs : As.length = nA) (hsum : (st.map fun v => v.category).sum ≤ 8) (hst : st0 = As.reverse ++ hA G k :: st) (hd : decode cc pc = .ok (.invokevirtual idx, 3)) (kk : ∀ q, Rf vI G X1 hp lv [.ref q] m E) : Rf vI G X pc lv st0 m E := by
  obtain ⟨p, e, R, s, mt, args, below, meth, c, cs, sl, Qp⟩ := X
  obtain ⟨hx, hb, hml, how, hts, hK, hr, hlk, hR⟩ := C
  obtain ⟨rfl, rfl, k1, k2, k3, k4, k5, rfl, k7⟩ := K
  subst htb
  intro ls H locs u m' hl hh hS hE
  subst hst
  obtain ⟨hw1, hw2, hw3, hw4, hw5, hw6⟩ := hw
  have he : (hW G m)[k]? = some (G.2.2.2.1 + k, .inr (ci, ks.mapIdx (fun i q => hV G.2.2.2.1 m k i q))) := hW_get hy
  have hGd : GoodIn lw_tb (wsV own idx Cn y (Cond.code y bytes maxL ret' :: lw_tb)) := by
    intro w hw
    unfold wsV at hw
    rcases List.mem_append.mp hw with h | h
    · have hm : w ∈ lw_tb := by
        simp only [List.mem_cons, List.not_mem_nil, or_false] at h
        rcases h with rfl | rfl | rfl | rfl <;> assumption
      exact ⟨hm, good_of_word (List.mem_filter.mp hm).2⟩
    · exact tb_GoodC hw5 w h
  have cw : CallW R s args own Cn idx y bytes maxL ret' (Cond.code y bytes maxL ret' :: lw_tb) (rmK d' 1 6) 1 6 nA := cwV nA hts hGd rfl rfl rfl hw6 ⟨Nat.le_trans hdd.1 hR.1, by have h9 := hR.2.1; show _ + 60 * d' ≤ R.locals; omega⟩
  have hrun := vx_runV (l := G.1) (p := p) (e := e) (below := below) (meth := meth) (H := H) (locs := locs) (cells := 0) (slots := 0) (g := F0 mt pc ls (As.reverse ++ hA G k :: st)) (As := As) (rest := st) (C := Cn) ⟨hx, hb, hml, how, hts⟩ hMt cw ⟨hBlind3, va_recv hK.1 hh hc he, fun U hU hW => ⟨rfl, by rw [hU]; exact hh, hKK_pre hK hS hU hW, hK2_pre k4 hS hU hW, k5.warm hW⟩⟩ rfl hAs (hl.1.trans hml) rfl (lv_room hsum) hd ⟨by omega, by omega⟩
  intro T0 hT Xs
  rcases hrun T0 hT Xs with ⟨v, st₀, t, T', L, h0, X', hL, e1, e2, hF, gs⟩ | ⟨q, st₀, t, T', L, E0, ce, h0, X', hL, e1, e2, ⟨rfl, hh', hF⟩, hce, hcv, hcl, stp⟩
  · exact hF.elim
  · obtain ⟨-, -, hS'⟩ := vx_keep h0 e1 hS (fun q _ z => z) (fun q z => z) hL hF
    have w := vx_catch (pc := pc) (rest := st) (name := nsE) (E := nsE) how [] ⟨t0, t1, hp, 13⟩ [] k3 (fun z hz => nomatch hz) hcov (show (13 : Nat) ≠ 0 by decide) (hts _ hl13) (k5.use _ (by simp [nsC])) (by rw [e1]; exact hce) hcv hcl (kk q ls T'.heap (locs ++ L) u m' hl (by rw [e1]; exact hh') hS' hE)
    obtain ⟨t2, a1, b1⟩ := w T' rfl X'
    exact ⟨t2, stp.trans a1, b1⟩
theorem rh_asq_n (C : Cx G X d cc nL own ret) {i q : Nat} {z : Fin 4} (lv' : List (Nat × Value)) (hd : decode cc pc = .ok (.astore_n z, 1)) (hn : pc + 1 = n) (hi : (z : Nat) = i) (hi2 : i < nL) (hlv : (i, Value.ref q) :: lv.filter (fun q => !(q.1 == i) && !(q.1 + 1 == i && q.2.category == 2)) = lv') (k : Rf vI G X n lv' st m E) : Rf vI G X pc lv (.ref q :: st) m E := by
  obtain ⟨p, e, R, s, mt, args, below, meth, c, cs, sl, Qp⟩ := X
  obtain ⟨hx, hb, hml, how, hts, hK, hr, hlk, hR⟩ := C
  subst hn
  intro ls H locs a m' hl hh hS hE
  exact lv_astore_n hx hb hd hi hl (by rw [hml]; exact hi2) hlv (fun ls' hl' => k ls' H locs a m' hl' hh hS hE)
theorem rh_asq (C : Cx G X d cc nL own ret) {i q : Nat} (lv' : List (Nat × Value)) (hd : decode cc pc = .ok (.astore i, 2)) (hn : pc + 2 = n) (hi2 : i < nL) (hlv : (i, Value.ref q) :: lv.filter (fun q => !(q.1 == i) && !(q.1 + 1 == i && q.2.category == 2)) = lv') (k : Rf vI G X n lv' st m E) : Rf vI G X pc lv (.ref q :: st) m E := by
  obtain ⟨p, e, R, s, mt, args, below, meth, c, cs, sl, Qp⟩ := X
  obtain ⟨hx, hb, hml, how, hts, hK, hr, hlk, hR⟩ := C
  subst hn
  intro ls H locs a m' hl hh hS hE
  exact lv_astore hx hb hd hl (by rw [hml]; exact hi2) hlv (fun ls' hl' => k ls' H locs a m' hl' hh hS hE)
theorem rh_callVl (C : Cx G X d cc nL own ret) {idx k ci d' maxL nA : Nat} {y : MethodName} {bytes : ByteArray} {ret' : Option FieldType} {Cn : String} {T : u_T} {N : Nat} {ks : List hKd} {As st0 : List Value} {E1 : Option (Int64 × hM)} {r : Int64} {m1 : hM} (hMt : Mt vJ G d' y bytes maxL ret' (hA G k :: As) m E1) (hE1 : E1 = some (r, m1)) (hw : hCV own idx Cn y bytes maxL ret' nA) (hy : LY[k]? = some (.inl (ci, ks))) (hc : vwCl[ci]? = some (Cn, T, N)) (hdd : d' + 1 ≤ d ∧ maxL ≤ 41) (hAs : As.length = nA) (hsum : (st.map fun v => v.category).sum ≤ 8) (hst : st0 = As.reverse ++ hA G k :: st) (hd : decode cc pc = .ok (.invokevirtual idx, 3)) (hn : pc + 3 = n) (kk : Rf vI G X n lv (.long r :: st) m1 E) : Rf vI G X pc lv st0 m E := by
  have h := rf_callVl (vl := vI) C (F := fun b m2 => @ite _ (b = r ∧ m2 = m1) (Classical.propDecidable _) E none) hMt hw hy hc hdd hAs hsum hst hd hn (fun b m2 => by
    by_cases q : b = r ∧ m2 = m1
    · rw [if_pos q, q.1, q.2]; exact kk
    · rw [if_neg q]; exact rf_none)
  rw [hE1] at h
  exact rf_eq (by show E = @ite _ (r = r ∧ m1 = m1) (Classical.propDecidable _) E none; rw [if_pos ⟨rfl, rfl⟩]) h
theorem mtH_of {y : MethodName} {maxL : Nat} {av : List Value} {r : Int32} {m' : hM} (hy : plainName y.cls = true) (hlen : (lg_sl av).length ≤ maxL) (h : ∀ X X1 : hX, Cx G X d cc maxL y.cls ret → Cx G X1 d cc maxL y.cls ret → CrH G X X1 tb → Rf vI G X 0 (lv_args 0 av) [] m (some (r, m'))) : MtH G d y cc maxL ret tb av m r m' := by
  unfold MtH
  refine MetFree.of_bodyS (code := cc) (maxLocals := maxL) (ret := ret) hy ?_ ?_
  · intro args s mt h hn
    obtain ⟨m9, meth, c, hn9, h1, h2, h3, h4, -, h5, h6, -⟩ := Cond.codeWith_spec (atoms_spec (ws := Cond.codeWith y cc maxL ret tb :: lw_tb) h _ List.mem_cons_self)
    cases hn.symm.trans hn9
    exact ⟨meth, c, h1, h2, h3, h4, h5, h6⟩
  · intro p e s mt args below meth c s₁ B hml hv _
    have hh0 : s₁.heap = s.heap := by rw [B.state]; rfl
    obtain ⟨rfl, hh, hK, hK2', hK3'⟩ := hv
    have hts0 := atoms_spec (ws := Cond.codeWith y cc maxL ret tb :: lw_tb) B.pre
    have htab : c.exceptionTable.toList = tableOf tb := vx_table (x := y) B (hts0 _ List.mem_cons_self)
    have hl := lv_entry av (n := maxL) hlen
    have w := h (p, e, rmK d 1 6, s, mt, av.toArray, below, meth, c, 0, 0, fun v m' => MQ below (hQ G v m') av.toArray s 1 6 (fun q => G.2.2.2.1 ≤ q)) (p, e, rmK d 1 6, s, mt, av.toArray, below, meth, c, 1, 6, fun v m' => MQ below (hQ G v m') av.toArray s 1 6 (fun q => G.2.2.2.1 ≤ q)) ⟨B.exec, B.bytes, hml, findClass_of_methodNamed B.named, fun w hw => hts0 w (List.mem_cons_of_mem _ hw), hK, B.returns, B.notSynchronized, ⟨Nat.le_refl _, Nat.le_refl _, Nat.zero_le _, Nat.zero_le _⟩⟩ ⟨B.exec, B.bytes, hml, findClass_of_methodNamed B.named, fun w hw => hts0 w (List.mem_cons_of_mem _ hw), hK, B.returns, B.notSynchronized, ⟨Nat.le_refl _, Nat.le_refl _, Nat.le_refl _, Nat.le_refl _⟩⟩ ⟨rfl, rfl, Nat.le_refl _, Nat.le_refl _, htab, hK2', hK3', rfl, rfl⟩ _ _ _ r m' (by rw [hml]; exact hl) hh va_S.rf rfl
    have w2 : W p G.1 e (rmK d 1 6) s mt av.toArray below meth c s.heap [] 0 0 (MQ below (hQ G (vI r) m') av.toArray s 1 6 (fun q => G.2.2.2.1 ≤ q)) (entryFrame mt av.toArray maxL) := by rw [lg_entry_eq]; exact w
    obtain ⟨t, a1, o, b1, b2, b3⟩ := w2 s₁ hh0 (Stand.of_body B)
    exact ⟨t, o, a1, b1, b2, ⟨b3.1, b3.2⟩⟩
end RH
section RHL
variable {G : hG} {d : Nat} {cc : ByteArray} {nL : Nat} {own : String} {ret : Option FieldType} {pc n : Nat} {lv : List (Nat × Value)} {st : List Value} {m : hM} {E : Option (Unit × hM)} {p : Program} {e : Env} {R : Room} {s : State} {mt : MethodId} {args : Array Value} {below : List Frame} {meth : Method} {c : Code} {Qp : Option Value → hM → State → Prop} {cs sl b L : Nat} {tb : List (Nat × Nat × Nat × Nat)} {X : hX} {xs : Nat → Int32}
theorem rl_callH (C : Cx G (p, e, R, s, mt, args, below, meth, c, cs, sl, Qp) d cc nL own ret) (z2 : hK2 G s s.heap) (z3 : hK3 s) {idx d' maxL nA : Nat} {y : MethodName} {bytes : ByteArray} {ret' : Option FieldType} {As st0 : List Value} {r : Int32} {m1 : hM} (hMt : MtH G d' y bytes maxL ret' tb As m r m1) (hw : hCH own idx y bytes maxL ret' tb nA) (hdd : d' + 1 ≤ d ∧ maxL ≤ 41) (hAs : As.length = nA) (hsum : (st.map fun v => v.category).sum ≤ 8) (hst : st0 = As.reverse ++ st) (hca : cs + 1 ≤ R.cells) (hsb : sl + 6 ≤ R.slots) (hd : decode cc pc = .ok (.invokestatic idx, 3)) (hn : pc + 3 = n) (kk : Rf vU G (p, e, R, s, mt, args, below, meth, c, cs + 1, sl + 6, Qp) n lv (.int r :: st) m1 E) : Rf vU G (p, e, R, s, mt, args, below, meth, c, cs, sl, Qp) pc lv st0 m E := by
  obtain ⟨hx, hb, hml, how, hts, hK, hr, hlk, hR⟩ := C
  subst hn
  intro ls H locs u m' hl hh hS hE
  subst hst
  obtain ⟨hw1, hw2, hw3, hw4, hw5⟩ := hw
  have hGd : GoodIn lw_tb (va_wsS own idx y (Cond.codeWith y bytes maxL ret' tb :: lw_tb)) := by
    intro w hw
    have hm : w ∈ lw_tb := by
      unfold va_wsS at hw
      rcases List.mem_append.mp hw with h | h
      · simp only [List.mem_cons, List.not_mem_nil, or_false] at h
        rcases h with rfl | rfl | rfl <;> assumption
      · rcases List.mem_cons.mp h with rfl | h
        · exact hw4
        · exact h
    exact ⟨hm, good_of_word (List.mem_filter.mp hm).2⟩
  have cw : vx_CSW R s args own idx y bytes maxL ret' tb (Cond.codeWith y bytes maxL ret' tb :: lw_tb) (rmK d' 1 6) 1 6 nA := vx_cwSW nA hts hGd rfl rfl rfl hw5 ⟨Nat.le_trans hdd.1 hR.1, by have h9 := hR.2.1; show _ + 60 * d' ≤ R.locals; omega⟩
  refine rfA_after (v := vI r) (m1 := m1) hS (vx_runSW (As := As) (rest := st) ⟨hx, hb, hml, how, hts⟩ hMt cw ⟨hBlind3, fun U hU hW => ⟨rfl, by rw [hU]; exact hh, hKK_pre hK hS hU hW, hK2_pre z2 hS hU hW, z3.warm hW⟩⟩ rfl hAs (hl.1.trans hml) rfl (lv_room hsum) hd ⟨hca, hsb⟩) (fun H1 locs1 hh1 hS1 => ?_)
  exact kk ls H1 locs1 u m' hl hh1 hS1 hE
/-- script[i + j], with more locals -/
theorem rl_argV (C : Cx G X d cc nL own ret) (S : Cs G X b L xs) {i v : Int32} {z : Int} {q4 q0 p1 p2 p3 p4 : Nat} (e4 : lv[q4]? = some (4, .int i)) (e0 : lv[q0]? = some (0, .ref b)) (hd1 : decode cc pc = .ok (.aload_n 0, 1)) (hd2 : decode cc p1 = .ok (.iload 4, 2)) (hd3 : decode cc p2 = .ok (.iconst z, 1)) (hd4 : decode cc p3 = .ok (.iadd, 1)) (hd5 : decode cc p4 = .ok (.iaload, 1)) (h1 : pc + 1 = p1) (h2 : p1 + 2 = p2) (h3 : p2 + 1 = p3) (h4 : p3 + 1 = p4) (h5 : p4 + 1 = n) (hz : Int32.ofInt z = v) (hi : hIn (i + v) L) (k : Rf vU G X n lv (.int (xs (i + v).toNatClampNeg) :: st) m E) : Rf vU G X pc lv st m E := by
  refine rl_scr C (n := p1) (b := b) (q := q0) hd1 h1 rfl e0 ?_
  refine rf_iload C (n := p2) (q := q4) (x := i) hd2 h2 e4 ?_
  refine rf_iconst C (n := p3) (v := v) hd3 h3 hz ?_
  refine rf_iadd C (n := p4) hd4 h4 ?_
  exact rl_sld C S hi hd5 h5 k
theorem rl_callVl (C : Cx G X d cc nL own ret) {idx k ci d' maxL nA : Nat} {y : MethodName} {bytes : ByteArray} {ret' : Option FieldType} {Cn : String} {T : u_T} {N : Nat} {ks : List hKd} {As st0 : List Value} {E1 : Option (Int64 × hM)} {r : Int64} {m1 : hM} (hMt : Mt vJ G d' y bytes maxL ret' (hA G k :: As) m E1) (hE1 : E1 = some (r, m1)) (hw : hCV own idx Cn y bytes maxL ret' nA) (hy : LY[k]? = some (.inl (ci, ks))) (hc : vwCl[ci]? = some (Cn, T, N)) (hdd : d' + 1 ≤ d ∧ maxL ≤ 41) (hAs : As.length = nA) (hsum : (st.map fun v => v.category).sum ≤ 8) (hst : st0 = As.reverse ++ hA G k :: st) (hd : decode cc pc = .ok (.invokevirtual idx, 3)) (hn : pc + 3 = n) (kk : Rf vU G X n lv (.long r :: st) m1 E) : Rf vU G X pc lv st0 m E := by
  have h := rf_callVl (vl := vU) C (F := fun b m2 => @ite _ (b = r ∧ m2 = m1) (Classical.propDecidable _) E none) hMt hw hy hc hdd hAs hsum hst hd hn (fun b m2 => by
    by_cases q : b = r ∧ m2 = m1
    · rw [if_pos q, q.1, q.2]; exact kk
    · rw [if_neg q]; exact rf_none)
  rw [hE1] at h
  exact rf_eq (by show E = @ite _ (r = r ∧ m1 = m1) (Classical.propDecidable _) E none; rw [if_pos ⟨rfl, rfl⟩]) h
end RHL
theorem lc_13 : Cond.classLink RL 13 nsE ∈ lw_tb := tb_in (by decide +kernel) (by decide +kernel)

theorem lwc_7 : hCV RL 7 RX10 yX10_value cX10_value 3 (some .int) 2 := ⟨(tb_in (by decide +kernel) (by decide +kernel)), (tb_in (by decide +kernel) (by decide +kernel)), (tb_in (by decide +kernel) (by decide +kernel)), (tb_in (by decide +kernel) (by decide +kernel)), (tb_in (by decide +kernel) (by decide +kernel)), by decide +kernel⟩
theorem dL_value_0 : decode cL_value 0 = .ok (.aload_n 3, 1) := by decide +kernel
theorem dL_value_1 : decode cL_value 1 = .ok (.iconst 0, 1) := by decide +kernel
theorem dL_value_2 : decode cL_value 2 = .ok (.aload_n 0, 1) := by decide +kernel
theorem dL_value_3 : decode cL_value 3 = .ok (.iload_n 1, 1) := by decide +kernel
theorem dL_value_4 : decode cL_value 4 = .ok (.iload_n 2, 1) := by decide +kernel
theorem dL_value_5 : decode cL_value 5 = .ok (.invokevirtual 7, 3) := by decide +kernel
theorem dL_value_8 : decode cL_value 8 = .ok (.i2l, 1) := by decide +kernel
theorem dL_value_9 : decode cL_value 9 = .ok (.lastore, 1) := by decide +kernel
theorem dL_value_10 : decode cL_value 10 = .ok (.goto 7, 3) := by decide +kernel
theorem dL_value_13 : decode cL_value 13 = .ok (.astore 4, 2) := by decide +kernel
theorem dL_value_15 : decode cL_value 15 = .ok (.iconst 1, 1) := by decide +kernel
theorem dL_value_16 : decode cL_value 16 = .ok (.ireturn, 1) := by decide +kernel
theorem dL_value_17 : decode cL_value 17 = .ok (.iconst 0, 1) := by decide +kernel
theorem dL_value_18 : decode cL_value 18 = .ok (.ireturn, 1) := by decide +kernel
theorem c_LvalueN (G : hG) (m : hM) (x1 x2 : Int32) (hMt : MtX G 6 yX10_value cX10_value 3 (some .int) [hA G 0, .int x1, .int x2] m) : MtH G 7 yL_value cL_value 5 (some .int) [(0, 10, 13, 13)] [hA G 0, .int x1, .int x2, hA G 135] m 1 m := by
  refine mtH_of (by decide +kernel) (Nat.le_of_ble_eq_true rfl) (fun X X1 C C1 K => ?_)
  have C : Cx G X 7 cL_value 5 RL (some .int) := C
  have C1 : Cx G X1 7 cL_value 5 RL (some .int) := C1
  show Rf vI G X 0 [(0, hA G 0), (1, .int x1), (2, .int x2), (3, hA G 135)] [] m _
  refine rf_aload_n C (n := 1) (q := 3) (x := 135) dL_value_0 rfl rfl rfl ?_
  refine rf_iconst C (n := 2) (v := 0) dL_value_1 rfl (by decide) ?_
  refine rf_aload_n C (n := 3) (q := 0) (x := 0) dL_value_2 rfl rfl rfl ?_
  refine rf_iload_n C (n := 4) (q := 1) (x := x1) dL_value_3 rfl rfl rfl ?_
  refine rf_iload_n C (n := 5) (q := 2) (x := x2) dL_value_4 rfl rfl rfl ?_
  refine rh_callX C K rfl (by decide) lc_13 hMt lwc_7 ly_0 rfl ⟨by decide, by decide⟩ rfl (Nat.le_of_ble_eq_true rfl) rfl dL_value_5 (fun q => ?_)
  refine rh_asq C1 (n := 15) [(4, .ref q), (0, hA G 0), (1, .int x1), (2, .int x2), (3, hA G 135)] dL_value_13 rfl (by decide) rfl ?_
  refine rf_iconst C1 (n := 16) (v := 1) dL_value_15 rfl (by decide) ?_
  exact rh_iret1 C1 K dL_value_16
theorem c_LvalueY (G : hG) (m m1 : hM) (x1 x2 r : Int32) {d : Nat} (hd : d ≤ 6) {E1 : Option (Int32 × hM)} (hMt : Mt vI G d yX10_value cX10_value 3 (some .int) [hA G 0, .int x1, .int x2] m E1) (hE1 : E1 = some (r, m1)) : MtH G 7 yL_value cL_value 5 (some .int) [(0, 10, 13, 13)] [hA G 0, .int x1, .int x2, hA G 135] m 0 (sL m1 135 0 r.toInt64) := by
  refine mtH_of (by decide +kernel) (Nat.le_of_ble_eq_true rfl) (fun X X1 C C1 K => ?_)
  have C : Cx G X 7 cL_value 5 RL (some .int) := C
  have C1 : Cx G X1 7 cL_value 5 RL (some .int) := C1
  show Rf vI G X 0 [(0, hA G 0), (1, .int x1), (2, .int x2), (3, hA G 135)] [] m _
  refine rf_aload_n C (n := 1) (q := 3) (x := 135) dL_value_0 rfl rfl rfl ?_
  refine rf_iconst C (n := 2) (v := 0) dL_value_1 rfl (by decide) ?_
  refine rf_aload_n C (n := 3) (q := 0) (x := 0) dL_value_2 rfl rfl rfl ?_
  refine rf_iload_n C (n := 4) (q := 1) (x := x1) dL_value_3 rfl rfl rfl ?_
  refine rf_iload_n C (n := 5) (q := 2) (x := x2) dL_value_4 rfl rfl rfl ?_
  refine rb_callVi C (n := 8) hMt hE1 lwc_7 ly_0 rfl ⟨by omega, by decide⟩ rfl (Nat.le_of_ble_eq_true rfl) rfl dL_value_5 rfl ?_
  refine rf_i2l C (n := 9) dL_value_8 rfl ?_
  refine rf_last C (n := 10) (k := 135) (N := 1) (j0 := 0) ly_135 (by decide) (by decide) dL_value_9 rfl ?_
  refine rf_goto C (n := 17) dL_value_10 (by decide) ?_
  refine rf_iconst C (n := 18) (v := 0) dL_value_17 rfl (by decide) ?_
  exact rh_iret C K dL_value_18
theorem lwc_15 : hCV RL 15 RX10 yX10_of cX10_of 3 (some .int) 2 := ⟨(tb_in (by decide +kernel) (by decide +kernel)), (tb_in (by decide +kernel) (by decide +kernel)), (tb_in (by decide +kernel) (by decide +kernel)), (tb_in (by decide +kernel) (by decide +kernel)), (tb_in (by decide +kernel) (by decide +kernel)), by decide +kernel⟩
theorem dL_of_0 : decode cL_of 0 = .ok (.aload_n 3, 1) := by decide +kernel
theorem dL_of_1 : decode cL_of 1 = .ok (.iconst 0, 1) := by decide +kernel
theorem dL_of_2 : decode cL_of 2 = .ok (.aload_n 0, 1) := by decide +kernel
theorem dL_of_3 : decode cL_of 3 = .ok (.iload_n 1, 1) := by decide +kernel
theorem dL_of_4 : decode cL_of 4 = .ok (.iload_n 2, 1) := by decide +kernel
theorem dL_of_5 : decode cL_of 5 = .ok (.invokevirtual 15, 3) := by decide +kernel
theorem dL_of_8 : decode cL_of 8 = .ok (.i2l, 1) := by decide +kernel
theorem dL_of_9 : decode cL_of 9 = .ok (.lastore, 1) := by decide +kernel
theorem dL_of_10 : decode cL_of 10 = .ok (.goto 7, 3) := by decide +kernel
theorem dL_of_13 : decode cL_of 13 = .ok (.astore 4, 2) := by decide +kernel
theorem dL_of_15 : decode cL_of 15 = .ok (.iconst 1, 1) := by decide +kernel
theorem dL_of_16 : decode cL_of 16 = .ok (.ireturn, 1) := by decide +kernel
theorem dL_of_17 : decode cL_of 17 = .ok (.iconst 0, 1) := by decide +kernel
theorem dL_of_18 : decode cL_of 18 = .ok (.ireturn, 1) := by decide +kernel
theorem c_LofN (G : hG) (m : hM) (x1 x2 : Int32) (hMt : MtX G 6 yX10_of cX10_of 3 (some .int) [hA G 0, .int x1, .int x2] m) : MtH G 7 yL_of cL_of 5 (some .int) [(0, 10, 13, 13)] [hA G 0, .int x1, .int x2, hA G 135] m 1 m := by
  refine mtH_of (by decide +kernel) (Nat.le_of_ble_eq_true rfl) (fun X X1 C C1 K => ?_)
  have C : Cx G X 7 cL_of 5 RL (some .int) := C
  have C1 : Cx G X1 7 cL_of 5 RL (some .int) := C1
  show Rf vI G X 0 [(0, hA G 0), (1, .int x1), (2, .int x2), (3, hA G 135)] [] m _
  refine rf_aload_n C (n := 1) (q := 3) (x := 135) dL_of_0 rfl rfl rfl ?_
  refine rf_iconst C (n := 2) (v := 0) dL_of_1 rfl (by decide) ?_
  refine rf_aload_n C (n := 3) (q := 0) (x := 0) dL_of_2 rfl rfl rfl ?_
  refine rf_iload_n C (n := 4) (q := 1) (x := x1) dL_of_3 rfl rfl rfl ?_
  refine rf_iload_n C (n := 5) (q := 2) (x := x2) dL_of_4 rfl rfl rfl ?_
  refine rh_callX C K rfl (by decide) lc_13 hMt lwc_15 ly_0 rfl ⟨by decide, by decide⟩ rfl (Nat.le_of_ble_eq_true rfl) rfl dL_of_5 (fun q => ?_)
  refine rh_asq C1 (n := 15) [(4, .ref q), (0, hA G 0), (1, .int x1), (2, .int x2), (3, hA G 135)] dL_of_13 rfl (by decide) rfl ?_
  refine rf_iconst C1 (n := 16) (v := 1) dL_of_15 rfl (by decide) ?_
  exact rh_iret1 C1 K dL_of_16
theorem c_LofY (G : hG) (m m1 : hM) (x1 x2 r : Int32) {d : Nat} (hd : d ≤ 6) {E1 : Option (Int32 × hM)} (hMt : Mt vI G d yX10_of cX10_of 3 (some .int) [hA G 0, .int x1, .int x2] m E1) (hE1 : E1 = some (r, m1)) : MtH G 7 yL_of cL_of 5 (some .int) [(0, 10, 13, 13)] [hA G 0, .int x1, .int x2, hA G 135] m 0 (sL m1 135 0 r.toInt64) := by
  refine mtH_of (by decide +kernel) (Nat.le_of_ble_eq_true rfl) (fun X X1 C C1 K => ?_)
  have C : Cx G X 7 cL_of 5 RL (some .int) := C
  have C1 : Cx G X1 7 cL_of 5 RL (some .int) := C1
  show Rf vI G X 0 [(0, hA G 0), (1, .int x1), (2, .int x2), (3, hA G 135)] [] m _
  refine rf_aload_n C (n := 1) (q := 3) (x := 135) dL_of_0 rfl rfl rfl ?_
  refine rf_iconst C (n := 2) (v := 0) dL_of_1 rfl (by decide) ?_
  refine rf_aload_n C (n := 3) (q := 0) (x := 0) dL_of_2 rfl rfl rfl ?_
  refine rf_iload_n C (n := 4) (q := 1) (x := x1) dL_of_3 rfl rfl rfl ?_
  refine rf_iload_n C (n := 5) (q := 2) (x := x2) dL_of_4 rfl rfl rfl ?_
  refine rb_callVi C (n := 8) hMt hE1 lwc_15 ly_0 rfl ⟨by omega, by decide⟩ rfl (Nat.le_of_ble_eq_true rfl) rfl dL_of_5 rfl ?_
  refine rf_i2l C (n := 9) dL_of_8 rfl ?_
  refine rf_last C (n := 10) (k := 135) (N := 1) (j0 := 0) ly_135 (by decide) (by decide) dL_of_9 rfl ?_
  refine rf_goto C (n := 17) dL_of_10 (by decide) ?_
  refine rf_iconst C (n := 18) (v := 0) dL_of_17 rfl (by decide) ?_
  exact rh_iret C K dL_of_18
theorem lwc_18 : hCV RL 18 RX10 yX10_row cX10_row 2 (some .long) 1 := ⟨(tb_in (by decide +kernel) (by decide +kernel)), (tb_in (by decide +kernel) (by decide +kernel)), (tb_in (by decide +kernel) (by decide +kernel)), (tb_in (by decide +kernel) (by decide +kernel)), (tb_in (by decide +kernel) (by decide +kernel)), by decide +kernel⟩
theorem dL_row_0 : decode cL_row 0 = .ok (.aload_n 2, 1) := by decide +kernel
theorem dL_row_1 : decode cL_row 1 = .ok (.iconst 0, 1) := by decide +kernel
theorem dL_row_2 : decode cL_row 2 = .ok (.aload_n 0, 1) := by decide +kernel
theorem dL_row_3 : decode cL_row 3 = .ok (.iload_n 1, 1) := by decide +kernel
theorem dL_row_4 : decode cL_row 4 = .ok (.invokevirtual 18, 3) := by decide +kernel
theorem dL_row_7 : decode cL_row 7 = .ok (.lastore, 1) := by decide +kernel
theorem dL_row_8 : decode cL_row 8 = .ok (.goto 6, 3) := by decide +kernel
theorem dL_row_11 : decode cL_row 11 = .ok (.astore_n 3, 1) := by decide +kernel
theorem dL_row_12 : decode cL_row 12 = .ok (.iconst 1, 1) := by decide +kernel
theorem dL_row_13 : decode cL_row 13 = .ok (.ireturn, 1) := by decide +kernel
theorem dL_row_14 : decode cL_row 14 = .ok (.iconst 0, 1) := by decide +kernel
theorem dL_row_15 : decode cL_row 15 = .ok (.ireturn, 1) := by decide +kernel
theorem c_LrowN (G : hG) (m : hM) (x1 : Int32) (hMt : MtX G 6 yX10_row cX10_row 2 (some .long) [hA G 0, .int x1] m) : MtH G 7 yL_row cL_row 4 (some .int) [(0, 8, 11, 13)] [hA G 0, .int x1, hA G 135] m 1 m := by
  refine mtH_of (by decide +kernel) (Nat.le_of_ble_eq_true rfl) (fun X X1 C C1 K => ?_)
  have C : Cx G X 7 cL_row 4 RL (some .int) := C
  have C1 : Cx G X1 7 cL_row 4 RL (some .int) := C1
  show Rf vI G X 0 [(0, hA G 0), (1, .int x1), (2, hA G 135)] [] m _
  refine rf_aload_n C (n := 1) (q := 2) (x := 135) dL_row_0 rfl rfl rfl ?_
  refine rf_iconst C (n := 2) (v := 0) dL_row_1 rfl (by decide) ?_
  refine rf_aload_n C (n := 3) (q := 0) (x := 0) dL_row_2 rfl rfl rfl ?_
  refine rf_iload_n C (n := 4) (q := 1) (x := x1) dL_row_3 rfl rfl rfl ?_
  refine rh_callX C K rfl (by decide) lc_13 hMt lwc_18 ly_0 rfl ⟨by decide, by decide⟩ rfl (Nat.le_of_ble_eq_true rfl) rfl dL_row_4 (fun q => ?_)
  refine rh_asq_n C1 (n := 12) [(3, .ref q), (0, hA G 0), (1, .int x1), (2, hA G 135)] dL_row_11 rfl rfl (by decide) rfl ?_
  refine rf_iconst C1 (n := 13) (v := 1) dL_row_12 rfl (by decide) ?_
  exact rh_iret1 C1 K dL_row_13
theorem c_LrowY (G : hG) (m m1 : hM) (x1 : Int32) (r : Int64) {d : Nat} (hd : d ≤ 6) {E1 : Option (Int64 × hM)} (hMt : Mt vJ G d yX10_row cX10_row 2 (some .long) [hA G 0, .int x1] m E1) (hE1 : E1 = some (r, m1)) : MtH G 7 yL_row cL_row 4 (some .int) [(0, 8, 11, 13)] [hA G 0, .int x1, hA G 135] m 0 (sL m1 135 0 r) := by
  refine mtH_of (by decide +kernel) (Nat.le_of_ble_eq_true rfl) (fun X X1 C C1 K => ?_)
  have C : Cx G X 7 cL_row 4 RL (some .int) := C
  have C1 : Cx G X1 7 cL_row 4 RL (some .int) := C1
  show Rf vI G X 0 [(0, hA G 0), (1, .int x1), (2, hA G 135)] [] m _
  refine rf_aload_n C (n := 1) (q := 2) (x := 135) dL_row_0 rfl rfl rfl ?_
  refine rf_iconst C (n := 2) (v := 0) dL_row_1 rfl (by decide) ?_
  refine rf_aload_n C (n := 3) (q := 0) (x := 0) dL_row_2 rfl rfl rfl ?_
  refine rf_iload_n C (n := 4) (q := 1) (x := x1) dL_row_3 rfl rfl rfl ?_
  refine rh_callVl C (n := 7) hMt hE1 lwc_18 ly_0 rfl ⟨by omega, by decide⟩ rfl (Nat.le_of_ble_eq_true rfl) rfl dL_row_4 rfl ?_
  refine rf_last C (n := 8) (k := 135) (N := 1) (j0 := 0) ly_135 (by decide) (by decide) dL_row_7 rfl ?_
  refine rf_goto C (n := 14) dL_row_8 (by decide) ?_
  refine rf_iconst C (n := 15) (v := 0) dL_row_14 rfl (by decide) ?_
  exact rh_iret C K dL_row_15
