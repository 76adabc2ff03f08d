/-! ===== constructors: fields, elements, calls, the end ===== -/
def hPK (own : String) (idx ci j : Nat) (ty : FieldType) (fin : Bool) : Prop := ∃ (Cn : String) (T : u_T) (N : Nat) (ty0 : Nat → FieldType), vwCl[ci]? = some (Cn, T, N) ∧ (∀ w ∈ u_ws Cn T N, w ∈ lw_tb) ∧ j < N ∧ Cond.fieldLink own idx (T j).1 (T j).2.1 (T j).2.2.1 ∈ lw_tb ∧ (T j).2.2.2 = fin ∧ (∀ k, k < N → parseFieldDescriptor (T k).2.2.1 = some (ty0 k)) ∧ (∀ a, a < N → ∀ b, b < N → a ≠ b → (T a).2.1 ≠ (T b).2.1) ∧ parseFieldDescriptor (T j).2.2.1 = some ty ∧ (T j).1 = own
section RK2
variable {G : hG} {X : hX} {n0 ca sa d : Nat} {cc : ByteArray} {nL : Nat} {own : String} {pc n : Nat} {lv : List (Nat × Value)} {st : List Value} {f : kM} {cs sl : Nat}
theorem rk_get (C : Ck G X n0 ca sa d cc nL own) {idx ci j k : Nat} {fs : List Value} {v : Value} (hf : hFl own idx ci j) (hk : k < n0 + cs) (he : f k = .inr (ci, fs)) (hv : fs[j]? = some v) (hd : decode cc pc = .ok (.getfield idx, 3)) (hn : pc + 3 = n) (kk : Rk G X n0 n lv (v :: st) f cs sl) : Rk G X n0 pc lv (hA G k :: st) f cs sl := by
  obtain ⟨p, e, R, s, mt, args, below, meth, c, ca', sa', Qp⟩ := X
  obtain ⟨hx, hb, hml, how, hts, hK, hs, hR⟩ := C
  subst hn
  intro ls H locs hl hh hS
  obtain ⟨Cn, T, N, hc, hin, hjN, hlk2⟩ := hf
  have hk2 := kW_get (G := G) (f := f) hk
  rw [he] at hk2
  exact va_get hx hb hts hin how hK.1.1 (kW_P hh) k hk2 hc j hjN (hts _ hlk2) (fun _ h9 => h9) hv hd (kk ls H locs hl hh hS)
theorem rk_putF (C : Ck G X n0 ca sa d cc nL own) {n1 ca1 sa1 : Nat} {f' : kM} (K : Ci G X n1 ca1 sa1 f') {idx ci j k : Nat} {fs : List Value} {ty : FieldType} {v : Value} (hf : hPK own idx ci j ty true) (hk : k < n0 + cs) (he : f k = .inr (ci, fs)) (hz : narrow ty v = v ∧ fits ty v = true) (hl1 : j < fs.length) (hd : decode cc pc = .ok (.putfield idx, 3)) (hn : pc + 3 = n) (kk : Rk G X n0 n lv st (kU f k (.inr (ci, fs.set j v))) cs sl) : Rk G X n0 pc lv (v :: hA G k :: st) f cs sl := by
  obtain ⟨p, e, R, s, mt, args, below, meth, c, ca', sa', Qp⟩ := X
  obtain ⟨hx, hb, hml, how, hts, hK, hs, hR⟩ := C
  obtain ⟨i1, i2, i3, i4⟩ := K
  subst hn
  intro ls H locs hl hh hS
  obtain ⟨Cn, T, N, ty0, hc, hin, hjN, hlk2, hfin, hty, hnm, hdd, hown2⟩ := hf
  have hk2 := kW_get (G := G) (f := f) hk
  rw [he] at hk2
  refine va_putF hx hb hts hin ty0 hty hnm how hK.1.1 (kW_P hh) (kW_D G _ f) hS k hk2 hc j hjN (hts _ hlk2) (fun _ h9 => h9) hfin i3 hown2 hdd hz.1 hz.2 hl1 hd (fun H1 locs1 hP1 hD1 hS1 => ?_)
  rw [kW_set hk] at hP1
  exact kk ls H1 locs1 hl (kP_of hP1) hS1
theorem rk_put (C : Ck G X n0 ca sa d cc nL own) {idx ci j k : Nat} {fs : List Value} {ty : FieldType} {v : Value} (hf : hPK own idx ci j ty false) (hk : k < n0 + cs) (he : f k = .inr (ci, fs)) (hz : narrow ty v = v ∧ fits ty v = true) (hl1 : j < fs.length) (hd : decode cc pc = .ok (.putfield idx, 3)) (hn : pc + 3 = n) (kk : Rk G X n0 n lv st (kU f k (.inr (ci, fs.set j v))) cs sl) : Rk G X n0 pc lv (v :: hA G k :: st) f cs sl := by
  obtain ⟨p, e, R, s, mt, args, below, meth, c, ca', sa', Qp⟩ := X
  obtain ⟨hx, hb, hml, how, hts, hK, hs, hR⟩ := C
  subst hn
  intro ls H locs hl hh hS
  obtain ⟨Cn, T, N, ty0, hc, hin, hjN, hlk2, hfin, hty, hnm, hdd, hown2⟩ := hf
  have hk2 := kW_get (G := G) (f := f) hk
  rw [he] at hk2
  refine va_put hx hb hts hin ty0 hty hnm how hK.1.1 (kW_P hh) (kW_D G _ f) hS k hk2 hc j hjN (hts _ hlk2) (fun _ h9 => h9) hfin hdd hz.1 hz.2 hl1 hd (fun H1 locs1 hP1 hD1 hS1 => ?_)
  rw [kW_set hk] at hP1
  exact kk ls H1 locs1 hl (kP_of hP1) hS1
theorem rk_iast (C : Ck G X n0 ca sa d cc nL own) {k N : Nat} {g : Nat → Int32} {i x : Int32} (hk : k < n0 + cs) (he : f k = .inl (G.2.2.1 0, N, .inl g)) (hi : hIn i N) (hd : decode cc pc = .ok (.iastore, 1)) (hn : pc + 1 = n) (kk : Rk G X n0 n lv st (kU f k (.inl (G.2.2.1 0, N, .inl (upd g i.toNatClampNeg x)))) cs sl) : Rk G X n0 pc lv (.int x :: .int i :: hA G k :: st) f cs sl := by
  obtain ⟨p, e, R, s, mt, args, below, meth, c, ca', sa', Qp⟩ := X
  obtain ⟨hx, hb, hml, how, hts, hK, hs, hR⟩ := C
  subst hn
  intro ls H locs hl hh hS
  have hk2 := kW_get (G := G) (f := f) hk
  rw [he] at hk2
  refine va_iast hx hb hK.1.1 (kW_P hh) (kW_D G _ f) hS k 0 hk2 rfl (hIn_vp hi) hd (fun H1 locs1 hP1 hD1 hS1 => ?_)
  rw [kW_set hk] at hP1
  exact kk ls H1 locs1 hl (kP_of hP1) hS1
theorem rk_aast (C : Ck G X n0 ca sa d cc nL own) {k q ci tk N : Nat} {g : Nat → Option Nat} {vs : List Value} {r : vw_C} {i : Int32} (hk : k < n0 + cs) (hq : q < n0 + cs) (he : f k = .inl (G.2.2.1 tk, N, .inr (.inr (.inr (.inr g))))) (hT : (hT G.2.2.1)[tk]? = some (G.2.2.1 tk, .object r.1)) (hv : f q = .inr (ci, vs)) (hc : vwCl[ci]? = some r) (hi : hIn i N) (hd : decode cc pc = .ok (.aastore, 1)) (hn : pc + 1 = n) (kk : Rk G X n0 n lv st (kU f k (.inl (G.2.2.1 tk, N, .inr (.inr (.inr (.inr (va_up g i.toNatClampNeg (some (G.2.2.2.1 + q))))))))) cs sl) : Rk G X n0 pc lv (hA G q :: .int i :: hA G k :: st) f cs sl := by
  obtain ⟨p, e, R, s, mt, args, below, meth, c, ca', sa', Qp⟩ := X
  obtain ⟨hx, hb, hml, how, hts, hK, hs, hR⟩ := C
  subst hn
  intro ls H locs hl hh hS
  have hk2 := kW_get (G := G) (f := f) hk
  rw [he] at hk2
  have hq2 := kW_get (G := G) (f := f) hq
  rw [hv] at hq2
  refine va_astq hx hb hK.1.1 (kW_P hh) (kW_D G _ f) hS k tk q ci hk2 hT hq2 hc (hIn_vp hi) hd (fun H1 locs1 hP1 hD1 hS1 => ?_)
  rw [kW_set hk] at hP1
  exact kk ls H1 locs1 hl (kP_of hP1) hS1
theorem rk_alen (C : Ck G X n0 ca sa d cc nL own) {k tk : Nat} {x : vp_A} {ty : FieldType} {v : Int32} (hk : k < n0 + cs) (he : f k = .inl (G.2.2.1 tk, x)) (hT : (hT G.2.2.1)[tk]? = some (G.2.2.1 tk, ty)) (hv : Int32.ofNat x.1 = v) (hd : decode cc pc = .ok (.arraylength, 1)) (hn : pc + 1 = n) (kk : Rk G X n0 n lv (.int v :: st) f cs sl) : Rk G X n0 pc lv (hA G k :: st) f cs sl := by
  obtain ⟨p, e, R, s, mt, args, below, meth, c, ca', sa', Qp⟩ := X
  obtain ⟨hx, hb, hml, how, hts, hK, hs, hR⟩ := C
  subst hn
  intro ls H locs hl hh hS
  have hk2 := kW_get (G := G) (f := f) hk
  rw [he] at hk2
  exact va_alen hx hb hK.1.1 (kW_P hh) k tk hk2 hT hv hd (kk ls H locs hl hh hS)
theorem rk_ret (C : Ck G X n0 ca sa d cc nL own) {n1 ca1 sa1 : Nat} (K : Ci G X n1 ca1 sa1 f) (h1 : n1 = n0 + cs) (h2 : ca1 = cs) (h3 : sa1 = sl) (hd : decode cc pc = .ok (.return_, 1)) : Rk G X n0 pc lv [] f cs sl := by
  obtain ⟨p, e, R, s, mt, args, below, meth, c, ca', sa', Qp⟩ := X
  obtain ⟨hx, hb, hml, how, hts, hK, hs, hR⟩ := C
  obtain ⟨i1, i2, i3, i4⟩ := K
  subst h1; subst h2; subst h3; subst i4
  intro ls H locs hl hh hS
  exact W.vret hx hb i1 (fun t ht hW => ⟨rfl, by rw [ht]; exact hh, hS.F ht⟩) hS.2.2 hd i2
theorem rk_after {p : Program} {e : Env} {R : Room} {s : State} {mt : MethodId} {args : Array Value} {below : List Frame} {meth : Method} {c : Code} {ls : Array Slot} {H : Heap} {locs : List Loc} {st0 : List Value} {av : Array Value} {mc ms n1 : Nat} {f1 : kM} {Q : State → Prop} {T : State}
    (hS : va_S (fun q => G.2.2.2.1 ≤ q) s.heap H locs)
    (hrun : va_Run p G.1 e R s mt args below meth c H locs cs sl mc ms (F0 mt pc ls st0) st (kQ G n1 f1 av) (fun q => G.2.2.2.1 ≤ q))
    (kk : ∀ (H1 : Heap) (locs1 : List Loc), kP G n1 f1 H1 → va_S (fun q => G.2.2.2.1 ≤ q) s.heap H1 locs1 → W p G.1 e R s mt args below meth c H1 locs1 (cs + mc) (sl + ms) Q (F0 mt (pc + 3) ls st)) :
    W p G.1 e R s mt args below meth c H locs cs sl Q (F0 mt pc ls st0) := by
  intro T hT Xs
  obtain ⟨v, st₀, t, T', L, h0, X', hL, e1, e2, ⟨ho, hh', hF⟩, gs⟩ := hrun T hT Xs
  cases ho
  obtain ⟨hz, hk⟩ := hF
  rw [h0] at hz hk
  have hS' : va_S (fun q => G.2.2.2.1 ≤ q) s.heap T'.heap (locs ++ L) := by
    refine ⟨Nat.le_trans hS.1 (by rw [e1]; exact hz), fun q h1 h2 => ?_, fun q hq => ?_⟩
    · rw [e1, hk q (Nat.lt_of_lt_of_le h1 hS.1) h2]
      exact hS.2.1 q h1 h2
    · rcases List.mem_append.mp hq with h | h
      · exact hS.2.2 q h
      · exact hL q h
  obtain ⟨t2, a1, b1⟩ := kk T'.heap (locs ++ L) (by rw [e1]; exact hh') hS' T' rfl X'
  exact ⟨t2, gs t2 a1, b1⟩
theorem kBlind {n : Nat} {f : kM} {av : List Value} : FrameBlind (va_Pc av (fun U => U.heap.size = G.2.2.2.1 + n ∧ kP G n f U.heap ∧ kK G U)) :=
  fun a U g mk q => ⟨q.1, q.2.1, q.2.2.1, hKK.same (s := U) (U := U.calling g mk a) (H := U.heap) rfl q.2.2.2.1, va_AO.moved (u := U) (U := U.calling g mk a) (Vm.Alike.refl U.vm) q.2.2.2.2.1, va_AO.moved (u := U) (U := U.calling g mk a) (Vm.Alike.refl U.vm) q.2.2.2.2.2⟩
def hCI (own : String) (idx : Nat) (y : MethodName) (bytes : ByteArray) (maxL nA : Nat) : Prop := Cond.methodLink own idx y ∈ lw_tb ∧ Cond.instanceMethod y ∈ lw_tb ∧ Cond.initialized y.cls ∈ lw_tb ∧ Cond.code y bytes maxL none ∈ lw_tb ∧ y.name = "<init>" ∧ (y.cls ≠ "java/lang/invoke/MethodHandle" ∧ y.cls ≠ "java/lang/invoke/VarHandle" ∧ (parseMethodDescriptor y.desc).map (fun d => d.parameters.length) = some nA)
def hCJ (own : String) (idx : Nat) (host : String) (y : MethodName) (bytes : ByteArray) (maxL nA : Nat) : Prop := Cond.methodLinkNest own idx y host ∈ hNs ∧ Cond.instanceMethod y ∈ lw_tb ∧ Cond.initialized y.cls ∈ lw_tb ∧ Cond.code y bytes maxL none ∈ lw_tb ∧ y.name = "<init>" ∧ (y.cls ≠ "java/lang/invoke/MethodHandle" ∧ y.cls ≠ "java/lang/invoke/VarHandle" ∧ (parseMethodDescriptor y.desc).map (fun d => d.parameters.length) = some nA)
theorem rk_callI (C : Ck G X n0 ca sa d cc nL own) {idx k d' mc ms maxL nA : Nat} {y : MethodName} {bytes : ByteArray} {As st0 : List Value} {f1 : kM} (hMk : Mk G d' mc ms y bytes maxL (hA G k :: As) (n0 + cs) f f1) (hw : hCI own idx y bytes maxL nA) (hdd : d' + 1 ≤ d ∧ maxL ≤ 41) (hAs : As.length = nA) (hsum : (st.map fun v => v.category).sum ≤ 8) (hst : st0 = As.reverse ++ hA G k :: st) (hcs : cs + mc ≤ ca) (hsl : sl + ms ≤ sa) (hd : decode cc pc = .ok (.invokespecial idx, 3)) (hn : pc + 3 = n) (kk : Rk G X n0 n lv st f1 (cs + mc) (sl + ms)) : Rk G X n0 pc lv st0 f cs sl := by
  obtain ⟨p, e, R, s, mt, args, below, meth, c, ca', sa', Qp⟩ := X
  obtain ⟨hx, hb, hml, how, hts, hK, hs, hR⟩ := C
  subst hn
  subst hst
  obtain ⟨hw1, hw2, hw3, hw4, hw5, hw6⟩ := hw
  intro ls H locs hl hh hS T0 hT0 Xs0
  have hz := k_sz Xs0 hT0 hs hh hS
  refine rk_after (T := T0) (f1 := f1) (mc := mc) (ms := ms) hS (va_runI (As := As) (rest := st) ⟨hx, hb, hml, how, hts⟩ hMk (cwI nA hts (tb_GoodC hw4) rfl rfl rfl (hts _ hw3) (hts _ hw1) (hts _ hw2) hw5 hw6 ⟨Nat.le_trans hdd.1 hR.1, by have h9 := hR.2.1; show _ + 60 * d' ≤ R.locals; omega⟩) ⟨kBlind, fun U hU hW => ⟨rfl, by rw [hU]; exact hz, by rw [hU]; exact hh, hK.pre hW⟩⟩ rfl hAs (hl.1.trans hml) rfl (lv_room hsum) hd ⟨Nat.le_trans hcs hR.2.2.1, Nat.le_trans hsl hR.2.2.2⟩) (fun H1 locs1 hh1 hS1 => ?_) T0 hT0 Xs0
  rw [Nat.add_assoc] at hh1
  exact kk ls H1 locs1 hl hh1 hS1
theorem rk_callJ (C : Ck G X n0 ca sa d cc nL own) {idx k d' mc ms maxL nA : Nat} {host : String} {y : MethodName} {bytes : ByteArray} {As st0 : List Value} {f1 : kM} (hMk : Mk G d' mc ms y bytes maxL (hA G k :: As) (n0 + cs) f f1) (hw : hCJ own idx host y bytes maxL nA) (hdd : d' + 1 ≤ d ∧ maxL ≤ 41) (hAs : As.length = nA) (hsum : (st.map fun v => v.category).sum ≤ 8) (hst : st0 = As.reverse ++ hA G k :: st) (hcs : cs + mc ≤ ca) (hsl : sl + ms ≤ sa) (hd : decode cc pc = .ok (.invokespecial idx, 3)) (hn : pc + 3 = n) (kk : Rk G X n0 n lv st f1 (cs + mc) (sl + ms)) : Rk G X n0 pc lv st0 f cs sl := by
  obtain ⟨p, e, R, s, mt, args, below, meth, c, ca', sa', Qp⟩ := X
  obtain ⟨hx, hb, hml, how, hts, hK, hs, hR⟩ := C
  subst hn
  subst hst
  obtain ⟨hw1, hw2, hw3, hw4, hw5, hw6⟩ := hw
  intro ls H locs hl hh hS T0 hT0 Xs0
  have hz := k_sz Xs0 hT0 hs hh hS
  refine rk_after (T := T0) (f1 := f1) (mc := mc) (ms := ms) hS (va_runIN (As := As) (rest := st) ⟨hx, hb, hml, how, hts⟩ hMk ⟨va_cnB nA hts (tb_GoodC hw4) rfl rfl rfl (hK.1.2 _ hw1) (hts _ hw3) hw6 ⟨Nat.le_trans hdd.1 hR.1, by have h9 := hR.2.1; show _ + 60 * d' ≤ R.locals; omega⟩, hw5, hts _ hw2⟩ ⟨kBlind, fun U hU hW => ⟨rfl, by rw [hU]; exact hz, by rw [hU]; exact hh, hK.pre hW⟩⟩ rfl hAs (hl.1.trans hml) rfl (lv_room hsum) hd ⟨Nat.le_trans hcs hR.2.2.1, Nat.le_trans hsl hR.2.2.2⟩) (fun H1 locs1 hh1 hS1 => ?_) T0 hT0 Xs0
  rw [Nat.add_assoc] at hh1
  exact kk ls H1 locs1 hl hh1 hS1
theorem mk_of {y : MethodName} {maxL a b : Nat} {av : List Value} {n : Nat} {f f' : kM} (hy : plainFor y = true) (hyn : y.name = "<init>") (hlen : (lg_sl av).length ≤ maxL) (h : ∀ X : hX, Ck G X n a b d cc maxL y.cls → Ci G X (n + a) a b f' → Rk G X n 0 (lv_args 0 av) [] f 0 0) : Mk G d a b y cc maxL av n f f' := by
  unfold Mk
  refine MetFree.of_bodySF (code := cc) (maxLocals := maxL) (ret := none) hy ?_ ?_
  · intro args s mt h hn
    obtain ⟨meth, c, h1, h2, h3, h4, h5, h6, -, -⟩ := Cond.code_spec hn (atoms_spec (ws := Cond.code y cc maxL none :: lw_tb) h _ List.mem_cons_self)
    exact ⟨meth, c, h1, h2, h3, h4, h5, h6⟩
  · intro p e s mt args below meth c s₁ B hml hv _
    have hh0 : s₁.heap = s.heap := by rw [B.state]; rfl
    obtain ⟨rfl, hsz, hh, hK⟩ := hv
    have hts0 := atoms_spec (ws := Cond.code y cc maxL none :: lw_tb) B.pre
    have hl := lv_entry av (n := maxL) hlen
    have w := h (p, e, rmK d a b, s, mt, av.toArray, below, meth, c, a, b, fun _ _ => MQ below (kQ G (n + a) f') av.toArray s a b (fun q => G.2.2.2.1 ≤ q)) ⟨B.exec, B.bytes, hml, findClass_of_methodNamed B.named, fun w hw => hts0 w (List.mem_cons_of_mem _ hw), hK, hsz, ⟨Nat.le_refl _, Nat.le_refl _, Nat.le_refl _, Nat.le_refl _⟩⟩ ⟨B.returns, B.notSynchronized, (name_of_methodNamed B.named B.method).1.trans hyn, rfl⟩ _ _ _ (by rw [hml]; exact hl) hh va_S.rf
    have w2 : W p G.1 e (rmK d a b) s mt av.toArray below meth c s.heap [] 0 0 (MQ below (kQ G (n + a) f') av.toArray s a b (fun q => G.2.2.2.1 ≤ q)) (entryFrame mt av.toArray maxL) := by rw [lg_entry_eq]; exact w
    obtain ⟨t, a1, o, b1, b2, b3⟩ := w2 s₁ hh0 (Stand.of_body B)
    exact ⟨t, o, a1, b1, b2, ⟨b3.1, b3.2⟩⟩
end RK2
