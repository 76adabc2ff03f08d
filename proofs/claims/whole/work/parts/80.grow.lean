/-! ===== constructors: a world that grows, cell by cell; the judgement Rk ===== -/
abbrev kM : Type := Nat → va_E
def kU (f : kM) (k : Nat) (e : va_E) : kM := fun j => if j = k then e else f j
def kP (G : hG) (n : Nat) (f : kM) (H : Heap) : Prop := ∀ k, k < n → va_at G.2.1 vwCl (G.2.2.2.1 + k, f k) H
def kW (G : hG) (n : Nat) (f : kM) : va_W := (List.range n).map (fun k => (G.2.2.2.1 + k, f k))
def kK (G : hG) (U : State) : Prop := hKK G U U.heap ∧ va_AO RX2 U ∧ va_AO RX7 U
def rmK (d a b : Nat) : Room := { frames := d, cells := a, slots := b, locals := 60 * d }
def mZ : hM := (fun _ _ => 0, fun _ _ => 0, fun _ _ => 0)
def kQ (G : hG) (n : Nat) (f : kM) : Array Value → State → Outcome → State → Prop := fun _ st o t => o = .returned none ∧ kP G n f t.heap ∧ va_F (fun q => G.2.2.2.1 ≤ q) st t
theorem kW_get {G : hG} {n k : Nat} {f : kM} (h : k < n) : (kW G n f)[k]? = some (G.2.2.2.1 + k, f k) := by
  unfold kW
  rw [List.getElem?_map, List.getElem?_range h]; rfl
theorem kW_out {G : hG} {n k : Nat} {f : kM} {q : Nat × va_E} (h : (kW G n f)[k]? = some q) : k < n ∧ q = (G.2.2.2.1 + k, f k) := by
  have hl := (List.getElem?_eq_some_iff.mp h).1
  have : k < n := by unfold kW at hl; rw [List.length_map, List.length_range] at hl; exact hl
  rw [kW_get this] at h
  cases h
  exact ⟨this, rfl⟩
theorem kW_P {G : hG} {n : Nat} {f : kM} {H : Heap} (h : kP G n f H) : va_P G.2.1 vwCl (kW G n f) H := fun k q hq => by
  obtain ⟨h1, rfl⟩ := kW_out hq
  exact h k h1
theorem kP_of {G : hG} {n : Nat} {f : kM} {H : Heap} (h : va_P G.2.1 vwCl (kW G n f) H) : kP G n f H := fun k hk => h k _ (kW_get hk)
theorem kW_D (G : hG) (n : Nat) (f : kM) : va_D (fun q => G.2.2.2.1 ≤ q) (kW G n f) := by
  refine ⟨fun i j p q hi hj h => ?_, fun k q h => ?_⟩
  · obtain ⟨-, rfl⟩ := kW_out hi
    obtain ⟨-, rfl⟩ := kW_out hj
    have h : G.2.2.2.1 + i = G.2.2.2.1 + j := h
    omega
  · obtain ⟨-, rfl⟩ := kW_out h
    exact Nat.le_add_right _ _
theorem kW_set {G : hG} {n k : Nat} {f : kM} {e : va_E} (h : k < n) : (kW G n f).set k (G.2.2.2.1 + k, e) = kW G n (kU f k e) := by
  apply List.ext_getElem?
  intro i
  have hl : k < (kW G n f).length := by unfold kW; rw [List.length_map, List.length_range]; exact h
  by_cases hi : i = k
  · subst hi
    rw [List.getElem?_set_self hl, kW_get h]
    show _ = some (_, if i = i then e else f i)
    rw [if_pos rfl]
  · rw [List.getElem?_set_ne (Ne.symm hi)]
    by_cases hn : i < n
    · rw [kW_get hn, kW_get hn]
      show _ = some (_, if i = k then e else f i)
      rw [if_neg hi]
    · have e1 : ∀ g : kM, (kW G n g)[i]? = none := fun g => List.getElem?_eq_none (by unfold kW; rw [List.length_map, List.length_range]; omega)
      rw [e1, e1]
theorem kP_push {G : hG} {n : Nat} {f : kM} {e : va_E} {H H1 : Heap} (h : kP G n f H) (o1 : ∀ q, q < H.size → H1[q]? = H[q]?) (e1 : va_at G.2.1 vwCl (G.2.2.2.1 + n, e) H1) : kP G (n + 1) (kU f n e) H1 := by
  intro k hk
  show va_at _ _ (_, if k = n then e else f k) H1
  by_cases hn : k = n
  · subst hn
    rw [if_pos rfl]; exact e1
  · rw [if_neg hn]
    have hx := h k (by omega)
    exact hx.kept (o1 _ hx.lt)
theorem kK.pre {G : hG} {s U : State} (hK : kK G s) (hW : s.WarmedH U.vm) : kK G U := ⟨hK.1.warm hW, va_AO.moved hW.alike hK.2.1, va_AO.moved hW.alike hK.2.2⟩
def Rk (G : hG) (X : hX) (n0 : Nat) (pc : Nat) (lv : List (Nat × Value)) (st : List Value) (f : kM) (cs sl : Nat) : Prop :=
  match X with
  | (p, e, R, s, mt, args, below, meth, c, ca, sa, Qp) => ∀ (ls : Array Slot) (H : Heap) (locs : List Loc), lv_has ls c.maxLocals lv → kP G (n0 + cs) f H → va_S (fun q => G.2.2.2.1 ≤ q) s.heap H locs →
    W p G.1 e R s mt args below meth c H locs cs sl (Qp none mZ) (F0 mt pc ls st)
def Ck (G : hG) (X : hX) (n0 ca sa d : Nat) (cc : ByteArray) (nL : Nat) (own : String) : Prop :=
  match X with
  | (p, e, R, s, mt, args, below, meth, c, ca', sa', Qp) => p.tables.exec = Jvm.exec ∧ c.code = cc ∧ c.maxLocals = nL ∧ s.vm.findClass own = some mt.cls ∧ (∀ w ∈ lw_tb, w.before args s = true) ∧ kK G s ∧ s.heap.size = G.2.2.2.1 + n0 ∧ (d ≤ R.frames ∧ 60 * d ≤ R.locals ∧ ca ≤ R.cells ∧ sa ≤ R.slots)
def Ci (G : hG) (X : hX) (n1 ca sa : Nat) (f' : kM) : Prop :=
  match X with
  | (p, e, R, s, mt, args, below, meth, c, ca', sa', Qp) => meth.sig.returnType = none ∧ meth.locks = false ∧ meth.name = "<init>" ∧ Qp = fun _ _ => MQ below (kQ G n1 f') args s ca sa (fun q => G.2.2.2.1 ≤ q)
def Mk (G : hG) (d a b : Nat) (y : MethodName) (bytes : ByteArray) (maxL : Nat) (av : List Value) (n : Nat) (f f' : kM) : Prop :=
  Met G.1 y (Cond.code y bytes maxL none :: lw_tb) (rmK d a b) (va_Pc av (fun U => U.heap.size = G.2.2.2.1 + n ∧ kP G n f U.heap ∧ kK G U)) (kQ G (n + a) f') a b (fun q => G.2.2.2.1 ≤ q)
theorem k_sz {G : hG} {p : Program} {e : Env} {R : Room} {s : State} {mt : MethodId} {args : Array Value} {below : List Frame} {meth : Method} {c : Code} {T : State} {locs : List Loc} {cs sl n0 : Nat} {f : kM} {H : Heap} (Xs : Stand p G.1 e R s mt args below meth c T locs cs sl) (hT : T.heap = H) (hs : s.heap.size = G.2.2.2.1 + n0) (h : kP G (n0 + cs) f H) (hS : va_S (fun q => G.2.2.2.1 ≤ q) s.heap H locs) : H.size = G.2.2.2.1 + (n0 + cs) := by
  have h1 := Xs.heapSize
  rw [hT, hs] at h1
  have h2 := hS.1
  cases cs with
  | zero => omega
  | succ cs =>
    have h3 : G.2.2.2.1 + (n0 + cs) < H.size := (h (n0 + cs) (by omega)).lt
    omega
section RK
variable {G : hG} {X : hX} {n0 ca sa d : Nat} {cc : ByteArray} {nL : Nat} {own : String} {pc n : Nat} {lv : List (Nat × Value)} {st : List Value} {f : kM} {cs sl : Nat}

theorem rk_iadd (C : Ck G X n0 ca sa d cc nL own) {x y : Int32} (hd : decode cc pc = .ok (.iadd, 1)) (hn : pc + 1 = n) (k : Rk G X n0 n lv (.int (x + y) :: st) f cs sl) : Rk G X n0 pc lv (.int y :: .int x :: st) f cs sl := by
  obtain ⟨p, e, R, s, mt, args, below, meth, c, ca', sa', Qp⟩ := X
  obtain ⟨hx, hb, hml, how, hts, hK, hs, hR⟩ := C
  subst hn
  intro ls H locs hl hh hS
  exact lv_iadd hx hb hd (k ls H locs hl hh hS)
theorem rk_imul (C : Ck G X n0 ca sa d cc nL own) {x y : Int32} (hd : decode cc pc = .ok (.imul, 1)) (hn : pc + 1 = n) (k : Rk G X n0 n lv (.int (x * y) :: st) f cs sl) : Rk G X n0 pc lv (.int y :: .int x :: st) f cs sl := by
  obtain ⟨p, e, R, s, mt, args, below, meth, c, ca', sa', Qp⟩ := X
  obtain ⟨hx, hb, hml, how, hts, hK, hs, hR⟩ := C
  subst hn
  intro ls H locs hl hh hS
  exact lv_imul hx hb hd (k ls H locs hl hh hS)
theorem rk_iconst (C : Ck G X n0 ca sa d cc nL own) {z : Int} {v : Int32} (hd : decode cc pc = .ok (.iconst z, 1)) (hn : pc + 1 = n) (hv : Int32.ofInt z = v) (k : Rk G X n0 n lv (.int v :: st) f cs sl) : Rk G X n0 pc lv st f cs sl := by
  obtain ⟨p, e, R, s, mt, args, below, meth, c, ca', sa', Qp⟩ := X
  obtain ⟨hx, hb, hml, how, hts, hK, hs, hR⟩ := C
  subst hn
  intro ls H locs hl hh hS
  exact lv_iconst hx hb hd hv (k ls H locs hl hh hS)
theorem rk_bipush (C : Ck G X n0 ca sa d cc nL own) {z : Int} {v : Int32} (hd : decode cc pc = .ok (.bipush z, 2)) (hn : pc + 2 = n) (hv : (Int8.ofInt z).toInt32 = v) (k : Rk G X n0 n lv (.int v :: st) f cs sl) : Rk G X n0 pc lv st f cs sl := by
  obtain ⟨p, e, R, s, mt, args, below, meth, c, ca', sa', Qp⟩ := X
  obtain ⟨hx, hb, hml, how, hts, hK, hs, hR⟩ := C
  subst hn
  intro ls H locs hl hh hS
  exact lv_bipush hx hb hd hv (k ls H locs hl hh hS)
theorem rk_sipush (C : Ck G X n0 ca sa d cc nL own) {z : Int} {v : Int32} (hd : decode cc pc = .ok (.sipush z, 3)) (hn : pc + 3 = n) (hv : (Int16.ofInt z).toInt32 = v) (k : Rk G X n0 n lv (.int v :: st) f cs sl) : Rk G X n0 pc lv st f cs sl := by
  obtain ⟨p, e, R, s, mt, args, below, meth, c, ca', sa', Qp⟩ := X
  obtain ⟨hx, hb, hml, how, hts, hK, hs, hR⟩ := C
  subst hn
  intro ls H locs hl hh hS
  exact lv_sipush hx hb hd hv (k ls H locs hl hh hS)
theorem rk_dup (C : Ck G X n0 ca sa d cc nL own) {v : Value} (hd : decode cc pc = .ok (.dup, 1)) (hn : pc + 1 = n) (hc : v.category = 1) (k : Rk G X n0 n lv (v :: v :: st) f cs sl) : Rk G X n0 pc lv (v :: st) f cs sl := by
  obtain ⟨p, e, R, s, mt, args, below, meth, c, ca', sa', Qp⟩ := X
  obtain ⟨hx, hb, hml, how, hts, hK, hs, hR⟩ := C
  subst hn
  intro ls H locs hl hh hS
  exact lv_dup hx hb hd hc (k ls H locs hl hh hS)
theorem rk_iload_n (C : Ck G X n0 ca sa d cc nL own) {z : Fin 4} {i q : Nat} {x : Int32} (hd : decode cc pc = .ok (.iload_n z, 1)) (hn : pc + 1 = n) (hi : (z : Nat) = i) (hq : lv[q]? = some (i, .int x)) (k : Rk G X n0 n lv (.int x :: st) f cs sl) : Rk G X n0 pc lv st f cs sl := by
  obtain ⟨p, e, R, s, mt, args, below, meth, c, ca', sa', Qp⟩ := X
  obtain ⟨hx, hb, hml, how, hts, hK, hs, hR⟩ := C
  subst hn
  intro ls H locs hl hh hS
  exact lv_iload_n hx hb hd hi (lv_at hl q hq) (k ls H locs hl hh hS)
theorem rk_aload_n (C : Ck G X n0 ca sa d cc nL own) {z : Fin 4} {i q : Nat} {x : Nat} (hd : decode cc pc = .ok (.aload_n z, 1)) (hn : pc + 1 = n) (hi : (z : Nat) = i) (hq : lv[q]? = some (i, hA G x)) (k : Rk G X n0 n lv (hA G x :: st) f cs sl) : Rk G X n0 pc lv st f cs sl := by
  obtain ⟨p, e, R, s, mt, args, below, meth, c, ca', sa', Qp⟩ := X
  obtain ⟨hx, hb, hml, how, hts, hK, hs, hR⟩ := C
  subst hn
  intro ls H locs hl hh hS
  exact lv_aload_n hx hb hd hi (lv_at hl q hq) (k ls H locs hl hh hS)
theorem rk_istore_n (C : Ck G X n0 ca sa d cc nL own) {i : Nat} {z : Fin 4} {x : Int32} (lv' : List (Nat × Value)) (hd : decode cc pc = .ok (.istore_n z, 1)) (hn : pc + 1 = n) (hi : (z : Nat) = i) (hi2 : i < nL) (hlv : (i, Value.int x) :: lv.filter (fun q => !(q.1 == i) && !(q.1 + 1 == i && q.2.category == 2)) = lv') (k : Rk G X n0 n lv' st f cs sl) : Rk G X n0 pc lv (Value.int x :: st) f cs sl := by
  obtain ⟨p, e, R, s, mt, args, below, meth, c, ca', sa', Qp⟩ := X
  obtain ⟨hx, hb, hml, how, hts, hK, hs, hR⟩ := C
  subst hn
  intro ls H locs hl hh hS
  exact lv_istore_n hx hb hd hi hl (by rw [hml]; exact hi2) hlv (fun ls' hl' => k ls' H locs hl' hh hS)
theorem rk_astore_n (C : Ck G X n0 ca sa d cc nL own) {i : Nat} {z : Fin 4} {x : Nat} (lv' : List (Nat × Value)) (hd : decode cc pc = .ok (.astore_n z, 1)) (hn : pc + 1 = n) (hi : (z : Nat) = i) (hi2 : i < nL) (hlv : (i, hA G x) :: lv.filter (fun q => !(q.1 == i) && !(q.1 + 1 == i && q.2.category == 2)) = lv') (k : Rk G X n0 n lv' st f cs sl) : Rk G X n0 pc lv (hA G x :: st) f cs sl := by
  obtain ⟨p, e, R, s, mt, args, below, meth, c, ca', sa', Qp⟩ := X
  obtain ⟨hx, hb, hml, how, hts, hK, hs, hR⟩ := C
  subst hn
  intro ls H locs hl hh hS
  exact lv_astore_n hx hb hd hi hl (by rw [hml]; exact hi2) hlv (fun ls' hl' => k ls' H locs hl' hh hS)
theorem rk_iinc (C : Ck G X n0 ca sa d cc nL own) {i q : Nat} {z : Int} {x v : Int32} (lv' : List (Nat × Value)) (hd : decode cc pc = .ok (.iinc i z, 3)) (hn : pc + 3 = n) (hq : lv[q]? = some (i, .int x)) (hv : x + Int32.ofInt z = v) (hi2 : i < nL) (hlv : (i, Value.int v) :: lv.filter (fun q => !(q.1 == i) && !(q.1 + 1 == i && q.2.category == 2)) = lv') (k : Rk G X n0 n lv' st f cs sl) : Rk G X n0 pc lv st f cs sl := by
  obtain ⟨p, e, R, s, mt, args, below, meth, c, ca', sa', Qp⟩ := X
  obtain ⟨hx, hb, hml, how, hts, hK, hs, hR⟩ := C
  subst hn
  intro ls H locs hl hh hS
  exact lv_iinc hx hb hd hl hq hv (by rw [hml]; exact hi2) hlv (fun ls' hl' => k ls' H locs hl' hh hS)
theorem rk_goto (C : Ck G X n0 ca sa d cc nL own) {off : Int} (hd : decode cc pc = .ok (.goto off, 3)) (ht : (pc : Int) + off = (n : Int)) (k : Rk G X n0 n lv st f cs sl) : Rk G X n0 pc lv st f cs sl := by
  obtain ⟨p, e, R, s, mt, args, below, meth, c, ca', sa', Qp⟩ := X
  obtain ⟨hx, hb, hml, how, hts, hK, hs, hR⟩ := C
  intro ls H locs hl hh hS
  exact lv_goto hx hb hd ht (k ls H locs hl hh hS)
theorem rk_ge_t (C : Ck G X n0 ca sa d cc nL own) {x y : Int32} {off : Int} (hd : decode cc pc = .ok (.if_icmp .ge off, 3)) (ht : (pc : Int) + off = (n : Int)) (hxy : y ≤ x) (k : Rk G X n0 n lv st f cs sl) : Rk G X n0 pc lv (.int y :: .int x :: st) f cs sl := by
  obtain ⟨p, e, R, s, mt, args, below, meth, c, ca', sa', Qp⟩ := X
  obtain ⟨hx, hb, hml, how, hts, hK, hs, hR⟩ := C
  intro ls H locs hl hh hS
  refine lv_icmp_ge hx hb hd ht (fun h => k ls H locs hl hh hS) (fun h => ?_)
  exact absurd hxy (by simpa using h)
theorem rk_ge_f (C : Ck G X n0 ca sa d cc nL own) {x y : Int32} {off : Int} {tgt : Nat} (hd : decode cc pc = .ok (.if_icmp .ge off, 3)) (ht : (pc : Int) + off = (tgt : Int)) (hn : pc + 3 = n) (hxy : ¬ y ≤ x) (k : Rk G X n0 n lv st f cs sl) : Rk G X n0 pc lv (.int y :: .int x :: st) f cs sl := by
  obtain ⟨p, e, R, s, mt, args, below, meth, c, ca', sa', Qp⟩ := X
  obtain ⟨hx, hb, hml, how, hts, hK, hs, hR⟩ := C
  subst hn
  intro ls H locs hl hh hS
  refine lv_icmp_ge hx hb hd ht (fun h => ?_) (fun h => k ls H locs hl hh hS)
  exact absurd (by simpa using h) hxy
theorem rk_objInit (C : Ck G X n0 ca sa d cc nL own) {idx k : Nat} (hw1 : Cond.methodLink own idx objectInit ∈ lw_tb) (hw2 : Cond.instanceMethod objectInit ∈ lw_tb) (hw3 : Cond.code objectInit ⟨#[0xb1]⟩ 1 none ∈ lw_tb) (hdd : 1 ≤ d) (hst : (st.map fun v => v.category).sum ≤ 8) (hd : decode cc pc = .ok (.invokespecial idx, 3)) (hn : pc + 3 = n) (kk : Rk G X n0 n lv st f cs sl) : Rk G X n0 pc lv (hA G k :: st) f cs sl := by
  obtain ⟨p, e, R, s, mt, args, below, meth, c, ca', sa', Qp⟩ := X
  obtain ⟨hx, hb, hml, how, hts, hK, hs, hR⟩ := C
  subst hn
  intro ls H locs hl hh hS
  have hm : (F0 mt pc ls (hA G k :: st)).monitorRoom = 0 := rfl
  refine W.objInit hx hb how (hts _ hw1) (hts _ hw2) (hts _ hw3) rfl (by rw [hml]; exact hl.1.trans hml) rfl hd (Nat.le_trans hdd hR.1) (by rw [hm]; omega) ?_
  refine W.eq (g2 := F0 mt (pc + 3) ls st) rfl ?_
  exact kk ls H locs hl hh hS
theorem rk_newa (C : Ck G X n0 ca sa d cc nL own) {atype : ArrayType} {ty : FieldType} {tk N : Nat} {a0 : vp_A} {x : Int32} (harr : Cond.arrayClass ty ∈ lw_tb) (hty : newarray.typeOf atype = ty) (hT : (hT G.2.2.1)[tk]? = some (G.2.2.1 tk, ty)) (hra : ∀ (U : State) (cA : ClassId), va_RA U cA ty → U.vm.findClass ("[" ++ ty.toString) = some cA) (ha : ∀ cA : ClassId, vp_cell cA a0 = arrV cA N (fun _ => defaultValue ty)) (hx0 : ¬ x < 0) (hN : x.toNatClampNeg = N) (hby : N * componentBytes ty ≤ 536870912) (hcs : cs + 1 ≤ ca) (hsl : sl + N ≤ sa) (hd : decode cc pc = .ok (.newarray atype, 2)) (hn : pc + 2 = n) (kk : Rk G X n0 n lv (hA G (n0 + cs) :: st) (kU f (n0 + cs) (.inl (G.2.2.1 tk, a0))) (cs + 1) (sl + N)) : Rk G X n0 pc lv (.int x :: st) f cs sl := by
  obtain ⟨p, e, R, s, mt, args, below, meth, c, ca', sa', Qp⟩ := X
  obtain ⟨hx, hb, hml, how, hts, hK, hs, hR⟩ := C
  subst hn
  subst hty
  intro ls H locs hl hh hS T hT2 Xs
  have hz := k_sz Xs hT2 hs hh hS
  refine va_newaK (g := F0 mt pc ls (.int x :: st)) (rest := st) hx hb (hts _ harr) rfl hd rfl hx0 hN hby (Nat.le_trans hcs hR.2.2.1) (Nat.le_trans hsl hR.2.2.2) rfl (fun H1 cA e1 z1 o1 hAr hNm => ?_) T hT2 Xs
  have hc : cA = G.2.2.1 tk := Option.some.inj (hNm.symm.trans (hra _ _ (hK.1.1.2 tk _ hT).2))
  subst hc
  rw [hz]
  have hP1 : kP G (n0 + (cs + 1)) (kU f (n0 + cs) (.inl (G.2.2.1 tk, a0))) H1 := kP_push hh o1 (by
    show H1[G.2.2.2.1 + (n0 + cs)]? = some (vp_cell _ _)
    rw [ha, ← hz]; exact e1)
  exact kk ls H1 locs hl hP1 ⟨Nat.le_trans hS.1 (by omega), fun q h1 h2 => (o1 q (Nat.lt_of_lt_of_le h1 hS.1)).trans (hS.2.1 q h1 h2), hS.2.2⟩
theorem rk_new (C : Ck G X n0 ca sa d cc nL own) {idx ci N : Nat} {Cn : String} {T : u_T} (ty : Nat → FieldType) (fs : List Value) (hc : vwCl[ci]? = some (Cn, T, N)) (hin : ∀ w ∈ u_ws Cn T N, w ∈ lw_tb) (hty : ∀ k, k < N → parseFieldDescriptor (T k).2.2.1 = some (ty k)) (hw1 : Cond.classLink own idx Cn ∈ lw_tb) (hw2 : Cond.instantiable Cn N ∈ lw_tb) (hw3 : Cond.initialized Cn ∈ lw_tb) (hfs : ∀ j, j < N → defaultValue (ty j) = vp_V fs j) (hcs : cs + 1 ≤ ca) (hsl : sl + N ≤ sa) (hd : decode cc pc = .ok (.new idx, 3)) (hn : pc + 3 = n) (kk : Rk G X n0 n lv (hA G (n0 + cs) :: st) (kU f (n0 + cs) (.inr (ci, fs))) (cs + 1) (sl + N)) : Rk G X n0 pc lv st f cs sl := by
  obtain ⟨p, e, R, s, mt, args, below, meth, c, ca', sa', Qp⟩ := X
  obtain ⟨hx, hb, hml, how, hts, hK, hs, hR⟩ := C
  subst hn
  intro ls H locs hl hh hS T2 hT2 Xs
  have hz := k_sz Xs hT2 hs hh hS
  have hKn := hK.1.1.1 ci _ hc
  refine W.newcK (g := F0 mt pc ls st) hx hb how (hts _ hw1) (hts _ hw2) (hts _ hw3) rfl hd (Nat.le_trans hcs hR.2.2.1) (Nat.le_trans hsl hR.2.2.2) hKn.2.1 rfl (fun H1 kC hkC e1 z1 o1 => ?_) T2 hT2 Xs
  rw [hz] at e1 ⊢
  have hP1 : kP G (n0 + (cs + 1)) (kU f (n0 + cs) (.inr (ci, fs))) H1 := kP_push hh o1 ⟨_, hc, (u_born ty hts hin hKn hkC e1 hty).to hfs⟩
  exact kk ls H1 locs hl hP1 ⟨Nat.le_trans hS.1 (by omega), fun q h1 h2 => (o1 q (Nat.lt_of_lt_of_le h1 hS.1)).trans (hS.2.1 q h1 h2), hS.2.2⟩
theorem rk_anew (C : Ck G X n0 ca sa d cc nL own) {idx tk N : Nat} {Cn : String} {x : Int32} (hw1 : Cond.classLink own idx Cn ∈ lw_tb) (hov : ∀ U : State, kK G U → va_AO Cn U) (hT : (hT G.2.2.1)[tk]? = some (G.2.2.1 tk, .object Cn)) (hx0 : ¬ x < 0) (hN : x.toNatClampNeg = N) (hby : N * 4 ≤ 536870912) (hcs : cs + 1 ≤ ca) (hsl : sl + N ≤ sa) (hd : decode cc pc = .ok (.anewarray idx, 3)) (hn : pc + 3 = n) (kk : Rk G X n0 n lv (hA G (n0 + cs) :: st) (kU f (n0 + cs) (.inl (G.2.2.1 tk, N, .inr (.inr (.inr (.inr (fun _ => none))))))) (cs + 1) (sl + N)) : Rk G X n0 pc lv (.int x :: st) f cs sl := by
  obtain ⟨p, e, R, s, mt, args, below, meth, c, ca', sa', Qp⟩ := X
  obtain ⟨hx, hb, hml, how, hts, hK, hs, hR⟩ := C
  subst hn
  subst hN
  intro ls H locs hl hh hS T2 hT2 Xs
  have hz := k_sz Xs hT2 hs hh hS
  refine W.anew (g := F0 mt pc ls (.int x :: st)) (rest := st) hx hb how (hts _ hw1) (va_AO.use (hov s hK)) rfl hd rfl hx0 hby (Nat.le_trans hcs hR.2.2.1) (Nat.le_trans hsl hR.2.2.2) (fun cA kA comp f1 f2 f3 f4 => ?_) T2 hT2 Xs
  obtain ⟨kA2, comp2, b1, b2, b3, b4⟩ := (hK.1.1.2 tk _ hT).2
  have hc : cA = G.2.2.1 tk := Option.some.inj (f1.symm.trans b4)
  subst hc
  generalize hH1 : H.push ({ cls := G.2.2.1 tk, slots := Array.replicate x.toNatClampNeg .null, vm := .none } : Cell) = H1
  have z1 : H1.size = H.size + 1 := by rw [← hH1, Array.size_push]
  have e1 : H1[H.size]? = some (arrV (G.2.2.1 tk) x.toNatClampNeg (fun _ => .null)) := by rw [← hH1, Array.getElem?_push_size, ← arrV_new]
  have o1 : ∀ q : Nat, q < H.size → H1[q]? = H[q]? := fun q hq => by rw [← hH1, Array.getElem?_push, if_neg (Nat.ne_of_lt hq)]
  rw [hz] at e1 ⊢
  have hP1 : kP G (n0 + (cs + 1)) (kU f (n0 + cs) (.inl (G.2.2.1 tk, x.toNatClampNeg, .inr (.inr (.inr (.inr (fun _ => none))))))) H1 := kP_push hh o1 (by
    show H1[G.2.2.2.1 + (n0 + cs)]? = some (vp_cell _ _)
    rw [e1]; rfl)
  exact kk ls H1 locs hl hP1 ⟨Nat.le_trans hS.1 (by omega), fun q h1 h2 => (o1 q (Nat.lt_of_lt_of_le h1 hS.1)).trans (hS.2.1 q h1 h2), hS.2.2⟩

end RK
