/-! ===== wrong, in the class: a world with one more array of longs, at qa; the judgement Rg ===== -/
def hG9 (G : hG) (qa : Nat) (g : Nat → Int64) (H : Heap) : Prop := H[qa]? = some (vp_cell (G.2.2.1 3) (9, .inr (.inl g)))
def Rg (G : hG) (X : hX) (qa pc : Nat) (lv : List (Nat × Value)) (st : List Value) (g : Nat → Int64) (m : hM) (E : Option (Int32 × hM)) : Prop :=
  match X with
  | (p, e, R, s, mt, args, below, meth, c, cs, sl, Qp) => ∀ (ls : Array Slot) (H : Heap) (locs : List Loc) (a : Int32) (m' : hM), lv_has ls c.maxLocals lv → hR G m H → G.2.2.2.1 + 136 ≤ qa → hG9 G qa g H → va_S (fun q => G.2.2.2.1 ≤ q) s.heap H locs → E = some (a, m') →
    W p G.1 e R s mt args below meth c H locs cs sl (Qp (vI a) m') (F0 mt pc ls st)
section RG
variable {G : hG} {X : hX} {qa d : Nat} {cc : ByteArray} {nL : Nat} {own : String} {ret : Option FieldType} {pc n : Nat} {lv : List (Nat × Value)} {st : List Value} {g : Nat → Int64} {m : hM} {E E1 E2 : Option (Int32 × hM)}
theorem rg_isub (C : Cx G X d cc nL own ret) {x y : Int32} (hd : decode cc pc = .ok (.isub, 1)) (hn : pc + 1 = n) (k : Rg G X qa n lv (.int (x - y) :: st) g m E) : Rg G X qa pc lv (.int y :: .int x :: st) g m E := by
  obtain ⟨p, e, R, s, mt, args, below, meth, c, cs, sl, Qp⟩ := X
  obtain ⟨hx, hb, hml, how, hts, hK, hr, hlk, hR⟩ := C
  subst hn
  intro ls H locs a m' hl hh hq9 hc9 hS hE
  exact lv_isub hx hb hd (k ls H locs a m' hl hh hq9 hc9 hS hE)
theorem rg_ladd (C : Cx G X d cc nL own ret) {x y : Int64} (hd : decode cc pc = .ok (.ladd, 1)) (hn : pc + 1 = n) (k : Rg G X qa n lv (.long (x + y) :: st) g m E) : Rg G X qa pc lv (.long y :: .long x :: st) g m E := by
  obtain ⟨p, e, R, s, mt, args, below, meth, c, cs, sl, Qp⟩ := X
  obtain ⟨hx, hb, hml, how, hts, hK, hr, hlk, hR⟩ := C
  subst hn
  intro ls H locs a m' hl hh hq9 hc9 hS hE
  exact lv_ladd hx hb hd (k ls H locs a m' hl hh hq9 hc9 hS hE)
theorem rg_lmul (C : Cx G X d cc nL own ret) {x y : Int64} (hd : decode cc pc = .ok (.lmul, 1)) (hn : pc + 1 = n) (k : Rg G X qa n lv (.long (x * y) :: st) g m E) : Rg G X qa pc lv (.long y :: .long x :: st) g m E := by
  obtain ⟨p, e, R, s, mt, args, below, meth, c, cs, sl, Qp⟩ := X
  obtain ⟨hx, hb, hml, how, hts, hK, hr, hlk, hR⟩ := C
  subst hn
  intro ls H locs a m' hl hh hq9 hc9 hS hE
  exact lv_lmul hx hb hd (k ls H locs a m' hl hh hq9 hc9 hS hE)
theorem rg_i2l (C : Cx G X d cc nL own ret) {x : Int32} (hd : decode cc pc = .ok (.i2l, 1)) (hn : pc + 1 = n) (k : Rg G X qa n lv (.long (x.toInt64) :: st) g m E) : Rg G X qa pc lv (.int x :: st) g m E := by
  obtain ⟨p, e, R, s, mt, args, below, meth, c, cs, sl, Qp⟩ := X
  obtain ⟨hx, hb, hml, how, hts, hK, hr, hlk, hR⟩ := C
  subst hn
  intro ls H locs a m' hl hh hq9 hc9 hS hE
  exact lv_i2l hx hb hd rfl (k ls H locs a m' hl hh hq9 hc9 hS hE)
theorem rg_iconst (C : Cx G X d cc nL own ret) {z : Int} {v : Int32} (hd : decode cc pc = .ok (.iconst z, 1)) (hn : pc + 1 = n) (hv : Int32.ofInt z = v) (k : Rg G X qa n lv (.int v :: st) g m E) : Rg G X qa pc lv (st) g m E := by
  obtain ⟨p, e, R, s, mt, args, below, meth, c, cs, sl, Qp⟩ := X
  obtain ⟨hx, hb, hml, how, hts, hK, hr, hlk, hR⟩ := C
  subst hn
  intro ls H locs a m' hl hh hq9 hc9 hS hE
  exact lv_iconst hx hb hd hv (k ls H locs a m' hl hh hq9 hc9 hS hE)
theorem rg_bipush (C : Cx G X d cc nL own ret) {z : Int} {v : Int32} (hd : decode cc pc = .ok (.bipush z, 2)) (hn : pc + 2 = n) (hv : (Int8.ofInt z).toInt32 = v) (k : Rg G X qa n lv (.int v :: st) g m E) : Rg G X qa pc lv (st) g m E := by
  obtain ⟨p, e, R, s, mt, args, below, meth, c, cs, sl, Qp⟩ := X
  obtain ⟨hx, hb, hml, how, hts, hK, hr, hlk, hR⟩ := C
  subst hn
  intro ls H locs a m' hl hh hq9 hc9 hS hE
  exact lv_bipush hx hb hd hv (k ls H locs a m' hl hh hq9 hc9 hS hE)
theorem rg_lconst (C : Cx G X d cc nL own ret) {z : Fin 2} {v : Int64} (hd : decode cc pc = .ok (.lconst z, 1)) (hn : pc + 1 = n) (hv : Int64.ofNat (z : Nat) = v) (k : Rg G X qa n lv (.long v :: st) g m E) : Rg G X qa pc lv (st) g m E := by
  obtain ⟨p, e, R, s, mt, args, below, meth, c, cs, sl, Qp⟩ := X
  obtain ⟨hx, hb, hml, how, hts, hK, hr, hlk, hR⟩ := C
  subst hn
  intro ls H locs a m' hl hh hq9 hc9 hS hE
  exact lv_lconst hx hb hd hv (k ls H locs a m' hl hh hq9 hc9 hS hE)
theorem rg_ldc2 (C : Cx G X d cc nL own ret) {ix : Nat} {v : Int64} (hd : decode cc pc = .ok (.ldc2_w ix, 3)) (hn : pc + 3 = n) (hw : Cond.constantLong own ix v ∈ lw_tb) (k : Rg G X qa n lv (.long v :: st) g m E) : Rg G X qa pc lv (st) g m E := by
  obtain ⟨p, e, R, s, mt, args, below, meth, c, cs, sl, Qp⟩ := X
  obtain ⟨hx, hb, hml, how, hts, hK, hr, hlk, hR⟩ := C
  subst hn
  intro ls H locs a m' hl hh hq9 hc9 hS hE
  exact lv_ldc2 hx hb how (hts _ hw) hd (k ls H locs a m' hl hh hq9 hc9 hS hE)
theorem rg_iload_n (C : Cx G X d cc nL own ret) {z : Fin 4} {i q : Nat} {x : Int32} (hd : decode cc pc = .ok (.iload_n z, 1)) (hn : pc + 1 = n) (hi : (z : Nat) = i) (hq : lv[q]? = some (i, .int x)) (k : Rg G X qa n lv (.int x :: st) g m E) : Rg G X qa pc lv (st) g m E := by
  obtain ⟨p, e, R, s, mt, args, below, meth, c, cs, sl, Qp⟩ := X
  obtain ⟨hx, hb, hml, how, hts, hK, hr, hlk, hR⟩ := C
  subst hn
  intro ls H locs a m' hl hh hq9 hc9 hS hE
  exact lv_iload_n hx hb hd hi (lv_at hl q hq) (k ls H locs a m' hl hh hq9 hc9 hS hE)
theorem rg_iload (C : Cx G X d cc nL own ret) {i q : Nat} {x : Int32} (hd : decode cc pc = .ok (.iload i, 2)) (hn : pc + 2 = n) (hq : lv[q]? = some (i, .int x)) (k : Rg G X qa n lv (.int x :: st) g m E) : Rg G X qa pc lv (st) g m E := by
  obtain ⟨p, e, R, s, mt, args, below, meth, c, cs, sl, Qp⟩ := X
  obtain ⟨hx, hb, hml, how, hts, hK, hr, hlk, hR⟩ := C
  subst hn
  intro ls H locs a m' hl hh hq9 hc9 hS hE
  exact lv_iload hx hb hd (lv_at hl q hq) (k ls H locs a m' hl hh hq9 hc9 hS hE)
theorem rg_lload (C : Cx G X d cc nL own ret) {i q : Nat} {x : Int64} (hd : decode cc pc = .ok (.lload i, 2)) (hn : pc + 2 = n) (hq : lv[q]? = some (i, .long x)) (k : Rg G X qa n lv (.long x :: st) g m E) : Rg G X qa pc lv (st) g m E := by
  obtain ⟨p, e, R, s, mt, args, below, meth, c, cs, sl, Qp⟩ := X
  obtain ⟨hx, hb, hml, how, hts, hK, hr, hlk, hR⟩ := C
  subst hn
  intro ls H locs a m' hl hh hq9 hc9 hS hE
  exact lv_lload hx hb hd (lv_at hl q hq) (k ls H locs a m' hl hh hq9 hc9 hS hE)
theorem rg_aload_n (C : Cx G X d cc nL own ret) {z : Fin 4} {i q : Nat} {x : Nat} (hd : decode cc pc = .ok (.aload_n z, 1)) (hn : pc + 1 = n) (hi : (z : Nat) = i) (hq : lv[q]? = some (i, hA G x)) (k : Rg G X qa n lv (hA G x :: st) g m E) : Rg G X qa pc lv (st) g m E := by
  obtain ⟨p, e, R, s, mt, args, below, meth, c, cs, sl, Qp⟩ := X
  obtain ⟨hx, hb, hml, how, hts, hK, hr, hlk, hR⟩ := C
  subst hn
  intro ls H locs a m' hl hh hq9 hc9 hS hE
  exact lv_aload_n hx hb hd hi (lv_at hl q hq) (k ls H locs a m' hl hh hq9 hc9 hS hE)
theorem rg_istore_n (C : Cx G X d cc nL own ret) {i : Nat} {z : Fin 4} {x : Int32} (lv' : List (Nat × Value)) (hd : decode cc pc = .ok (.istore_n z, 1)) (hn : pc + 1 = n) (hi : (z : Nat) = i) (hi2 : i < nL) (hlv : (i, Value.int x) :: lv.filter (fun q => !(q.1 == i) && !(q.1 + 1 == i && q.2.category == 2)) = lv') (k : Rg G X qa n lv' st g m E) : Rg G X qa pc lv (Value.int x :: st) g m E := by
  obtain ⟨p, e, R, s, mt, args, below, meth, c, cs, sl, Qp⟩ := X
  obtain ⟨hx, hb, hml, how, hts, hK, hr, hlk, hR⟩ := C
  subst hn
  intro ls H locs a m' hl hh hq9 hc9 hS hE
  exact lv_istore_n hx hb hd hi hl (by rw [hml]; exact hi2) hlv (fun ls' hl' => k ls' H locs a m' hl' hh hq9 hc9 hS hE)
theorem rg_istore (C : Cx G X d cc nL own ret) {i : Nat}  {x : Int32} (lv' : List (Nat × Value)) (hd : decode cc pc = .ok (.istore i, 2)) (hn : pc + 2 = n) (hi2 : i < nL) (hlv : (i, Value.int x) :: lv.filter (fun q => !(q.1 == i) && !(q.1 + 1 == i && q.2.category == 2)) = lv') (k : Rg G X qa n lv' st g m E) : Rg G X qa pc lv (Value.int x :: st) g m E := by
  obtain ⟨p, e, R, s, mt, args, below, meth, c, cs, sl, Qp⟩ := X
  obtain ⟨hx, hb, hml, how, hts, hK, hr, hlk, hR⟩ := C
  subst hn
  intro ls H locs a m' hl hh hq9 hc9 hS hE
  exact lv_istore hx hb hd  hl (by rw [hml]; exact hi2) hlv (fun ls' hl' => k ls' H locs a m' hl' hh hq9 hc9 hS hE)
theorem rg_lstore (C : Cx G X d cc nL own ret) {i : Nat}  {x : Int64} (lv' : List (Nat × Value)) (hd : decode cc pc = .ok (.lstore i, 2)) (hn : pc + 2 = n) (hi2 : i + 1 < nL) (hlv : (i, Value.long x) :: lv.filter (fun q => !(q.1 == i) && (!(q.1 == i + 1) && !(q.1 + 1 == i && q.2.category == 2))) = lv') (k : Rg G X qa n lv' st g m E) : Rg G X qa pc lv (Value.long x :: st) g m E := by
  obtain ⟨p, e, R, s, mt, args, below, meth, c, cs, sl, Qp⟩ := X
  obtain ⟨hx, hb, hml, how, hts, hK, hr, hlk, hR⟩ := C
  subst hn
  intro ls H locs a m' hl hh hq9 hc9 hS hE
  exact lv_lstore hx hb hd  hl (by rw [hml]; exact hi2) hlv (fun ls' hl' => k ls' H locs a m' hl' hh hq9 hc9 hS hE)
theorem rg_iinc (C : Cx G X d cc nL own ret) {i q : Nat} {z : Int} {x v : Int32} (lv' : List (Nat × Value)) (hd : decode cc pc = .ok (.iinc i z, 3)) (hn : pc + 3 = n) (hq : lv[q]? = some (i, .int x)) (hv : x + Int32.ofInt z = v) (hi2 : i < nL) (hlv : (i, Value.int v) :: lv.filter (fun q => !(q.1 == i) && !(q.1 + 1 == i && q.2.category == 2)) = lv') (k : Rg G X qa n lv' st g m E) : Rg G X qa pc lv st g m E := by
  obtain ⟨p, e, R, s, mt, args, below, meth, c, cs, sl, Qp⟩ := X
  obtain ⟨hx, hb, hml, how, hts, hK, hr, hlk, hR⟩ := C
  subst hn
  intro ls H locs a m' hl hh hq9 hc9 hS hE
  exact lv_iinc hx hb hd hl hq hv (by rw [hml]; exact hi2) hlv (fun ls' hl' => k ls' H locs a m' hl' hh hq9 hc9 hS hE)
theorem rg_goto (C : Cx G X d cc nL own ret) {off : Int} (hd : decode cc pc = .ok (.goto off, 3)) (ht : (pc : Int) + off = (n : Int)) (k : Rg G X qa n lv st g m E) : Rg G X qa pc lv st g m E := by
  obtain ⟨p, e, R, s, mt, args, below, meth, c, cs, sl, Qp⟩ := X
  obtain ⟨hx, hb, hml, how, hts, hK, hr, hlk, hR⟩ := C
  intro ls H locs a m' hl hh hq9 hc9 hS hE
  exact lv_goto hx hb hd ht (k ls H locs a m' hl hh hq9 hc9 hS hE)
theorem rg_if_lt (C : Cx G X d cc nL own ret) {x : Int32} {off : Int} {tgt : Nat} {hdec : Decidable (x < 0)} (hd : decode cc pc = .ok (.ifCond .lt off, 3)) (ht : (pc : Int) + off = (tgt : Int)) (hn : pc + 3 = n) (kt : x < 0 → Rg G X qa tgt lv st g m E1) (kf : ¬ (x < 0) → Rg G X qa n lv st g m E2) : Rg G X qa pc lv (.int x :: st) g m (@ite _ (x < 0) hdec E1 E2) := by
  obtain ⟨p, e, R, s, mt, args, below, meth, c, cs, sl, Qp⟩ := X
  obtain ⟨hx, hb, hml, how, hts, hK, hr, hlk, hR⟩ := C
  subst hn
  intro ls H locs a m' hl hh hq9 hc9 hS hE
  refine lv_if_lt hx hb hd ht (fun h => ?_) (fun h => ?_)
  · first | (rw [if_pos h] at hE; exact kt h ls H locs a m' hl hh hq9 hc9 hS hE) | (have h' : x < 0 := (by simpa using h); rw [if_pos h'] at hE; exact kt h' ls H locs a m' hl hh hq9 hc9 hS hE)
  · first | (rw [if_neg h] at hE; exact kf h ls H locs a m' hl hh hq9 hc9 hS hE) | (have h' : ¬ (x < 0) := (by simpa using h); rw [if_neg h'] at hE; exact kf h' ls H locs a m' hl hh hq9 hc9 hS hE)
theorem rg_if_le (C : Cx G X d cc nL own ret) {x : Int32} {off : Int} {tgt : Nat} {hdec : Decidable (x ≤ 0)} (hd : decode cc pc = .ok (.ifCond .le off, 3)) (ht : (pc : Int) + off = (tgt : Int)) (hn : pc + 3 = n) (kt : x ≤ 0 → Rg G X qa tgt lv st g m E1) (kf : ¬ (x ≤ 0) → Rg G X qa n lv st g m E2) : Rg G X qa pc lv (.int x :: st) g m (@ite _ (x ≤ 0) hdec E1 E2) := by
  obtain ⟨p, e, R, s, mt, args, below, meth, c, cs, sl, Qp⟩ := X
  obtain ⟨hx, hb, hml, how, hts, hK, hr, hlk, hR⟩ := C
  subst hn
  intro ls H locs a m' hl hh hq9 hc9 hS hE
  refine lv_if_le hx hb hd ht (fun h => ?_) (fun h => ?_)
  · first | (rw [if_pos h] at hE; exact kt h ls H locs a m' hl hh hq9 hc9 hS hE) | (have h' : x ≤ 0 := (by simpa using h); rw [if_pos h'] at hE; exact kt h' ls H locs a m' hl hh hq9 hc9 hS hE)
  · first | (rw [if_neg h] at hE; exact kf h ls H locs a m' hl hh hq9 hc9 hS hE) | (have h' : ¬ (x ≤ 0) := (by simpa using h); rw [if_neg h'] at hE; exact kf h' ls H locs a m' hl hh hq9 hc9 hS hE)
theorem rg_icmp_ge (C : Cx G X d cc nL own ret) {x y : Int32} {off : Int} {tgt : Nat} {hdec : Decidable (y ≤ x)} (hd : decode cc pc = .ok (.if_icmp .ge off, 3)) (ht : (pc : Int) + off = (tgt : Int)) (hn : pc + 3 = n) (kt : y ≤ x → Rg G X qa tgt lv st g m E1) (kf : ¬ (y ≤ x) → Rg G X qa n lv st g m E2) : Rg G X qa pc lv (.int y :: .int x :: st) g m (@ite _ (y ≤ x) hdec E1 E2) := by
  obtain ⟨p, e, R, s, mt, args, below, meth, c, cs, sl, Qp⟩ := X
  obtain ⟨hx, hb, hml, how, hts, hK, hr, hlk, hR⟩ := C
  subst hn
  intro ls H locs a m' hl hh hq9 hc9 hS hE
  refine lv_icmp_ge hx hb hd ht (fun h => ?_) (fun h => ?_)
  · first | (rw [if_pos h] at hE; exact kt h ls H locs a m' hl hh hq9 hc9 hS hE) | (have h' : y ≤ x := (by simpa using h); rw [if_pos h'] at hE; exact kt h' ls H locs a m' hl hh hq9 hc9 hS hE)
  · first | (rw [if_neg h] at hE; exact kf h ls H locs a m' hl hh hq9 hc9 hS hE) | (have h' : ¬ (y ≤ x) := (by simpa using h); rw [if_neg h'] at hE; exact kf h' ls H locs a m' hl hh hq9 hc9 hS hE)
theorem rg_icmp_gt (C : Cx G X d cc nL own ret) {x y : Int32} {off : Int} {tgt : Nat} {hdec : Decidable (y < x)} (hd : decode cc pc = .ok (.if_icmp .gt off, 3)) (ht : (pc : Int) + off = (tgt : Int)) (hn : pc + 3 = n) (kt : y < x → Rg G X qa tgt lv st g m E1) (kf : ¬ (y < x) → Rg G X qa n lv st g m E2) : Rg G X qa pc lv (.int y :: .int x :: st) g m (@ite _ (y < x) hdec E1 E2) := by
  obtain ⟨p, e, R, s, mt, args, below, meth, c, cs, sl, Qp⟩ := X
  obtain ⟨hx, hb, hml, how, hts, hK, hr, hlk, hR⟩ := C
  subst hn
  intro ls H locs a m' hl hh hq9 hc9 hS hE
  refine lv_icmp_gt hx hb hd ht (fun h => ?_) (fun h => ?_)
  · first | (rw [if_pos h] at hE; exact kt h ls H locs a m' hl hh hq9 hc9 hS hE) | (have h' : y < x := (by simpa using h); rw [if_pos h'] at hE; exact kt h' ls H locs a m' hl hh hq9 hc9 hS hE)
  · first | (rw [if_neg h] at hE; exact kf h ls H locs a m' hl hh hq9 hc9 hS hE) | (have h' : ¬ (y < x) := (by simpa using h); rw [if_neg h'] at hE; exact kf h' ls H locs a m' hl hh hq9 hc9 hS hE)
theorem rg_lv (lv' : List (Nat × Value)) (ks : List Nat) (h : lv_pick lv ks = lv') (k : Rg G X qa pc lv' st g m E) : Rg G X qa pc lv st g m E := by
  obtain ⟨p, e, R, s, mt, args, below, meth, c, cs, sl, Qp⟩ := X
  intro ls H locs a m' hl hh hq9 hc9 hS hE
  exact k ls H locs a m' (lv_sub hl ks h) hh hq9 hc9 hS hE
theorem rg_getS (C : Cx G X d cc nL own ret) {idx ci j k : Nat} {ks : List hKd} {r : Nat} (hf : hFl own idx ci j) (hy : LY[k]? = some (.inl (ci, ks))) (hj : ks[j]? = some (.inl (some r))) (hd : decode cc pc = .ok (.getfield idx, 3)) (hn : pc + 3 = n) (kk : Rg G X qa n lv (hA G r :: st) g m E) : Rg G X qa pc lv (hA G k :: st) g m E := by
  obtain ⟨p, e, R, s, mt, args, below, meth, c, cs, sl, Qp⟩ := X
  obtain ⟨hx, hb, hml, how, hts, hK, hr, hlk, hR⟩ := C
  subst hn
  intro ls H locs a m' hl hh hq9 hc9 hS hE
  obtain ⟨Cn, T, N, hc, hin, hjN, hlk2⟩ := hf
  have he : (hW G m)[k]? = some (G.2.2.2.1 + k, .inr (ci, ks.mapIdx (fun i q => hV G.2.2.2.1 m k i q))) := hW_get hy
  have hv : (ks.mapIdx (fun i q => hV G.2.2.2.1 m k i q))[j]? = some (hA G r) := by rw [List.getElem?_mapIdx, hj]; rfl
  exact va_get hx hb hts hin how hK.1 hh k he hc j hjN (hts _ hlk2) (fun _ h9 => h9) hv hd (kk ls H locs a m' hl hh hq9 hc9 hS hE)
theorem rg_iald (C : Cx G X d cc nL own ret) {k N j : Nat} {i : Int32} (hy : LY[k]? = some (.inr (.inl (0, N)))) (hi : hIn i N) (hj : i.toNatClampNeg = j) (hd : decode cc pc = .ok (.iaload, 1)) (hn : pc + 1 = n) (kk : Rg G X qa n lv (.int (gI m k j) :: st) g m E) : Rg G X qa pc lv (.int i :: hA G k :: st) g m E := by
  obtain ⟨p, e, R, s, mt, args, below, meth, c, cs, sl, Qp⟩ := X
  obtain ⟨hx, hb, hml, how, hts, hK, hr, hlk, hR⟩ := C
  subst hn
  intro ls H locs a m' hl hh hq9 hc9 hS hE
  subst hj
  have he : (hW G m)[k]? = some (G.2.2.2.1 + k, .inl (G.2.2.1 0, N, .inl (gI m k))) := hW_get hy
  exact va_iald hx hb hK.1 hh k 0 he rfl (hIn_vp hi) hd (kk ls H locs a m' hl hh hq9 hc9 hS hE)
theorem rg_alq (C : Cx G X d cc nL own ret) {z : Fin 4} {i q : Nat} (hd : decode cc pc = .ok (.aload_n z, 1)) (hn : pc + 1 = n) (hi : (z : Nat) = i) (hq : lv[q]? = some (i, .ref qa)) (k : Rg G X qa n lv (.ref qa :: st) g m E) : Rg G X qa pc lv st g m E := by
  obtain ⟨p, e, R, s, mt, args, below, meth, c, cs, sl, Qp⟩ := X
  obtain ⟨hx, hb, hml, how, hts, hK, hr, hlk, hR⟩ := C
  subst hn
  intro ls H locs a m' hl hh hq9 hc9 hS hE
  exact lv_aload_n hx hb hd hi (lv_at hl q hq) (k ls H locs a m' hl hh hq9 hc9 hS hE)
theorem rg_asq (C : Cx G X d cc nL own ret) {i : Nat} {z : Fin 4} (lv' : List (Nat × Value)) (hd : decode cc pc = .ok (.astore_n z, 1)) (hn : pc + 1 = n) (hi : (z : Nat) = i) (hi2 : i < nL) (hlv : (i, Value.ref qa) :: lv.filter (fun q => !(q.1 == i) && !(q.1 + 1 == i && q.2.category == 2)) = lv') (k : Rg G X qa n lv' st g m E) : Rg G X qa pc lv (.ref qa :: st) g m E := by
  obtain ⟨p, e, R, s, mt, args, below, meth, c, cs, sl, Qp⟩ := X
  obtain ⟨hx, hb, hml, how, hts, hK, hr, hlk, hR⟩ := C
  subst hn
  intro ls H locs a m' hl hh hq9 hc9 hS hE
  exact lv_astore_n hx hb hd hi hl (by rw [hml]; exact hi2) hlv (fun ls' hl' => k ls' H locs a m' hl' hh hq9 hc9 hS hE)
theorem hG9_P {H : Heap} (hc : hG9 G qa g H) : va_P G.2.1 vwCl [(qa, .inl (G.2.2.1 3, 9, .inr (.inl g)))] H := fun k q hk => by
  have hz : k < 1 := (List.getElem?_eq_some_iff.mp hk).1
  rw [show k = 0 by omega] at hk
  cases hk
  exact hc
theorem rg_lald (C : Cx G X d cc nL own ret) {i : Int32} {j : Nat} (hi : hIn i 9) (hj : i.toNatClampNeg = j) (hd : decode cc pc = .ok (.laload, 1)) (hn : pc + 1 = n) (k : Rg G X qa n lv (.long (g j) :: st) g m E) : Rg G X qa pc lv (.int i :: .ref qa :: st) g m E := by
  obtain ⟨p, e, R, s, mt, args, below, meth, c, cs, sl, Qp⟩ := X
  obtain ⟨hx, hb, hml, how, hts, hK, hr, hlk, hR⟩ := C
  subst hn
  intro ls H locs a m' hl hh hq9 hc9 hS hE
  subst hj
  exact va_lald hx hb hK.1 (hG9_P hc9) 0 3 rfl rfl (hIn_vp hi) hd (k ls H locs a m' hl hh hq9 hc9 hS hE)
theorem hW_len : (hW G m).length = 136 := by unfold hW; rw [List.length_mapIdx, LY_len]
theorem hW_D9 (hq : G.2.2.2.1 + 136 ≤ qa) (e : va_E) : va_D (fun q => G.2.2.2.1 ≤ q) (hW G m ++ [(qa, e)]) := by
  have key : ∀ (i : Nat) (p : Nat × va_E), (hW G m ++ [(qa, e)])[i]? = some p → (i < 136 ∧ p.1 = G.2.2.2.1 + i) ∨ (i = 136 ∧ p.1 = qa) := by
    intro i p h
    by_cases hi : i < 136
    · rw [List.getElem?_append_left (by rw [hW_len]; exact hi)] at h
      unfold hW at h
      rw [List.getElem?_mapIdx] at h
      cases hs : LY[i]? with
      | none => rw [hs] at h; cases h
      | some s => rw [hs] at h; cases h; exact Or.inl ⟨hi, rfl⟩
    · rw [List.getElem?_append_right (by rw [hW_len]; omega), hW_len] at h
      have hz : i - 136 < 1 := (List.getElem?_eq_some_iff.mp h).1
      rw [show i - 136 = 0 by omega] at h
      cases h
      exact Or.inr ⟨by omega, rfl⟩
  refine ⟨fun i j p q hi hj h => ?_, fun k q h => ?_⟩
  · have h1 := key i p hi
    have h2 := key j q hj
    omega
  · have h1 := key k q h
    show G.2.2.2.1 ≤ q.1
    omega
theorem rg_last (C : Cx G X d cc nL own ret) {i : Int32} {j : Nat} {x : Int64} (hi : hIn i 9) (hj : i.toNatClampNeg = j) (hd : decode cc pc = .ok (.lastore, 1)) (hn : pc + 1 = n) (k : Rg G X qa n lv st (vp_updL g j x) m E) : Rg G X qa pc lv (.long x :: .int i :: .ref qa :: st) g m E := by
  obtain ⟨p, e, R, s, mt, args, below, meth, c, cs, sl, Qp⟩ := X
  obtain ⟨hx, hb, hml, how, hts, hK, hr, hlk, hR⟩ := C
  subst hn
  intro ls H locs a m' hl hh hq9 hc9 hS hE
  subst hj
  have h136 : (hW G m ++ [(qa, (.inl (G.2.2.1 3, 9, .inr (.inl g)) : va_E))])[136]? = some (qa, .inl (G.2.2.1 3, 9, .inr (.inl g))) := by
    rw [List.getElem?_append_right (by rw [hW_len]; omega), hW_len]; rfl
  refine va_last hx hb hK.1 (va_P.app hh (hG9_P hc9)) (hW_D9 hq9 _) hS 136 3 h136 rfl (hIn_vp hi) hd (fun H1 locs1 hP1 hD1 hS1 => ?_)
  have eset : ∀ e' : va_E, (hW G m ++ [(qa, (.inl (G.2.2.1 3, 9, .inr (.inl g)) : va_E))]).set 136 (qa, e') = hW G m ++ [(qa, e')] := fun e' => by
    rw [List.set_append_right _ _ (by rw [hW_len]; omega), hW_len]; rfl
  rw [eset] at hP1
  refine k ls H1 locs1 a m' hl (fun i q hq => hP1 i q (by rw [List.getElem?_append_left ((List.getElem?_eq_some_iff.mp hq).1)]; exact hq)) hq9 ?_ hS1 hE
  exact hP1 136 _ (by rw [List.getElem?_append_right (by rw [hW_len]; omega), hW_len]; rfl)
theorem rg_out (k : Rf vI G X pc lv st m E) : Rg G X qa pc lv st g m E := by
  obtain ⟨p, e, R, s, mt, args, below, meth, c, cs, sl, Qp⟩ := X
  intro ls H locs a m' hl hh hq9 hc9 hS hE
  exact k ls H locs a m' hl hh hS hE
end RG
