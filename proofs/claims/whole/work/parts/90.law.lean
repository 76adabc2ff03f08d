/-! ===== the law: its script, its calls ===== -/
/-- the script, and that it lies below the law's own cells -/
def Cs (G : hG) (X : hX) (b L : Nat) (xs : Nat → Int32) : Prop :=
  match X with
  | (_, _, _, s, _, _, _, _, _, _, _, _) => va_X b L xs s s.heap ∧ b < s.heap.size ∧ ¬ G.2.2.2.1 ≤ b
/-- the law's locals in its loop -/
def lwL (G : hG) (b : Nat) (i : Int32) : List (Nat × Value) := [(4, .int i), (3, hA G 135), (2, hA G 96), (1, hA G 0), (0, .ref b)]
section RL1
variable {G : hG} {X : hX} {d : Nat} {cc : ByteArray} {nL : Nat} {own : String} {ret : Option FieldType} {pc n : Nat} {lv : List (Nat × Value)} {st : List Value} {m : hM} {E : Option (Unit × hM)} {b L : Nat} {xs : Nat → Int32}
theorem rl_scr (C : Cx G X d cc nL own ret) {z : Fin 4} {i q : Nat} (hd : decode cc pc = .ok (.aload_n z, 1)) (hn : pc + 1 = n) (hi : (z : Nat) = i) (hq : lv[q]? = some (i, .ref b)) (k : Rf vU G X n lv (.ref b :: st) m E) : Rf vU G X pc lv st m E := by
  obtain ⟨p, e, R, s, mt, args, below, meth, c, cs, sl, Qp⟩ := X
  obtain ⟨hx, hb, hml, how, hts, hK, hr, hlk, hR⟩ := C
  subst hn
  intro ls H locs a m' hl hh hS hE
  exact lv_aload_n hx hb hd hi (lv_at hl q hq) (k ls H locs a m' hl hh hS hE)
theorem rl_sld (C : Cx G X d cc nL own ret) (S : Cs G X b L xs) {i : Int32} (hi : hIn i L) (hd : decode cc pc = .ok (.iaload, 1)) (hn : pc + 1 = n) (k : Rf vU G X n lv (.int (xs i.toNatClampNeg) :: st) m E) : Rf vU G X pc lv (.int i :: .ref b :: st) m E := by
  obtain ⟨p, e, R, s, mt, args, below, meth, c, cs, sl, Qp⟩ := X
  obtain ⟨hx, hb, hml, how, hts, hK, hr, hlk, hR⟩ := C
  obtain ⟨s1, s2, s3⟩ := S
  subst hn
  intro ls H locs a m' hl hh hS hE
  exact va_sld hx hb s1 s2 s3 hS (hIn_vp hi) hd (k ls H locs a m' hl hh hS hE)
theorem rl_slen (C : Cx G X d cc nL own ret) (S : Cs G X b L xs) (hd : decode cc pc = .ok (.arraylength, 1)) (hn : pc + 1 = n) (k : Rf vU G X n lv (.int (Int32.ofNat L) :: st) m E) : Rf vU G X pc lv (.ref b :: st) m E := by
  obtain ⟨p, e, R, s, mt, args, below, meth, c, cs, sl, Qp⟩ := X
  obtain ⟨hx, hb, hml, how, hts, hK, hr, hlk, hR⟩ := C
  obtain ⟨s1, s2, s3⟩ := S
  subst hn
  intro ls H locs a m' hl hh hS hE
  exact va_slen hx hb s1 s2 s3 hS hd (k ls H locs a m' hl hh hS hE)
/-- script[i + j] -/
theorem rl_arg (C : Cx G X d cc nL own ret) (S : Cs G X b L xs) {i v : Int32} {z : Int} {p1 p2 p3 p4 : Nat} (hd1 : decode cc pc = .ok (.aload_n 0, 1)) (hd2 : decode cc p1 = .ok (.iload 4, 2)) (hd3 : decode cc p2 = .ok (.iconst z, 1)) (hd4 : decode cc p3 = .ok (.iadd, 1)) (hd5 : decode cc p4 = .ok (.iaload, 1)) (h1 : pc + 1 = p1) (h2 : p1 + 2 = p2) (h3 : p2 + 1 = p3) (h4 : p3 + 1 = p4) (h5 : p4 + 1 = n) (hz : Int32.ofInt z = v) (hi : hIn (i + v) L) (k : Rf vU G X n (lwL G b i) (.int (xs (i + v).toNatClampNeg) :: st) m E) : Rf vU G X pc (lwL G b i) st m E := by
  refine rl_scr C (n := p1) (b := b) (q := 4) hd1 h1 rfl rfl ?_
  refine rf_iload C (n := p2) (q := 0) (x := i) hd2 h2 rfl ?_
  refine rf_iconst C (n := p3) (v := v) hd3 h3 hz ?_
  refine rf_iadd C (n := p4) hd4 h4 ?_
  exact rl_sld C S hi hd5 h5 k
theorem rl_callVi (C : Cx G X d cc nL own ret) {idx k ci d' maxL nA : Nat} {y : MethodName} {bytes : ByteArray} {ret' : Option FieldType} {Cn : String} {T : u_T} {N : Nat} {ks : List hKd} {As st0 : List Value} {E1 : Option (Int32 × hM)} {r : Int32} {m1 : hM} (hMt : Mt vI G d' y bytes maxL ret' (hA G k :: As) m E1) (hE1 : E1 = some (r, m1)) (hw : hCV own idx Cn y bytes maxL ret' nA) (hy : LY[k]? = some (.inl (ci, ks))) (hc : vwCl[ci]? = some (Cn, T, N)) (hdd : d' + 1 ≤ d ∧ maxL ≤ 41) (hAs : As.length = nA) (hsum : (st.map fun v => v.category).sum ≤ 8) (hst : st0 = As.reverse ++ hA G k :: st) (hd : decode cc pc = .ok (.invokevirtual idx, 3)) (hn : pc + 3 = n) (kk : Rf vU G X n lv (.int r :: st) m1 E) : Rf vU G X pc lv st0 m E := by
  have h := rf_callVi (vl := vU) C (F := fun b m2 => @ite _ (b = r ∧ m2 = m1) (Classical.propDecidable _) E none) hMt hw hy hc hdd hAs hsum hst hd hn (fun b m2 => by
    by_cases q : b = r ∧ m2 = m1
    · rw [if_pos q, q.1, q.2]; exact kk
    · rw [if_neg q]; exact rf_none)
  rw [hE1] at h
  exact rf_eq (by show E = @ite _ (r = r ∧ m1 = m1) (Classical.propDecidable _) E none; rw [if_pos ⟨rfl, rfl⟩]) h
theorem rl_callZi (C : Cx G X d cc nL own ret) (Z : Cz G X) {idx k ci d' maxL nA : Nat} {y : MethodName} {bytes : ByteArray} {ret' : Option FieldType} {Cn : String} {T : u_T} {N : Nat} {ks : List hKd} {As st0 : List Value} {E1 : Option (Int32 × hM)} {r : Int32} {m1 : hM} (hMt : Mt2 vI G d' y bytes maxL ret' (hA G k :: As) m E1) (hE1 : E1 = some (r, m1)) (hw : hCV own idx Cn y bytes maxL ret' nA) (hy : LY[k]? = some (.inl (ci, ks))) (hc : vwCl[ci]? = some (Cn, T, N)) (hdd : d' + 1 ≤ d ∧ maxL ≤ 41) (hAs : As.length = nA) (hsum : (st.map fun v => v.category).sum ≤ 8) (hst : st0 = As.reverse ++ hA G k :: st) (hd : decode cc pc = .ok (.invokevirtual idx, 3)) (hn : pc + 3 = n) (kk : Rf vU G X n lv (.int r :: st) m1 E) : Rf vU G X pc lv st0 m E := by
  have h := rz_callVi (vl := vU) C Z (F := fun b m2 => @ite _ (b = r ∧ m2 = m1) (Classical.propDecidable _) E none) hMt hw hy hc hdd hAs hsum hst hd hn (fun b m2 => by
    by_cases q : b = r ∧ m2 = m1
    · rw [if_pos q, q.1, q.2]; exact kk
    · rw [if_neg q]; exact rf_none)
  rw [hE1] at h
  exact rf_eq (by show E = @ite _ (r = r ∧ m1 = m1) (Classical.propDecidable _) E none; rw [if_pos ⟨rfl, rfl⟩]) h
theorem rl_eqT (C : Cx G X d cc nL own ret) {x : Int32} {off : Int} (hd : decode cc pc = .ok (.if_icmp .eq off, 3)) (ht : (pc : Int) + off = (n : Int)) (k : Rf vU G X n lv st m E) : Rf vU G X pc lv (.int x :: .int x :: st) m E := by
  have h := rf_icmp_eq (vl := vU) (X := X) (x := x) (y := x) (lv := lv) (st := st) (m := m) (E1 := E) (E2 := none) (hdec := inferInstance) C hd ht rfl (fun _ => k) (fun q => absurd rfl q)
  exact rf_eq (by rw [if_pos rfl]) h
theorem rl_ifT (C : Cx G X d cc nL own ret) {x : Int32} {off : Int} (hx0 : x = 0) (hd : decode cc pc = .ok (.ifCond .eq off, 3)) (ht : (pc : Int) + off = (n : Int)) (k : Rf vU G X n lv st m E) : Rf vU G X pc lv (.int x :: st) m E := by
  have h := rf_if_eq (vl := vU) (X := X) (x := x) (lv := lv) (st := st) (m := m) (E1 := E) (E2 := none) (hdec := inferInstance) C hd ht rfl (fun _ => k) (fun q => absurd hx0 q)
  exact rf_eq (by rw [if_pos hx0]) h
theorem rl_ifF (C : Cx G X d cc nL own ret) {x : Int32} {off : Int} {tgt : Nat} (hx0 : ¬ x = 0) (hd : decode cc pc = .ok (.ifCond .eq off, 3)) (ht : (pc : Int) + off = (tgt : Int)) (hn : pc + 3 = n) (k : Rf vU G X n lv st m E) : Rf vU G X pc lv (.int x :: st) m E := by
  have h := rf_if_eq (vl := vU) (X := X) (x := x) (lv := lv) (st := st) (m := m) (E1 := none) (E2 := E) (hdec := inferInstance) C hd ht hn (fun q => absurd q hx0) (fun _ => k)
  exact rf_eq (by rw [if_neg hx0]) h
end RL1
