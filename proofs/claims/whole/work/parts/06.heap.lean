/-! ===== rows of fields, arrays, calls and returns ===== -/
theorem tb_GoodC {y : MethodName} {bytes : ByteArray} {maxL : Nat} {ret : Option FieldType} (h : Cond.code y bytes maxL ret ∈ lw_tb) : GoodIn lw_tb (Cond.code y bytes maxL ret :: lw_tb) := by
  intro w hw
  rcases List.mem_cons.mp hw with rfl | h2
  · exact ⟨h, good_of_word (List.mem_filter.mp h).2⟩
  · exact ⟨h2, good_of_word (List.mem_filter.mp h2).2⟩
theorem mI_off {m : hM} {k j : Nat} {v : Int32} : ∀ i, i ≠ k → (sI m k j v).1 i = m.1 i ∧ (sI m k j v).2.1 i = m.2.1 i ∧ (sI m k j v).2.2 i = m.2.2 i := by
  intro i hi
  refine ⟨?_, rfl, rfl⟩
  funext b
  show (if i = k ∧ b = j then v else m.1 i b) = m.1 i b
  rw [if_neg (fun h => hi h.1)]
theorem mL_off {m : hM} {k j : Nat} {v : Int64} : ∀ i, i ≠ k → (sL m k j v).1 i = m.1 i ∧ (sL m k j v).2.1 i = m.2.1 i ∧ (sL m k j v).2.2 i = m.2.2 i := by
  intro i hi
  refine ⟨rfl, ?_, rfl⟩
  funext b
  show (if i = k ∧ b = j then v else m.2.1 i b) = m.2.1 i b
  rw [if_neg (fun h => hi h.1)]
theorem mR_off {m : hM} {k j : Nat} {v : Nat} : ∀ i, i ≠ k → (sR m k j v).1 i = m.1 i ∧ (sR m k j v).2.1 i = m.2.1 i ∧ (sR m k j v).2.2 i = m.2.2 i := by
  intro i hi
  refine ⟨rfl, rfl, ?_⟩
  funext b
  show (if i = k ∧ b = j then v else m.2.2 i b) = m.2.2 i b
  rw [if_neg (fun h => hi h.1)]
theorem cp_off {m : hM} {a sp b dp n : Nat} : ∀ i, i ≠ b → (cpI m a sp b dp n).1 i = m.1 i ∧ (cpI m a sp b dp n).2.1 i = m.2.1 i ∧ (cpI m a sp b dp n).2.2 i = m.2.2 i := by
  intro i hi
  refine ⟨?_, rfl, rfl⟩
  funext y
  show (if i = b then _ else m.1 i y) = m.1 i y
  rw [if_neg hi]
theorem hV_offI {base : Nat} {m : hM} {k j : Nat} {v : Int32} (i : Nat) (q : hKd) (h : i ≠ j) : hV base (sI m k j v) k i q = hV base m k i q := by
  have e : gI (sI m k j v) k i = gI m k i := by rw [gI_sI, if_neg (fun z => h z.2)]
  unfold hV
  rw [e, gL_sI, gR_sI]
theorem hV_offL {base : Nat} {m : hM} {k j : Nat} {v : Int64} (i : Nat) (q : hKd) (h : i ≠ j) : hV base (sL m k j v) k i q = hV base m k i q := by
  have e : gL (sL m k j v) k i = gL m k i := by rw [gL_sL, if_neg (fun z => h z.2)]
  unfold hV
  rw [e, gI_sL, gR_sL]
theorem hV_offR {base : Nat} {m : hM} {k j : Nat} {v : Nat} (i : Nat) (q : hKd) (h : i ≠ j) : hV base (sR m k j v) k i q = hV base m k i q := by
  have e : gR (sR m k j v) k i = gR m k i := by rw [gR_sR, if_neg (fun z => h z.2)]
  unfold hV
  rw [e, gI_sR, gL_sR]
section RFH
variable {α : Type} {vl : α → Option Value} {G : hG} {X : hX} {d : Nat} {cc : ByteArray} {nL : Nat} {own : String} {ret : Option FieldType} {pc n : Nat} {lv : List (Nat × Value)} {st : List Value} {m : hM} {E E1 E2 : Option (α × hM)}

theorem rf_getI (C : Cx G X d cc nL own ret) {idx ci j k : Nat} {ks : List hKd} (hf : hFl own idx ci j) (hy : LY[k]? = some (.inl (ci, ks))) (hj : ks[j]? = some (.inr 0)) (hd : decode cc pc = .ok (.getfield idx, 3)) (hn : pc + 3 = n) (kk : Rf vl G X n lv (.int (gI m k j) :: st) m E) : Rf vl G X pc lv (hA G k :: st) m E := by
  obtain ⟨p, e, R, s, mt, args, below, meth, c, cs, sl, Qp⟩ := X
  obtain ⟨hx, hb, hml, how, hts, hK, hr, hlk, hR⟩ := C
  subst hn
  intro ls H locs a m' hl hh hS hE
  obtain ⟨Cn, T, N, hc, hin, hjN, hlk2⟩ := hf
  have he : (hW G m)[k]? = some (G.2.2.2.1 + k, .inr (ci, ks.mapIdx (fun i q => hV G.2.2.2.1 m k i q))) := hW_get hy
  have hv : (ks.mapIdx (fun i q => hV G.2.2.2.1 m k i q))[j]? = some (.int (gI m k j)) := by rw [List.getElem?_mapIdx, hj]; rfl
  exact va_get hx hb hts hin how hK.1 hh k he hc j hjN (hts _ hlk2) (fun _ h9 => h9) hv hd (kk ls H locs a m' hl hh hS hE)
theorem rf_getL (C : Cx G X d cc nL own ret) {idx ci j k : Nat} {ks : List hKd} (hf : hFl own idx ci j) (hy : LY[k]? = some (.inl (ci, ks))) (hj : ks[j]? = some (.inr 1)) (hd : decode cc pc = .ok (.getfield idx, 3)) (hn : pc + 3 = n) (kk : Rf vl G X n lv (.long (gL m k j) :: st) m E) : Rf vl G X pc lv (hA G k :: st) m E := by
  obtain ⟨p, e, R, s, mt, args, below, meth, c, cs, sl, Qp⟩ := X
  obtain ⟨hx, hb, hml, how, hts, hK, hr, hlk, hR⟩ := C
  subst hn
  intro ls H locs a m' hl hh hS hE
  obtain ⟨Cn, T, N, hc, hin, hjN, hlk2⟩ := hf
  have he : (hW G m)[k]? = some (G.2.2.2.1 + k, .inr (ci, ks.mapIdx (fun i q => hV G.2.2.2.1 m k i q))) := hW_get hy
  have hv : (ks.mapIdx (fun i q => hV G.2.2.2.1 m k i q))[j]? = some (.long (gL m k j)) := by rw [List.getElem?_mapIdx, hj]; rfl
  exact va_get hx hb hts hin how hK.1 hh k he hc j hjN (hts _ hlk2) (fun _ h9 => h9) hv hd (kk ls H locs a m' hl hh hS hE)
theorem rf_getR (C : Cx G X d cc nL own ret) {idx ci j k : Nat} {ks : List hKd} (hf : hFl own idx ci j) (hy : LY[k]? = some (.inl (ci, ks))) (hj : ks[j]? = some (.inr 2)) (hd : decode cc pc = .ok (.getfield idx, 3)) (hn : pc + 3 = n) (kk : Rf vl G X n lv (hA G (gR m k j) :: st) m E) : Rf vl G X pc lv (hA G k :: st) m E := by
  obtain ⟨p, e, R, s, mt, args, below, meth, c, cs, sl, Qp⟩ := X
  obtain ⟨hx, hb, hml, how, hts, hK, hr, hlk, hR⟩ := C
  subst hn
  intro ls H locs a m' hl hh hS hE
  obtain ⟨Cn, T, N, hc, hin, hjN, hlk2⟩ := hf
  have he : (hW G m)[k]? = some (G.2.2.2.1 + k, .inr (ci, ks.mapIdx (fun i q => hV G.2.2.2.1 m k i q))) := hW_get hy
  have hv : (ks.mapIdx (fun i q => hV G.2.2.2.1 m k i q))[j]? = some (hA G (gR m k j)) := by rw [List.getElem?_mapIdx, hj]; rfl
  exact va_get hx hb hts hin how hK.1 hh k he hc j hjN (hts _ hlk2) (fun _ h9 => h9) hv hd (kk ls H locs a m' hl hh hS hE)
theorem rf_getS (C : Cx G X d cc nL own ret) {idx ci j k : Nat} {ks : List hKd} {r : Nat} (hf : hFl own idx ci j) (hy : LY[k]? = some (.inl (ci, ks))) (hj : ks[j]? = some (.inl (some r))) (hd : decode cc pc = .ok (.getfield idx, 3)) (hn : pc + 3 = n) (kk : Rf vl G X n lv (hA G r :: st) m E) : Rf vl G X pc lv (hA G k :: st) m E := by
  obtain ⟨p, e, R, s, mt, args, below, meth, c, cs, sl, Qp⟩ := X
  obtain ⟨hx, hb, hml, how, hts, hK, hr, hlk, hR⟩ := C
  subst hn
  intro ls H locs a m' hl hh hS hE
  obtain ⟨Cn, T, N, hc, hin, hjN, hlk2⟩ := hf
  have he : (hW G m)[k]? = some (G.2.2.2.1 + k, .inr (ci, ks.mapIdx (fun i q => hV G.2.2.2.1 m k i q))) := hW_get hy
  have hv : (ks.mapIdx (fun i q => hV G.2.2.2.1 m k i q))[j]? = some (hA G r) := by rw [List.getElem?_mapIdx, hj]; rfl
  exact va_get hx hb hts hin how hK.1 hh k he hc j hjN (hts _ hlk2) (fun _ h9 => h9) hv hd (kk ls H locs a m' hl hh hS hE)
theorem rf_putI (C : Cx G X d cc nL own ret) {idx ci j k : Nat} {ks : List hKd} {ty : FieldType} {x : Int32} (hf : hPl own idx ci j ty) (hy : LY[k]? = some (.inl (ci, ks))) (hj : ks[j]? = some (.inr 0)) (hz : narrow ty (.int x) = .int x ∧ fits ty (.int x) = true) (hd : decode cc pc = .ok (.putfield idx, 3)) (hn : pc + 3 = n) (kk : Rf vl G X n lv st (sI m k j x) E) : Rf vl G X pc lv (Value.int x :: hA G k :: st) m E := by
  obtain ⟨p, e, R, s, mt, args, below, meth, c, cs, sl, Qp⟩ := X
  obtain ⟨hx, hb, hml, how, hts, hK, hr, hlk, hR⟩ := C
  subst hn
  intro ls H locs a m' hl hh hS hE
  obtain ⟨Cn, T, N, ty0, hc, hin, hjN, hlk2, hfin, hty, hnm, hdd⟩ := hf
  have he : (hW G m)[k]? = some (G.2.2.2.1 + k, .inr (ci, ks.mapIdx (fun i q => hV G.2.2.2.1 m k i q))) := hW_get hy
  have hlen : j < (ks.mapIdx (fun i q => hV G.2.2.2.1 m k i q)).length := by rw [List.length_mapIdx]; exact (List.getElem?_eq_some_iff.mp hj).1
  have hset : (ks.mapIdx (fun i q => hV G.2.2.2.1 m k i q)).set j (Value.int x) = ks.mapIdx (fun i q => hV G.2.2.2.1 (sI m k j x) k i q) := by
    have ho : ∀ (i : Nat) (q : hKd), i ≠ j → hV G.2.2.2.1 (sI m k j x) k i q = hV G.2.2.2.1 m k i q := fun i q h => hV_offI i q h
    have hq : ∀ q, ks[j]? = some q → hV G.2.2.2.1 (sI m k j x) k j q = (Value.int x) := by
      intro q hq
      rw [hj] at hq
      cases hq
      show _ = _
      simp [hV, gI_sI, hA]
    exact mapIdx_set hq ho
  refine va_put hx hb hts hin ty0 hty hnm how hK.1 hh (hW_D G m) hS k he hc j hjN (hts _ hlk2) (fun _ h9 => h9) hfin hdd hz.1 hz.2 hlen hd (fun H1 locs1 hP1 hD1 hS1 => ?_)
  rw [hset] at hP1
  have e2 : (hW G m).set k (G.2.2.2.1 + k, .inr (ci, ks.mapIdx (fun i q => hV G.2.2.2.1 (sI m k j x) k i q))) = hW G (sI m k j x) := hW_set (m' := sI m k j x) (s := .inl (ci, ks)) hy mI_off
  rw [e2] at hP1
  exact kk ls H1 locs1 a m' hl hP1 hS1 hE
theorem rf_putL (C : Cx G X d cc nL own ret) {idx ci j k : Nat} {ks : List hKd} {ty : FieldType} {x : Int64} (hf : hPl own idx ci j ty) (hy : LY[k]? = some (.inl (ci, ks))) (hj : ks[j]? = some (.inr 1)) (hz : narrow ty (.long x) = .long x ∧ fits ty (.long x) = true) (hd : decode cc pc = .ok (.putfield idx, 3)) (hn : pc + 3 = n) (kk : Rf vl G X n lv st (sL m k j x) E) : Rf vl G X pc lv (Value.long x :: hA G k :: st) m E := by
  obtain ⟨p, e, R, s, mt, args, below, meth, c, cs, sl, Qp⟩ := X
  obtain ⟨hx, hb, hml, how, hts, hK, hr, hlk, hR⟩ := C
  subst hn
  intro ls H locs a m' hl hh hS hE
  obtain ⟨Cn, T, N, ty0, hc, hin, hjN, hlk2, hfin, hty, hnm, hdd⟩ := hf
  have he : (hW G m)[k]? = some (G.2.2.2.1 + k, .inr (ci, ks.mapIdx (fun i q => hV G.2.2.2.1 m k i q))) := hW_get hy
  have hlen : j < (ks.mapIdx (fun i q => hV G.2.2.2.1 m k i q)).length := by rw [List.length_mapIdx]; exact (List.getElem?_eq_some_iff.mp hj).1
  have hset : (ks.mapIdx (fun i q => hV G.2.2.2.1 m k i q)).set j (Value.long x) = ks.mapIdx (fun i q => hV G.2.2.2.1 (sL m k j x) k i q) := by
    have ho : ∀ (i : Nat) (q : hKd), i ≠ j → hV G.2.2.2.1 (sL m k j x) k i q = hV G.2.2.2.1 m k i q := fun i q h => hV_offL i q h
    have hq : ∀ q, ks[j]? = some q → hV G.2.2.2.1 (sL m k j x) k j q = (Value.long x) := by
      intro q hq
      rw [hj] at hq
      cases hq
      show _ = _
      simp [hV, gL_sL, hA]
    exact mapIdx_set hq ho
  refine va_put hx hb hts hin ty0 hty hnm how hK.1 hh (hW_D G m) hS k he hc j hjN (hts _ hlk2) (fun _ h9 => h9) hfin hdd hz.1 hz.2 hlen hd (fun H1 locs1 hP1 hD1 hS1 => ?_)
  rw [hset] at hP1
  have e2 : (hW G m).set k (G.2.2.2.1 + k, .inr (ci, ks.mapIdx (fun i q => hV G.2.2.2.1 (sL m k j x) k i q))) = hW G (sL m k j x) := hW_set (m' := sL m k j x) (s := .inl (ci, ks)) hy mL_off
  rw [e2] at hP1
  exact kk ls H1 locs1 a m' hl hP1 hS1 hE
theorem rf_putR (C : Cx G X d cc nL own ret) {idx ci j k : Nat} {ks : List hKd} {ty : FieldType} {x : Nat} (hf : hPl own idx ci j ty) (hy : LY[k]? = some (.inl (ci, ks))) (hj : ks[j]? = some (.inr 2)) (hz : narrow ty (hA G x) = hA G x ∧ fits ty (hA G x) = true) (hd : decode cc pc = .ok (.putfield idx, 3)) (hn : pc + 3 = n) (kk : Rf vl G X n lv st (sR m k j x) E) : Rf vl G X pc lv (hA G x :: hA G k :: st) m E := by
  obtain ⟨p, e, R, s, mt, args, below, meth, c, cs, sl, Qp⟩ := X
  obtain ⟨hx, hb, hml, how, hts, hK, hr, hlk, hR⟩ := C
  subst hn
  intro ls H locs a m' hl hh hS hE
  obtain ⟨Cn, T, N, ty0, hc, hin, hjN, hlk2, hfin, hty, hnm, hdd⟩ := hf
  have he : (hW G m)[k]? = some (G.2.2.2.1 + k, .inr (ci, ks.mapIdx (fun i q => hV G.2.2.2.1 m k i q))) := hW_get hy
  have hlen : j < (ks.mapIdx (fun i q => hV G.2.2.2.1 m k i q)).length := by rw [List.length_mapIdx]; exact (List.getElem?_eq_some_iff.mp hj).1
  have hset : (ks.mapIdx (fun i q => hV G.2.2.2.1 m k i q)).set j (hA G x) = ks.mapIdx (fun i q => hV G.2.2.2.1 (sR m k j x) k i q) := by
    have ho : ∀ (i : Nat) (q : hKd), i ≠ j → hV G.2.2.2.1 (sR m k j x) k i q = hV G.2.2.2.1 m k i q := fun i q h => hV_offR i q h
    have hq : ∀ q, ks[j]? = some q → hV G.2.2.2.1 (sR m k j x) k j q = (hA G x) := by
      intro q hq
      rw [hj] at hq
      cases hq
      show _ = _
      simp [hV, gR_sR, hA]
    exact mapIdx_set hq ho
  refine va_put hx hb hts hin ty0 hty hnm how hK.1 hh (hW_D G m) hS k he hc j hjN (hts _ hlk2) (fun _ h9 => h9) hfin hdd hz.1 hz.2 hlen hd (fun H1 locs1 hP1 hD1 hS1 => ?_)
  rw [hset] at hP1
  have e2 : (hW G m).set k (G.2.2.2.1 + k, .inr (ci, ks.mapIdx (fun i q => hV G.2.2.2.1 (sR m k j x) k i q))) = hW G (sR m k j x) := hW_set (m' := sR m k j x) (s := .inl (ci, ks)) hy mR_off
  rw [e2] at hP1
  exact kk ls H1 locs1 a m' hl hP1 hS1 hE
theorem rf_iald (C : Cx G X d cc nL own ret) {k N j : Nat} {i : Int32} (hy : LY[k]? = some (.inr (.inl (0, N)))) (hi : hIn i N) (hj : i.toNatClampNeg = j) (hd : decode cc pc = .ok (.iaload, 1)) (hn : pc + 1 = n) (kk : Rf vl G X n lv (.int (gI m k j) :: st) m E) : Rf vl G X pc lv (.int i :: hA G k :: st) m E := by
  obtain ⟨p, e, R, s, mt, args, below, meth, c, cs, sl, Qp⟩ := X
  obtain ⟨hx, hb, hml, how, hts, hK, hr, hlk, hR⟩ := C
  subst hn
  intro ls H locs a m' hl hh hS hE
  subst hj
  have he : (hW G m)[k]? = some (G.2.2.2.1 + k, .inl (G.2.2.1 0, N, .inl (gI m k))) := hW_get hy
  exact va_iald hx hb hK.1 hh k 0 he rfl (hIn_vp hi) hd (kk ls H locs a m' hl hh hS hE)
theorem rf_zald (C : Cx G X d cc nL own ret) {k N j : Nat} {i : Int32} (hy : LY[k]? = some (.inr (.inl (1, N)))) (hi : hIn i N) (hj : i.toNatClampNeg = j) (hd : decode cc pc = .ok (.baload, 1)) (hn : pc + 1 = n) (kk : Rf vl G X n lv (.int (gI m k j) :: st) m E) : Rf vl G X pc lv (.int i :: hA G k :: st) m E := by
  obtain ⟨p, e, R, s, mt, args, below, meth, c, cs, sl, Qp⟩ := X
  obtain ⟨hx, hb, hml, how, hts, hK, hr, hlk, hR⟩ := C
  subst hn
  intro ls H locs a m' hl hh hS hE
  subst hj
  have he : (hW G m)[k]? = some (G.2.2.2.1 + k, .inl (G.2.2.1 1, N, .inl (gI m k))) := hW_get hy
  exact va_zald hx hb hK.1 hh k 1 he rfl (hIn_vp hi) hd (kk ls H locs a m' hl hh hS hE)
theorem rf_cald (C : Cx G X d cc nL own ret) {k N j : Nat} {i : Int32} (hy : LY[k]? = some (.inr (.inl (2, N)))) (hi : hIn i N) (hj : i.toNatClampNeg = j) (hd : decode cc pc = .ok (.caload, 1)) (hn : pc + 1 = n) (kk : Rf vl G X n lv (.int (gI m k j) :: st) m E) : Rf vl G X pc lv (.int i :: hA G k :: st) m E := by
  obtain ⟨p, e, R, s, mt, args, below, meth, c, cs, sl, Qp⟩ := X
  obtain ⟨hx, hb, hml, how, hts, hK, hr, hlk, hR⟩ := C
  subst hn
  intro ls H locs a m' hl hh hS hE
  subst hj
  have he : (hW G m)[k]? = some (G.2.2.2.1 + k, .inl (G.2.2.1 2, N, .inl (gI m k))) := hW_get hy
  exact va_cald hx hb hK.1 hh k 2 he rfl (hIn_vp hi) hd (kk ls H locs a m' hl hh hS hE)
theorem rf_lald (C : Cx G X d cc nL own ret) {k N j : Nat} {i : Int32} (hy : LY[k]? = some (.inr (.inl (3, N)))) (hi : hIn i N) (hj : i.toNatClampNeg = j) (hd : decode cc pc = .ok (.laload, 1)) (hn : pc + 1 = n) (kk : Rf vl G X n lv (.long (gL m k j) :: st) m E) : Rf vl G X pc lv (.int i :: hA G k :: st) m E := by
  obtain ⟨p, e, R, s, mt, args, below, meth, c, cs, sl, Qp⟩ := X
  obtain ⟨hx, hb, hml, how, hts, hK, hr, hlk, hR⟩ := C
  subst hn
  intro ls H locs a m' hl hh hS hE
  subst hj
  have he : (hW G m)[k]? = some (G.2.2.2.1 + k, .inl (G.2.2.1 3, N, .inr (.inl (gL m k)))) := hW_get hy
  exact va_lald hx hb hK.1 hh k 3 he rfl (hIn_vp hi) hd (kk ls H locs a m' hl hh hS hE)
theorem rf_hald (C : Cx G X d cc nL own ret) {k N j : Nat} {i : Int32} (hy : LY[k]? = some (.inr (.inl (6, N)))) (hi : hIn i N) (hj : i.toNatClampNeg = j) (hd : decode cc pc = .ok (.laload, 1)) (hn : pc + 1 = n) (kk : Rf vl G X n lv (.long (gH m k j) :: st) m E) : Rf vl G X pc lv (.int i :: hA G k :: st) m E := by
  obtain ⟨p, e, R, s, mt, args, below, meth, c, cs, sl, Qp⟩ := X
  obtain ⟨hx, hb, hml, how, hts, hK, hr, hlk, hR⟩ := C
  subst hn
  intro ls H locs a m' hl hh hS hE
  subst hj
  have he : (hW G m)[k]? = some (G.2.2.2.1 + k, .inl (G.2.2.1 3, N, .inr (.inl (gH m k)))) := hW_get hy
  exact va_lald hx hb hK.1 hh k 3 he rfl (hIn_vp hi) hd (kk ls H locs a m' hl hh hS hE)
theorem rf_iast (C : Cx G X d cc nL own ret) {k N j0 : Nat} {i : Int32} {x : Int32} (hy : LY[k]? = some (.inr (.inl (0, N)))) (hi : hIn i N) (hj0 : i.toNatClampNeg = j0) (hd : decode cc pc = .ok (.iastore, 1)) (hn : pc + 1 = n) (kk : Rf vl G X n lv st (sI m k j0 x) E) : Rf vl G X pc lv (.int x :: .int i :: hA G k :: st) m E := by
  obtain ⟨p, e, R, s, mt, args, below, meth, c, cs, sl, Qp⟩ := X
  obtain ⟨hx, hb, hml, how, hts, hK, hr, hlk, hR⟩ := C
  subst hn
  intro ls H locs a m' hl hh hS hE
  subst hj0
  have he : (hW G m)[k]? = some (G.2.2.2.1 + k, .inl (G.2.2.1 0, N, .inl (gI m k))) := hW_get hy
  refine va_iast hx hb hK.1 hh (hW_D G m) hS k 0 he rfl (hIn_vp hi) hd (fun H1 locs1 hP1 hD1 hS1 => ?_)
  have e1 : upd (gI m k) i.toNatClampNeg x = gI (sI m k i.toNatClampNeg x) k := by
    funext j
    show _ = (if k = k ∧ j = i.toNatClampNeg then _ else _)
    by_cases hj : j = i.toNatClampNeg
    · rw [if_pos ⟨rfl, hj⟩, hj]
      simp [upd, vp_updL]
    · rw [if_neg (fun h => hj h.2)]
      simp [upd, vp_updL, hj, gI]
  rw [e1] at hP1
  have e2 : (hW G m).set k (G.2.2.2.1 + k, .inl (G.2.2.1 0, N, .inl (gI (sI m k i.toNatClampNeg x) k))) = hW G (sI m k i.toNatClampNeg x) := hW_set (m' := (sI m k i.toNatClampNeg x)) (s := .inr (.inl (0, N))) hy mI_off
  rw [e2] at hP1
  exact kk ls H1 locs1 a m' hl hP1 hS1 hE
theorem rf_zast (C : Cx G X d cc nL own ret) {k N j0 : Nat} {i : Int32} {x : Int32} (hy : LY[k]? = some (.inr (.inl (1, N)))) (hi : hIn i N) (hj0 : i.toNatClampNeg = j0) (hd : decode cc pc = .ok (.bastore, 1)) (hn : pc + 1 = n) (kk : Rf vl G X n lv st (sI m k j0 (vp_nar .boolean x)) E) : Rf vl G X pc lv (.int x :: .int i :: hA G k :: st) m E := by
  obtain ⟨p, e, R, s, mt, args, below, meth, c, cs, sl, Qp⟩ := X
  obtain ⟨hx, hb, hml, how, hts, hK, hr, hlk, hR⟩ := C
  subst hn
  intro ls H locs a m' hl hh hS hE
  subst hj0
  have he : (hW G m)[k]? = some (G.2.2.2.1 + k, .inl (G.2.2.1 1, N, .inl (gI m k))) := hW_get hy
  refine va_zast hx hb hK.1 hh (hW_D G m) hS k 1 he rfl (hIn_vp hi) hd (fun H1 locs1 hP1 hD1 hS1 => ?_)
  have e1 : upd (gI m k) i.toNatClampNeg (vp_nar .boolean x) = gI (sI m k i.toNatClampNeg (vp_nar .boolean x)) k := by
    funext j
    show _ = (if k = k ∧ j = i.toNatClampNeg then _ else _)
    by_cases hj : j = i.toNatClampNeg
    · rw [if_pos ⟨rfl, hj⟩, hj]
      simp [upd, vp_updL]
    · rw [if_neg (fun h => hj h.2)]
      simp [upd, vp_updL, hj, gI]
  rw [e1] at hP1
  have e2 : (hW G m).set k (G.2.2.2.1 + k, .inl (G.2.2.1 1, N, .inl (gI (sI m k i.toNatClampNeg (vp_nar .boolean x)) k))) = hW G (sI m k i.toNatClampNeg (vp_nar .boolean x)) := hW_set (m' := (sI m k i.toNatClampNeg (vp_nar .boolean x))) (s := .inr (.inl (1, N))) hy mI_off
  rw [e2] at hP1
  exact kk ls H1 locs1 a m' hl hP1 hS1 hE
theorem rf_cast (C : Cx G X d cc nL own ret) {k N j0 : Nat} {i : Int32} {x : Int32} (hy : LY[k]? = some (.inr (.inl (2, N)))) (hi : hIn i N) (hj0 : i.toNatClampNeg = j0) (hd : decode cc pc = .ok (.castore, 1)) (hn : pc + 1 = n) (kk : Rf vl G X n lv st (sI m k j0 (vp_nar .char x)) E) : Rf vl G X pc lv (.int x :: .int i :: hA G k :: st) m E := by
  obtain ⟨p, e, R, s, mt, args, below, meth, c, cs, sl, Qp⟩ := X
  obtain ⟨hx, hb, hml, how, hts, hK, hr, hlk, hR⟩ := C
  subst hn
  intro ls H locs a m' hl hh hS hE
  subst hj0
  have he : (hW G m)[k]? = some (G.2.2.2.1 + k, .inl (G.2.2.1 2, N, .inl (gI m k))) := hW_get hy
  refine va_cast hx hb hK.1 hh (hW_D G m) hS k 2 he rfl (hIn_vp hi) hd (fun H1 locs1 hP1 hD1 hS1 => ?_)
  have e1 : upd (gI m k) i.toNatClampNeg (vp_nar .char x) = gI (sI m k i.toNatClampNeg (vp_nar .char x)) k := by
    funext j
    show _ = (if k = k ∧ j = i.toNatClampNeg then _ else _)
    by_cases hj : j = i.toNatClampNeg
    · rw [if_pos ⟨rfl, hj⟩, hj]
      simp [upd, vp_updL]
    · rw [if_neg (fun h => hj h.2)]
      simp [upd, vp_updL, hj, gI]
  rw [e1] at hP1
  have e2 : (hW G m).set k (G.2.2.2.1 + k, .inl (G.2.2.1 2, N, .inl (gI (sI m k i.toNatClampNeg (vp_nar .char x)) k))) = hW G (sI m k i.toNatClampNeg (vp_nar .char x)) := hW_set (m' := (sI m k i.toNatClampNeg (vp_nar .char x))) (s := .inr (.inl (2, N))) hy mI_off
  rw [e2] at hP1
  exact kk ls H1 locs1 a m' hl hP1 hS1 hE
theorem rf_last (C : Cx G X d cc nL own ret) {k N j0 : Nat} {i : Int32} {x : Int64} (hy : LY[k]? = some (.inr (.inl (3, N)))) (hi : hIn i N) (hj0 : i.toNatClampNeg = j0) (hd : decode cc pc = .ok (.lastore, 1)) (hn : pc + 1 = n) (kk : Rf vl G X n lv st (sL m k j0 x) E) : Rf vl G X pc lv (.long x :: .int i :: hA G k :: st) m E := by
  obtain ⟨p, e, R, s, mt, args, below, meth, c, cs, sl, Qp⟩ := X
  obtain ⟨hx, hb, hml, how, hts, hK, hr, hlk, hR⟩ := C
  subst hn
  intro ls H locs a m' hl hh hS hE
  subst hj0
  have he : (hW G m)[k]? = some (G.2.2.2.1 + k, .inl (G.2.2.1 3, N, .inr (.inl (gL m k)))) := hW_get hy
  refine va_last hx hb hK.1 hh (hW_D G m) hS k 3 he rfl (hIn_vp hi) hd (fun H1 locs1 hP1 hD1 hS1 => ?_)
  have e1 : vp_updL (gL m k) i.toNatClampNeg x = gL (sL m k i.toNatClampNeg x) k := by
    funext j
    show _ = (if k = k ∧ j = i.toNatClampNeg then _ else _)
    by_cases hj : j = i.toNatClampNeg
    · rw [if_pos ⟨rfl, hj⟩, hj]
      simp [upd, vp_updL]
    · rw [if_neg (fun h => hj h.2)]
      simp [upd, vp_updL, hj, gL]
  rw [e1] at hP1
  have e2 : (hW G m).set k (G.2.2.2.1 + k, .inl (G.2.2.1 3, N, .inr (.inl (gL (sL m k i.toNatClampNeg x) k)))) = hW G (sL m k i.toNatClampNeg x) := hW_set (m' := (sL m k i.toNatClampNeg x)) (s := .inr (.inl (3, N))) hy mL_off
  rw [e2] at hP1
  exact kk ls H1 locs1 a m' hl hP1 hS1 hE
theorem mH_off {m : hM} {k j : Nat} {v : Int64} : ∀ i, i ≠ k → (sH m k j v).1 i = m.1 i ∧ (sH m k j v).2.1 i = m.2.1 i ∧ (sH m k j v).2.2 i = m.2.2 i :=
  fun i hi => ⟨((mI_off (m := sI m k (2 * j) (jLo v)) (j := 2 * j + 1) (v := jHi v)) i hi).1.trans (mI_off i hi).1, rfl, rfl⟩
theorem rf_hast (C : Cx G X d cc nL own ret) {k N j0 : Nat} {i : Int32} {x : Int64} (hy : LY[k]? = some (.inr (.inl (6, N)))) (hi : hIn i N) (hj0 : i.toNatClampNeg = j0) (hd : decode cc pc = .ok (.lastore, 1)) (hn : pc + 1 = n) (kk : Rf vl G X n lv st (sH m k j0 x) E) : Rf vl G X pc lv (.long x :: .int i :: hA G k :: st) m E := by
  obtain ⟨p, e, R, s, mt, args, below, meth, c, cs, sl, Qp⟩ := X
  obtain ⟨hx, hb, hml, how, hts, hK, hr, hlk, hR⟩ := C
  subst hn
  intro ls H locs a m' hl hh hS hE
  subst hj0
  have he : (hW G m)[k]? = some (G.2.2.2.1 + k, .inl (G.2.2.1 3, N, .inr (.inl (gH m k)))) := hW_get hy
  refine va_last hx hb hK.1 hh (hW_D G m) hS k 3 he rfl (hIn_vp hi) hd (fun H1 locs1 hP1 hD1 hS1 => ?_)
  have e1 : vp_updL (gH m k) i.toNatClampNeg x = gH (sH m k i.toNatClampNeg x) k := by
    funext j
    rw [gH_sH]
    by_cases hj : j = i.toNatClampNeg
    · rw [if_pos hj, hj]
      simp [vp_updL]
    · rw [if_neg hj]
      simp [vp_updL, hj]
  rw [e1] at hP1
  have e2 : (hW G m).set k (G.2.2.2.1 + k, .inl (G.2.2.1 3, N, .inr (.inl (gH (sH m k i.toNatClampNeg x) k)))) = hW G (sH m k i.toNatClampNeg x) := hW_set (m' := sH m k i.toNatClampNeg x) (s := .inr (.inl (6, N))) hy mH_off
  rw [e2] at hP1
  exact kk ls H1 locs1 a m' hl hP1 hS1 hE
theorem rf_aaldO (C : Cx G X d cc nL own ret) {k r : Nat} {i : Int32} {rs : List Nat} (hy : LY[k]? = some (.inr (.inr (4, rs)))) (hi : hIn i rs.length) (hrs : rs[i.toNatClampNeg]? = some r) (hd : decode cc pc = .ok (.aaload, 1)) (hn : pc + 1 = n) (kk : Rf vl G X n lv (hA G r :: st) m E) : Rf vl G X pc lv (.int i :: hA G k :: st) m E := by
  obtain ⟨p, e, R, s, mt, args, below, meth, c, cs, sl, Qp⟩ := X
  obtain ⟨hx, hb, hml, how, hts, hK, hr, hlk, hR⟩ := C
  subst hn
  intro ls H locs a m' hl hh hS hE
  have he : (hW G m)[k]? = some (G.2.2.2.1 + k, .inl (G.2.2.1 4, rs.length, .inr (.inr (.inr (.inr (fun j => (rs[j]?).map (fun z => G.2.2.2.1 + z))))))) := hW_get hy
  refine va_aldq hx hb hK.1 hh k 4 he rfl (hIn_vp hi) hd ?_
  have e1 : va_rf ((rs[i.toNatClampNeg]?).map (fun z => G.2.2.2.1 + z)) = hA G r := by rw [hrs]; rfl
  rw [e1]
  exact kk ls H locs a m' hl hh hS hE
theorem rf_aaldS (C : Cx G X d cc nL own ret) {k r : Nat} {i : Int32} {rs : List Nat} (hy : LY[k]? = some (.inr (.inr (5, rs)))) (hi : hIn i rs.length) (hrs : rs[i.toNatClampNeg]? = some r) (hd : decode cc pc = .ok (.aaload, 1)) (hn : pc + 1 = n) (kk : Rf vl G X n lv (hA G r :: st) m E) : Rf vl G X pc lv (.int i :: hA G k :: st) m E := by
  obtain ⟨p, e, R, s, mt, args, below, meth, c, cs, sl, Qp⟩ := X
  obtain ⟨hx, hb, hml, how, hts, hK, hr, hlk, hR⟩ := C
  subst hn
  intro ls H locs a m' hl hh hS hE
  have he : (hW G m)[k]? = some (G.2.2.2.1 + k, .inl (G.2.2.1 5, rs.length, .inr (.inr (.inr (.inr (fun j => (rs[j]?).map (fun z => G.2.2.2.1 + z))))))) := hW_get hy
  refine va_aldq hx hb hK.1 hh k 5 he rfl (hIn_vp hi) hd ?_
  have e1 : va_rf ((rs[i.toNatClampNeg]?).map (fun z => G.2.2.2.1 + z)) = hA G r := by rw [hrs]; rfl
  rw [e1]
  exact kk ls H locs a m' hl hh hS hE
theorem rf_alen (C : Cx G X d cc nL own ret) {k N ty : Nat} {v : Int32} (hy : LY[k]? = some (.inr (.inl (ty, N)))) (hty : ty < 4) (hv : Int32.ofNat N = v) (hd : decode cc pc = .ok (.arraylength, 1)) (hn : pc + 1 = n) (kk : Rf vl G X n lv (.int v :: st) m E) : Rf vl G X pc lv (hA G k :: st) m E := by
  obtain ⟨p, e, R, s, mt, args, below, meth, c, cs, sl, Qp⟩ := X
  obtain ⟨hx, hb, hml, how, hts, hK, hr, hlk, hR⟩ := C
  subst hn
  intro ls H locs a m' hl hh hS hE
  have h4 : ty = 0 ∨ ty = 1 ∨ ty = 2 ∨ ty = 3 := by clear hy; omega
  rcases h4 with rfl | rfl | rfl | rfl
  · exact va_alen hx hb hK.1 hh k 0 (hW_get hy) rfl hv hd (kk ls H locs a m' hl hh hS hE)
  · exact va_alen hx hb hK.1 hh k 1 (hW_get hy) rfl hv hd (kk ls H locs a m' hl hh hS hE)
  · exact va_alen hx hb hK.1 hh k 2 (hW_get hy) rfl hv hd (kk ls H locs a m' hl hh hS hE)
  · exact va_alen hx hb hK.1 hh k 3 (hW_get hy) rfl hv hd (kk ls H locs a m' hl hh hS hE)
theorem rf_alenR (C : Cx G X d cc nL own ret) {k : Nat} {rs : List Nat} {v : Int32} (hy : LY[k]? = some (.inr (.inr (5, rs)))) (hv : Int32.ofNat rs.length = v) (hd : decode cc pc = .ok (.arraylength, 1)) (hn : pc + 1 = n) (kk : Rf vl G X n lv (.int v :: st) m E) : Rf vl G X pc lv (hA G k :: st) m E := by
  obtain ⟨p, e, R, s, mt, args, below, meth, c, cs, sl, Qp⟩ := X
  obtain ⟨hx, hb, hml, how, hts, hK, hr, hlk, hR⟩ := C
  subst hn
  intro ls H locs a m' hl hh hS hE
  have he : (hW G m)[k]? = some (G.2.2.2.1 + k, .inl (G.2.2.1 5, rs.length, .inr (.inr (.inr (.inr (fun j => (rs[j]?).map (fun z => G.2.2.2.1 + z))))))) := hW_get hy
  exact va_alen hx hb hK.1 hh k 5 he rfl hv hd (kk ls H locs a m' hl hh hS hE)
/-- System.arraycopy of ints -/
theorem rf_copy (C : Cx G X d cc nL own ret) {idx k0 k1 N0 N1 : Nat} {sp dp q : Int32} (hw : Cond.methodLink own idx arraycopyName ∈ lw_tb ∧ Cond.native arraycopyName ∈ lw_tb ∧ Cond.static arraycopyName ∈ lw_tb ∧ Cond.initialized "java/lang/System" ∈ lw_tb) (hy0 : LY[k0]? = some (.inr (.inl (0, N0)))) (hy1 : LY[k1]? = some (.inr (.inl (0, N1)))) (hne : k0 ≠ k1) (h1 : ¬ sp < 0) (h2 : ¬ dp < 0) (h3 : ¬ q < 0) (h4 : sp.toNatClampNeg + q.toNatClampNeg ≤ N0) (h5 : dp.toNatClampNeg + q.toNatClampNeg ≤ N1) (hdd : 2 ≤ d) (hst : (st.map fun v => v.category).sum ≤ 8) (hd : decode cc pc = .ok (.invokestatic idx, 3)) (hn : pc + 3 = n) (kk : Rf vl G X n lv st (cpI m k0 sp.toNatClampNeg k1 dp.toNatClampNeg q.toNatClampNeg) E) : Rf vl G X pc lv (.int q :: .int dp :: hA G k1 :: .int sp :: hA G k0 :: st) m E := by
  obtain ⟨p, e, R, s, mt, args, below, meth, c, cs, sl, Qp⟩ := X
  obtain ⟨hx, hb, hml, how, hts, hK, hr, hlk, hR⟩ := C
  subst hn
  intro ls H locs a m' hl hh hS hE
  have he0 : (hW G m)[k0]? = some (G.2.2.2.1 + k0, .inl (G.2.2.1 0, N0, .inl (gI m k0))) := hW_get hy0
  have he1 : (hW G m)[k1]? = some (G.2.2.2.1 + k1, .inl (G.2.2.1 0, N1, .inl (gI m k1))) := hW_get hy1
  have hl1 : c.maxLocals = ls.size := hl.1.symm
  have hRf : 1 ≤ R.frames := Nat.le_trans (by omega) hR.1
  have hRl : (st.map fun v => v.category).sum + (nativeFrameWords "java/lang/System" "arraycopy" 5 + 11) ≤ R.locals := by
    have e : nativeFrameWords "java/lang/System" "arraycopy" 5 + 11 ≤ 112 := by decide +kernel
    have := hR.2.1; omega
  refine va_copyi hx hb hl1 how (hts _ hw.1) (hts _ hw.2.1) (hts _ hw.2.2.1) (hts _ hw.2.2.2) hK.1 hh (hW_D G m) hS k0 k1 0 0 (ty := .int) he0 he1 rfl rfl rfl h1 h2 h3 h4 h5 (fun i hi => rfl) hRf hRl hd (fun H1 locs1 hP1 hD1 hS1 => ?_)
  have e1 : va_cpy (gI m k0) (gI m k1) sp.toNatClampNeg dp.toNatClampNeg q.toNatClampNeg = gI (cpI m k0 sp.toNatClampNeg k1 dp.toNatClampNeg q.toNatClampNeg) k1 := by
    funext j
    show _ = (if k1 = k1 then _ else _)
    rw [if_pos rfl]
    rfl
  rw [e1] at hP1
  have e2 : (hW G m).set k1 (G.2.2.2.1 + k1, .inl (G.2.2.1 0, N1, .inl (gI (cpI m k0 sp.toNatClampNeg k1 dp.toNatClampNeg q.toNatClampNeg) k1))) = hW G (cpI m k0 sp.toNatClampNeg k1 dp.toNatClampNeg q.toNatClampNeg) := hW_set (m' := cpI m k0 sp.toNatClampNeg k1 dp.toNatClampNeg q.toNatClampNeg) (s := .inr (.inl (0, N1))) hy1 cp_off
  rw [e2] at hP1
  exact kk ls H1 locs1 a m' hl hP1 hS1 hE
theorem rf_iret (C : Cx G X d cc nL own (some .int)) (K : Cr G X) {v : Int32} (hd : decode cc pc = .ok (.ireturn, 1)) : Rf vI G X pc lv [.int v] m (some (v, m)) := by
  obtain ⟨p, e, R, s, mt, args, below, meth, c, cs, sl, Qp⟩ := X
  obtain ⟨hx, hb, hml, how, hts, hK, hr, hlk, hR⟩ := C
  intro ls H locs a m' hl hh hS hE
  cases hE
  obtain ⟨rfl, rfl, rfl⟩ := K
  exact W.iret hx hb hr (fun t ht hW => ⟨rfl, by rw [ht]; exact hh, hS.F ht⟩) hS.2.2 hd hlk
theorem rf_zret (C : Cx G X d cc nL own (some .boolean)) (K : Cr G X) {v : Int32} (hv : narrow .boolean (.int v) = .int v) (hd : decode cc pc = .ok (.ireturn, 1)) : Rf vI G X pc lv [.int v] m (some (v, m)) := by
  obtain ⟨p, e, R, s, mt, args, below, meth, c, cs, sl, Qp⟩ := X
  obtain ⟨hx, hb, hml, how, hts, hK, hr, hlk, hR⟩ := C
  intro ls H locs a m' hl hh hS hE
  cases hE
  obtain ⟨rfl, rfl, rfl⟩ := K
  exact W.zret hx hb hr hv (fun t ht hW => ⟨rfl, by rw [ht]; exact hh, hS.F ht⟩) hS.2.2 hd hlk
theorem rf_cret (C : Cx G X d cc nL own (some .char)) (K : Cr G X) {v : Int32} (hv : narrow .char (.int v) = .int v) (hd : decode cc pc = .ok (.ireturn, 1)) : Rf vI G X pc lv [.int v] m (some (v, m)) := by
  obtain ⟨p, e, R, s, mt, args, below, meth, c, cs, sl, Qp⟩ := X
  obtain ⟨hx, hb, hml, how, hts, hK, hr, hlk, hR⟩ := C
  intro ls H locs a m' hl hh hS hE
  cases hE
  obtain ⟨rfl, rfl, rfl⟩ := K
  exact W.zret hx hb hr hv (fun t ht hW => ⟨rfl, by rw [ht]; exact hh, hS.F ht⟩) hS.2.2 hd hlk
theorem rf_lret (C : Cx G X d cc nL own (some .long)) (K : Cr G X) {v : Int64} (hd : decode cc pc = .ok (.lreturn, 1)) : Rf vJ G X pc lv [.long v] m (some (v, m)) := by
  obtain ⟨p, e, R, s, mt, args, below, meth, c, cs, sl, Qp⟩ := X
  obtain ⟨hx, hb, hml, how, hts, hK, hr, hlk, hR⟩ := C
  intro ls H locs a m' hl hh hS hE
  cases hE
  obtain ⟨rfl, rfl, rfl⟩ := K
  exact W.lret hx hb hr (fun t ht hW => ⟨rfl, by rw [ht]; exact hh, hS.F ht⟩) hS.2.2 hd hlk
theorem rf_vret (C : Cx G X d cc nL own none) (K : Cr G X) (hd : decode cc pc = .ok (.return_, 1)) : Rf vU G X pc lv [] m (some ((), m)) := by
  obtain ⟨p, e, R, s, mt, args, below, meth, c, cs, sl, Qp⟩ := X
  obtain ⟨hx, hb, hml, how, hts, hK, hr, hlk, hR⟩ := C
  intro ls H locs a m' hl hh hS hE
  cases hE
  obtain ⟨rfl, rfl, rfl⟩ := K
  exact W.vret hx hb hr (fun t ht hW => ⟨rfl, by rw [ht]; exact hh, hS.F ht⟩) hS.2.2 hd hlk
theorem rf_aret {Cn : String} (C : Cx G X d cc nL own (some (.object Cn))) (K : Cr G X) {k : Nat} (hd : decode cc pc = .ok (.areturn, 1)) : Rf (vA G) G X pc lv [hA G k] m (some (k, m)) := by
  obtain ⟨p, e, R, s, mt, args, below, meth, c, cs, sl, Qp⟩ := X
  obtain ⟨hx, hb, hml, how, hts, hK, hr, hlk, hR⟩ := C
  intro ls H locs a m' hl hh hS hE
  cases hE
  obtain ⟨rfl, rfl, rfl⟩ := K
  exact W.aret hx hb hr (Or.inl ⟨_, rfl⟩) (Or.inr ⟨_, rfl⟩) (fun t ht hW => ⟨rfl, by rw [ht]; exact hh, hS.F ht⟩) hS.2.2 hd hlk
theorem hKK_pre {G : hG} {s : State} {H : Heap} {locs : List Loc} (hK : hKK G s s.heap) (hS : va_S (fun q => G.2.2.2.1 ≤ q) s.heap H locs) {U : State} (hU : U.heap = H) (hW : s.WarmedH U.vm) : hKK G U U.heap := by
  rw [hU]
  exact (hK.kept (fun q h1 h2 => hS.2.1 q h1 h2)).warm hW
theorem hBlind {G : hG} {m : hM} {av : List Value} : FrameBlind (va_Pc av (fun U => hR G m U.heap ∧ hKK G U U.heap)) :=
  fun a U g mk q => ⟨q.1, q.2.1, show hKK G (U.calling g mk a) U.heap from hKK.same (s := U) (U := U.calling g mk a) (H := U.heap) rfl q.2.2⟩
theorem rf_after {β : Type} {vb : β → Option Value} {p : Program} {e : Env} {R : Room} {s : State} {mt : MethodId} {args : Array Value} {below : List Frame} {meth : Method} {c : Code} {ls : Array Slot} {H : Heap} {locs : List Loc} {b : β} {m1 : hM} {st0 : List Value} {av : Array Value} {cs sl : Nat} {Q : State → Prop}
    (hS : va_S (fun q => G.2.2.2.1 ≤ q) s.heap H locs)
    (hrun : va_Run p G.1 e R s mt args below meth c H locs cs sl 0 0 (F0 mt pc ls st0) st (hQ G (vb b) m1 av) (fun q => G.2.2.2.1 ≤ q))
    (kk : ∀ (H1 : Heap) (locs1 : List Loc), hR G m1 H1 → va_S (fun q => G.2.2.2.1 ≤ q) s.heap H1 locs1 → W p G.1 e R s mt args below meth c H1 locs1 cs sl Q (F0 mt (pc + 3) ls ((vb b).toList ++ st))) :
    W p G.1 e R s mt args below meth c H locs cs sl Q (F0 mt pc ls st0) := by
  intro T hT Xs
  obtain ⟨v, st₀, t, T', L, h0, X', hL, e1, e2, ⟨ho, hh', hF⟩, gs⟩ := hrun T hT Xs
  cases ho
  obtain ⟨hz, hk⟩ := hF
  rw [h0] at hz hk
  have hS' : va_S (fun q => G.2.2.2.1 ≤ q) s.heap T'.heap (locs ++ L) := by
    refine ⟨Nat.le_trans hS.1 (by rw [e1]; exact hz), fun q h1 h2 => ?_, fun q hq => ?_⟩
    · rw [e1, hk q (Nat.lt_of_lt_of_le h1 hS.1) h2]
      exact hS.2.1 q h1 h2
    · rcases List.mem_append.mp hq with h | h
      · exact hS.2.2 q h
      · exact hL q h
  obtain ⟨t2, a1, b1⟩ := kk T'.heap (locs ++ L) (by rw [e1]; exact hh') hS' T' rfl X'
  exact ⟨t2, gs t2 a1, b1⟩
theorem rf_callVi (C : Cx G X d cc nL own ret) {idx k ci d' maxL nA : Nat} {y : MethodName} {bytes : ByteArray} {ret' : Option FieldType} {Cn : String} {T : u_T} {N : Nat} {ks : List hKd} {As st0 : List Value} {E1 : Option (Int32 × hM)} {F : Int32 → hM → Option (α × hM)} (hMt : Mt vI G d' y bytes maxL ret' (hA G k :: As) m E1) (hw : hCV own idx Cn y bytes maxL ret' nA) (hy : LY[k]? = some (.inl (ci, ks))) (hc : vwCl[ci]? = some (Cn, T, N)) (hdd : d' + 1 ≤ d ∧ maxL ≤ 41) (hAs : As.length = nA) (hsum : (st.map fun v => v.category).sum ≤ 8) (hst : st0 = As.reverse ++ hA G k :: st) (hd : decode cc pc = .ok (.invokevirtual idx, 3)) (hn : pc + 3 = n) (kk : ∀ (b : Int32) (m1 : hM), Rf vl G X n lv (.int b :: st) m1 (F b m1)) : Rf vl G X pc lv st0 m (hBd E1 F) := by
  obtain ⟨p, e, R, s, mt, args, below, meth, c, cs, sl, Qp⟩ := X
  obtain ⟨hx, hb, hml, how, hts, hK, hr, hlk, hR⟩ := C
  subst hn
  intro ls H locs a m' hl hh hS hE
  subst hst
  obtain ⟨hw1, hw2, hw3, hw4, hw5, hw6⟩ := hw
  cases hE1 : E1 with
  | none => rw [hE1] at hE; cases hE
  | some x =>
  obtain ⟨b, m1⟩ := x
  rw [hE1] at hE
  have he : (hW G m)[k]? = some (G.2.2.2.1 + k, .inr (ci, ks.mapIdx (fun i q => hV G.2.2.2.1 m k i q))) := hW_get hy
  have hGd : GoodIn lw_tb (wsV own idx Cn y (Cond.code y bytes maxL ret' :: lw_tb)) := by
    intro w hw
    unfold wsV at hw
    rcases List.mem_append.mp hw with h | h
    · have hm : w ∈ lw_tb := by
        simp only [List.mem_cons, List.not_mem_nil, or_false] at h
        rcases h with rfl | rfl | rfl | rfl <;> assumption
      exact ⟨hm, good_of_word (List.mem_filter.mp hm).2⟩
    · exact tb_GoodC hw5 w h
  have cw : CallW R s args own Cn idx y bytes maxL ret' (Cond.code y bytes maxL ret' :: lw_tb) (rmD d') 0 0 nA := cwV nA hts hGd rfl rfl rfl hw6 ⟨Nat.le_trans hdd.1 hR.1, by have h9 := hR.2.1; show _ + 60 * d' ≤ R.locals; omega⟩
  refine rf_after (vb := vI) (b := b) (m1 := m1) hS (va_runV (As := As) (rest := st) (C := Cn) ⟨hx, hb, hml, how, hts⟩ (hMt b m1 hE1) cw ⟨hBlind, va_recv hK.1 hh hc he, fun U hU hW => ⟨rfl, by rw [hU]; exact hh, hKK_pre hK hS hU hW⟩⟩ rfl hAs (hl.1.trans hml) rfl (lv_room hsum) hd ⟨hR.2.2.1, hR.2.2.2⟩) (fun H1 locs1 hh1 hS1 => ?_)
  exact kk b m1 ls H1 locs1 a m' hl hh1 hS1 hE
theorem rf_callSi (C : Cx G X d cc nL own ret) {idx d' maxL nA : Nat} {y : MethodName} {bytes : ByteArray} {ret' : Option FieldType} {As st0 : List Value} {E1 : Option (Int32 × hM)} {F : Int32 → hM → Option (α × hM)} (hMt : Mt vI G d' y bytes maxL ret' As m E1) (hw : hCS own idx y bytes maxL ret' nA) (hdd : d' + 1 ≤ d ∧ maxL ≤ 41) (hAs : As.length = nA) (hsum : (st.map fun v => v.category).sum ≤ 8) (hst : st0 = As.reverse ++ st) (hd : decode cc pc = .ok (.invokestatic idx, 3)) (hn : pc + 3 = n) (kk : ∀ (b : Int32) (m1 : hM), Rf vl G X n lv (.int b :: st) m1 (F b m1)) : Rf vl G X pc lv st0 m (hBd E1 F) := by
  obtain ⟨p, e, R, s, mt, args, below, meth, c, cs, sl, Qp⟩ := X
  obtain ⟨hx, hb, hml, how, hts, hK, hr, hlk, hR⟩ := C
  subst hn
  intro ls H locs a m' hl hh hS hE
  subst hst
  obtain ⟨hw1, hw2, hw3, hw4, hw5⟩ := hw
  cases hE1 : E1 with
  | none => rw [hE1] at hE; cases hE
  | some x =>
  obtain ⟨b, m1⟩ := x
  rw [hE1] at hE
  have cw : CallB R s args own idx y bytes maxL ret' (Cond.code y bytes maxL ret' :: lw_tb) (rmD d') 0 0 nA := callB_of nA hts (tb_GoodC hw4) rfl rfl rfl (hts _ hw3) (hts _ hw1) hw5 ⟨Nat.le_trans hdd.1 hR.1, by have h9 := hR.2.1; show _ + 60 * d' ≤ R.locals; omega⟩
  refine rf_after (vb := vI) (b := b) (m1 := m1) hS (va_runS (As := As) (rest := st) ⟨hx, hb, hml, how, hts⟩ (hMt b m1 hE1) ⟨cw, hts _ hw2⟩ ⟨hBlind, fun U hU hW => ⟨rfl, by rw [hU]; exact hh, hKK_pre hK hS hU hW⟩⟩ rfl hAs (hl.1.trans hml) rfl (lv_room hsum) hd ⟨hR.2.2.1, hR.2.2.2⟩) (fun H1 locs1 hh1 hS1 => ?_)
  exact kk b m1 ls H1 locs1 a m' hl hh1 hS1 hE
theorem rf_callNi (C : Cx G X d cc nL own ret) {idx d' maxL nA : Nat} {host : String} {y : MethodName} {bytes : ByteArray} {ret' : Option FieldType} {As st0 : List Value} {E1 : Option (Int32 × hM)} {F : Int32 → hM → Option (α × hM)} (hMt : Mt vI G d' y bytes maxL ret' As m E1) (hw : hCN own idx host y bytes maxL ret' nA) (hdd : d' + 1 ≤ d ∧ maxL ≤ 41) (hAs : As.length = nA) (hsum : (st.map fun v => v.category).sum ≤ 8) (hst : st0 = As.reverse ++ st) (hd : decode cc pc = .ok (.invokestatic idx, 3)) (hn : pc + 3 = n) (kk : ∀ (b : Int32) (m1 : hM), Rf vl G X n lv (.int b :: st) m1 (F b m1)) : Rf vl G X pc lv st0 m (hBd E1 F) := by
  obtain ⟨p, e, R, s, mt, args, below, meth, c, cs, sl, Qp⟩ := X
  obtain ⟨hx, hb, hml, how, hts, hK, hr, hlk, hR⟩ := C
  subst hn
  intro ls H locs a m' hl hh hS hE
  subst hst
  obtain ⟨hw1, hw2, hw3, hw4, hw5⟩ := hw
  cases hE1 : E1 with
  | none => rw [hE1] at hE; cases hE
  | some x =>
  obtain ⟨b, m1⟩ := x
  rw [hE1] at hE
  have cw : va_CN R s args own idx y host bytes maxL ret' (Cond.code y bytes maxL ret' :: lw_tb) (rmD d') 0 0 nA := va_cnB nA hts (tb_GoodC hw4) rfl rfl rfl (hK.2 _ hw1) (hts _ hw3) hw5 ⟨Nat.le_trans hdd.1 hR.1, by have h9 := hR.2.1; show _ + 60 * d' ≤ R.locals; omega⟩
  refine rf_after (vb := vI) (b := b) (m1 := m1) hS (va_runSN (As := As) (rest := st) ⟨hx, hb, hml, how, hts⟩ (hMt b m1 hE1) ⟨cw, hts _ hw2, trivial⟩ ⟨hBlind, fun U hU hW => ⟨rfl, by rw [hU]; exact hh, hKK_pre hK hS hU hW⟩⟩ rfl hAs (hl.1.trans hml) rfl (lv_room hsum) hd ⟨hR.2.2.1, hR.2.2.2⟩) (fun H1 locs1 hh1 hS1 => ?_)
  exact kk b m1 ls H1 locs1 a m' hl hh1 hS1 hE
theorem rf_callVl (C : Cx G X d cc nL own ret) {idx k ci d' maxL nA : Nat} {y : MethodName} {bytes : ByteArray} {ret' : Option FieldType} {Cn : String} {T : u_T} {N : Nat} {ks : List hKd} {As st0 : List Value} {E1 : Option (Int64 × hM)} {F : Int64 → hM → Option (α × hM)} (hMt : Mt vJ G d' y bytes maxL ret' (hA G k :: As) m E1) (hw : hCV own idx Cn y bytes maxL ret' nA) (hy : LY[k]? = some (.inl (ci, ks))) (hc : vwCl[ci]? = some (Cn, T, N)) (hdd : d' + 1 ≤ d ∧ maxL ≤ 41) (hAs : As.length = nA) (hsum : (st.map fun v => v.category).sum ≤ 8) (hst : st0 = As.reverse ++ hA G k :: st) (hd : decode cc pc = .ok (.invokevirtual idx, 3)) (hn : pc + 3 = n) (kk : ∀ (b : Int64) (m1 : hM), Rf vl G X n lv (.long b :: st) m1 (F b m1)) : Rf vl G X pc lv st0 m (hBd E1 F) := by
  obtain ⟨p, e, R, s, mt, args, below, meth, c, cs, sl, Qp⟩ := X
  obtain ⟨hx, hb, hml, how, hts, hK, hr, hlk, hR⟩ := C
  subst hn
  intro ls H locs a m' hl hh hS hE
  subst hst
  obtain ⟨hw1, hw2, hw3, hw4, hw5, hw6⟩ := hw
  cases hE1 : E1 with
  | none => rw [hE1] at hE; cases hE
  | some x =>
  obtain ⟨b, m1⟩ := x
  rw [hE1] at hE
  have he : (hW G m)[k]? = some (G.2.2.2.1 + k, .inr (ci, ks.mapIdx (fun i q => hV G.2.2.2.1 m k i q))) := hW_get hy
  have hGd : GoodIn lw_tb (wsV own idx Cn y (Cond.code y bytes maxL ret' :: lw_tb)) := by
    intro w hw
    unfold wsV at hw
    rcases List.mem_append.mp hw with h | h
    · have hm : w ∈ lw_tb := by
        simp only [List.mem_cons, List.not_mem_nil, or_false] at h
        rcases h with rfl | rfl | rfl | rfl <;> assumption
      exact ⟨hm, good_of_word (List.mem_filter.mp hm).2⟩
    · exact tb_GoodC hw5 w h
  have cw : CallW R s args own Cn idx y bytes maxL ret' (Cond.code y bytes maxL ret' :: lw_tb) (rmD d') 0 0 nA := cwV nA hts hGd rfl rfl rfl hw6 ⟨Nat.le_trans hdd.1 hR.1, by have h9 := hR.2.1; show _ + 60 * d' ≤ R.locals; omega⟩
  refine rf_after (vb := vJ) (b := b) (m1 := m1) hS (va_runV (As := As) (rest := st) (C := Cn) ⟨hx, hb, hml, how, hts⟩ (hMt b m1 hE1) cw ⟨hBlind, va_recv hK.1 hh hc he, fun U hU hW => ⟨rfl, by rw [hU]; exact hh, hKK_pre hK hS hU hW⟩⟩ rfl hAs (hl.1.trans hml) rfl (lv_room hsum) hd ⟨hR.2.2.1, hR.2.2.2⟩) (fun H1 locs1 hh1 hS1 => ?_)
  exact kk b m1 ls H1 locs1 a m' hl hh1 hS1 hE
theorem rf_callSl (C : Cx G X d cc nL own ret) {idx d' maxL nA : Nat} {y : MethodName} {bytes : ByteArray} {ret' : Option FieldType} {As st0 : List Value} {E1 : Option (Int64 × hM)} {F : Int64 → hM → Option (α × hM)} (hMt : Mt vJ G d' y bytes maxL ret' As m E1) (hw : hCS own idx y bytes maxL ret' nA) (hdd : d' + 1 ≤ d ∧ maxL ≤ 41) (hAs : As.length = nA) (hsum : (st.map fun v => v.category).sum ≤ 8) (hst : st0 = As.reverse ++ st) (hd : decode cc pc = .ok (.invokestatic idx, 3)) (hn : pc + 3 = n) (kk : ∀ (b : Int64) (m1 : hM), Rf vl G X n lv (.long b :: st) m1 (F b m1)) : Rf vl G X pc lv st0 m (hBd E1 F) := by
  obtain ⟨p, e, R, s, mt, args, below, meth, c, cs, sl, Qp⟩ := X
  obtain ⟨hx, hb, hml, how, hts, hK, hr, hlk, hR⟩ := C
  subst hn
  intro ls H locs a m' hl hh hS hE
  subst hst
  obtain ⟨hw1, hw2, hw3, hw4, hw5⟩ := hw
  cases hE1 : E1 with
  | none => rw [hE1] at hE; cases hE
  | some x =>
  obtain ⟨b, m1⟩ := x
  rw [hE1] at hE
  have cw : CallB R s args own idx y bytes maxL ret' (Cond.code y bytes maxL ret' :: lw_tb) (rmD d') 0 0 nA := callB_of nA hts (tb_GoodC hw4) rfl rfl rfl (hts _ hw3) (hts _ hw1) hw5 ⟨Nat.le_trans hdd.1 hR.1, by have h9 := hR.2.1; show _ + 60 * d' ≤ R.locals; omega⟩
  refine rf_after (vb := vJ) (b := b) (m1 := m1) hS (va_runS (As := As) (rest := st) ⟨hx, hb, hml, how, hts⟩ (hMt b m1 hE1) ⟨cw, hts _ hw2⟩ ⟨hBlind, fun U hU hW => ⟨rfl, by rw [hU]; exact hh, hKK_pre hK hS hU hW⟩⟩ rfl hAs (hl.1.trans hml) rfl (lv_room hsum) hd ⟨hR.2.2.1, hR.2.2.2⟩) (fun H1 locs1 hh1 hS1 => ?_)
  exact kk b m1 ls H1 locs1 a m' hl hh1 hS1 hE
theorem rf_callNl (C : Cx G X d cc nL own ret) {idx d' maxL nA : Nat} {host : String} {y : MethodName} {bytes : ByteArray} {ret' : Option FieldType} {As st0 : List Value} {E1 : Option (Int64 × hM)} {F : Int64 → hM → Option (α × hM)} (hMt : Mt vJ G d' y bytes maxL ret' As m E1) (hw : hCN own idx host y bytes maxL ret' nA) (hdd : d' + 1 ≤ d ∧ maxL ≤ 41) (hAs : As.length = nA) (hsum : (st.map fun v => v.category).sum ≤ 8) (hst : st0 = As.reverse ++ st) (hd : decode cc pc = .ok (.invokestatic idx, 3)) (hn : pc + 3 = n) (kk : ∀ (b : Int64) (m1 : hM), Rf vl G X n lv (.long b :: st) m1 (F b m1)) : Rf vl G X pc lv st0 m (hBd E1 F) := by
  obtain ⟨p, e, R, s, mt, args, below, meth, c, cs, sl, Qp⟩ := X
  obtain ⟨hx, hb, hml, how, hts, hK, hr, hlk, hR⟩ := C
  subst hn
  intro ls H locs a m' hl hh hS hE
  subst hst
  obtain ⟨hw1, hw2, hw3, hw4, hw5⟩ := hw
  cases hE1 : E1 with
  | none => rw [hE1] at hE; cases hE
  | some x =>
  obtain ⟨b, m1⟩ := x
  rw [hE1] at hE
  have cw : va_CN R s args own idx y host bytes maxL ret' (Cond.code y bytes maxL ret' :: lw_tb) (rmD d') 0 0 nA := va_cnB nA hts (tb_GoodC hw4) rfl rfl rfl (hK.2 _ hw1) (hts _ hw3) hw5 ⟨Nat.le_trans hdd.1 hR.1, by have h9 := hR.2.1; show _ + 60 * d' ≤ R.locals; omega⟩
  refine rf_after (vb := vJ) (b := b) (m1 := m1) hS (va_runSN (As := As) (rest := st) ⟨hx, hb, hml, how, hts⟩ (hMt b m1 hE1) ⟨cw, hts _ hw2, trivial⟩ ⟨hBlind, fun U hU hW => ⟨rfl, by rw [hU]; exact hh, hKK_pre hK hS hU hW⟩⟩ rfl hAs (hl.1.trans hml) rfl (lv_room hsum) hd ⟨hR.2.2.1, hR.2.2.2⟩) (fun H1 locs1 hh1 hS1 => ?_)
  exact kk b m1 ls H1 locs1 a m' hl hh1 hS1 hE
theorem rf_callVv (C : Cx G X d cc nL own ret) {idx k ci d' maxL nA : Nat} {y : MethodName} {bytes : ByteArray} {ret' : Option FieldType} {Cn : String} {T : u_T} {N : Nat} {ks : List hKd} {As st0 : List Value} {E1 : Option (Unit × hM)} {F : Unit → hM → Option (α × hM)} (hMt : Mt vU G d' y bytes maxL ret' (hA G k :: As) m E1) (hw : hCV own idx Cn y bytes maxL ret' nA) (hy : LY[k]? = some (.inl (ci, ks))) (hc : vwCl[ci]? = some (Cn, T, N)) (hdd : d' + 1 ≤ d ∧ maxL ≤ 41) (hAs : As.length = nA) (hsum : (st.map fun v => v.category).sum ≤ 8) (hst : st0 = As.reverse ++ hA G k :: st) (hd : decode cc pc = .ok (.invokevirtual idx, 3)) (hn : pc + 3 = n) (kk : ∀ (b : Unit) (m1 : hM), Rf vl G X n lv (st) m1 (F b m1)) : Rf vl G X pc lv st0 m (hBd E1 F) := by
  obtain ⟨p, e, R, s, mt, args, below, meth, c, cs, sl, Qp⟩ := X
  obtain ⟨hx, hb, hml, how, hts, hK, hr, hlk, hR⟩ := C
  subst hn
  intro ls H locs a m' hl hh hS hE
  subst hst
  obtain ⟨hw1, hw2, hw3, hw4, hw5, hw6⟩ := hw
  cases hE1 : E1 with
  | none => rw [hE1] at hE; cases hE
  | some x =>
  obtain ⟨b, m1⟩ := x
  rw [hE1] at hE
  have he : (hW G m)[k]? = some (G.2.2.2.1 + k, .inr (ci, ks.mapIdx (fun i q => hV G.2.2.2.1 m k i q))) := hW_get hy
  have hGd : GoodIn lw_tb (wsV own idx Cn y (Cond.code y bytes maxL ret' :: lw_tb)) := by
    intro w hw
    unfold wsV at hw
    rcases List.mem_append.mp hw with h | h
    · have hm : w ∈ lw_tb := by
        simp only [List.mem_cons, List.not_mem_nil, or_false] at h
        rcases h with rfl | rfl | rfl | rfl <;> assumption
      exact ⟨hm, good_of_word (List.mem_filter.mp hm).2⟩
    · exact tb_GoodC hw5 w h
  have cw : CallW R s args own Cn idx y bytes maxL ret' (Cond.code y bytes maxL ret' :: lw_tb) (rmD d') 0 0 nA := cwV nA hts hGd rfl rfl rfl hw6 ⟨Nat.le_trans hdd.1 hR.1, by have h9 := hR.2.1; show _ + 60 * d' ≤ R.locals; omega⟩
  refine rf_after (vb := vU) (b := b) (m1 := m1) hS (va_runV (As := As) (rest := st) (C := Cn) ⟨hx, hb, hml, how, hts⟩ (hMt b m1 hE1) cw ⟨hBlind, va_recv hK.1 hh hc he, fun U hU hW => ⟨rfl, by rw [hU]; exact hh, hKK_pre hK hS hU hW⟩⟩ rfl hAs (hl.1.trans hml) rfl (lv_room hsum) hd ⟨hR.2.2.1, hR.2.2.2⟩) (fun H1 locs1 hh1 hS1 => ?_)
  exact kk b m1 ls H1 locs1 a m' hl hh1 hS1 hE
theorem rf_callSv (C : Cx G X d cc nL own ret) {idx d' maxL nA : Nat} {y : MethodName} {bytes : ByteArray} {ret' : Option FieldType} {As st0 : List Value} {E1 : Option (Unit × hM)} {F : Unit → hM → Option (α × hM)} (hMt : Mt vU G d' y bytes maxL ret' As m E1) (hw : hCS own idx y bytes maxL ret' nA) (hdd : d' + 1 ≤ d ∧ maxL ≤ 41) (hAs : As.length = nA) (hsum : (st.map fun v => v.category).sum ≤ 8) (hst : st0 = As.reverse ++ st) (hd : decode cc pc = .ok (.invokestatic idx, 3)) (hn : pc + 3 = n) (kk : ∀ (b : Unit) (m1 : hM), Rf vl G X n lv (st) m1 (F b m1)) : Rf vl G X pc lv st0 m (hBd E1 F) := by
  obtain ⟨p, e, R, s, mt, args, below, meth, c, cs, sl, Qp⟩ := X
  obtain ⟨hx, hb, hml, how, hts, hK, hr, hlk, hR⟩ := C
  subst hn
  intro ls H locs a m' hl hh hS hE
  subst hst
  obtain ⟨hw1, hw2, hw3, hw4, hw5⟩ := hw
  cases hE1 : E1 with
  | none => rw [hE1] at hE; cases hE
  | some x =>
  obtain ⟨b, m1⟩ := x
  rw [hE1] at hE
  have cw : CallB R s args own idx y bytes maxL ret' (Cond.code y bytes maxL ret' :: lw_tb) (rmD d') 0 0 nA := callB_of nA hts (tb_GoodC hw4) rfl rfl rfl (hts _ hw3) (hts _ hw1) hw5 ⟨Nat.le_trans hdd.1 hR.1, by have h9 := hR.2.1; show _ + 60 * d' ≤ R.locals; omega⟩
  refine rf_after (vb := vU) (b := b) (m1 := m1) hS (va_runS (As := As) (rest := st) ⟨hx, hb, hml, how, hts⟩ (hMt b m1 hE1) ⟨cw, hts _ hw2⟩ ⟨hBlind, fun U hU hW => ⟨rfl, by rw [hU]; exact hh, hKK_pre hK hS hU hW⟩⟩ rfl hAs (hl.1.trans hml) rfl (lv_room hsum) hd ⟨hR.2.2.1, hR.2.2.2⟩) (fun H1 locs1 hh1 hS1 => ?_)
  exact kk b m1 ls H1 locs1 a m' hl hh1 hS1 hE
theorem rf_callNv (C : Cx G X d cc nL own ret) {idx d' maxL nA : Nat} {host : String} {y : MethodName} {bytes : ByteArray} {ret' : Option FieldType} {As st0 : List Value} {E1 : Option (Unit × hM)} {F : Unit → hM → Option (α × hM)} (hMt : Mt vU G d' y bytes maxL ret' As m E1) (hw : hCN own idx host y bytes maxL ret' nA) (hdd : d' + 1 ≤ d ∧ maxL ≤ 41) (hAs : As.length = nA) (hsum : (st.map fun v => v.category).sum ≤ 8) (hst : st0 = As.reverse ++ st) (hd : decode cc pc = .ok (.invokestatic idx, 3)) (hn : pc + 3 = n) (kk : ∀ (b : Unit) (m1 : hM), Rf vl G X n lv (st) m1 (F b m1)) : Rf vl G X pc lv st0 m (hBd E1 F) := by
  obtain ⟨p, e, R, s, mt, args, below, meth, c, cs, sl, Qp⟩ := X
  obtain ⟨hx, hb, hml, how, hts, hK, hr, hlk, hR⟩ := C
  subst hn
  intro ls H locs a m' hl hh hS hE
  subst hst
  obtain ⟨hw1, hw2, hw3, hw4, hw5⟩ := hw
  cases hE1 : E1 with
  | none => rw [hE1] at hE; cases hE
  | some x =>
  obtain ⟨b, m1⟩ := x
  rw [hE1] at hE
  have cw : va_CN R s args own idx y host bytes maxL ret' (Cond.code y bytes maxL ret' :: lw_tb) (rmD d') 0 0 nA := va_cnB nA hts (tb_GoodC hw4) rfl rfl rfl (hK.2 _ hw1) (hts _ hw3) hw5 ⟨Nat.le_trans hdd.1 hR.1, by have h9 := hR.2.1; show _ + 60 * d' ≤ R.locals; omega⟩
  refine rf_after (vb := vU) (b := b) (m1 := m1) hS (va_runSN (As := As) (rest := st) ⟨hx, hb, hml, how, hts⟩ (hMt b m1 hE1) ⟨cw, hts _ hw2, trivial⟩ ⟨hBlind, fun U hU hW => ⟨rfl, by rw [hU]; exact hh, hKK_pre hK hS hU hW⟩⟩ rfl hAs (hl.1.trans hml) rfl (lv_room hsum) hd ⟨hR.2.2.1, hR.2.2.2⟩) (fun H1 locs1 hh1 hS1 => ?_)
  exact kk b m1 ls H1 locs1 a m' hl hh1 hS1 hE
theorem rf_callVa (C : Cx G X d cc nL own ret) {idx k ci d' maxL nA : Nat} {y : MethodName} {bytes : ByteArray} {ret' : Option FieldType} {Cn : String} {T : u_T} {N : Nat} {ks : List hKd} {As st0 : List Value} {E1 : Option (Nat × hM)} {F : Nat → hM → Option (α × hM)} (hMt : Mt (vA G) G d' y bytes maxL ret' (hA G k :: As) m E1) (hw : hCV own idx Cn y bytes maxL ret' nA) (hy : LY[k]? = some (.inl (ci, ks))) (hc : vwCl[ci]? = some (Cn, T, N)) (hdd : d' + 1 ≤ d ∧ maxL ≤ 41) (hAs : As.length = nA) (hsum : (st.map fun v => v.category).sum ≤ 8) (hst : st0 = As.reverse ++ hA G k :: st) (hd : decode cc pc = .ok (.invokevirtual idx, 3)) (hn : pc + 3 = n) (kk : ∀ (b : Nat) (m1 : hM), Rf vl G X n lv (hA G b :: st) m1 (F b m1)) : Rf vl G X pc lv st0 m (hBd E1 F) := by
  obtain ⟨p, e, R, s, mt, args, below, meth, c, cs, sl, Qp⟩ := X
  obtain ⟨hx, hb, hml, how, hts, hK, hr, hlk, hR⟩ := C
  subst hn
  intro ls H locs a m' hl hh hS hE
  subst hst
  obtain ⟨hw1, hw2, hw3, hw4, hw5, hw6⟩ := hw
  cases hE1 : E1 with
  | none => rw [hE1] at hE; cases hE
  | some x =>
  obtain ⟨b, m1⟩ := x
  rw [hE1] at hE
  have he : (hW G m)[k]? = some (G.2.2.2.1 + k, .inr (ci, ks.mapIdx (fun i q => hV G.2.2.2.1 m k i q))) := hW_get hy
  have hGd : GoodIn lw_tb (wsV own idx Cn y (Cond.code y bytes maxL ret' :: lw_tb)) := by
    intro w hw
    unfold wsV at hw
    rcases List.mem_append.mp hw with h | h
    · have hm : w ∈ lw_tb := by
        simp only [List.mem_cons, List.not_mem_nil, or_false] at h
        rcases h with rfl | rfl | rfl | rfl <;> assumption
      exact ⟨hm, good_of_word (List.mem_filter.mp hm).2⟩
    · exact tb_GoodC hw5 w h
  have cw : CallW R s args own Cn idx y bytes maxL ret' (Cond.code y bytes maxL ret' :: lw_tb) (rmD d') 0 0 nA := cwV nA hts hGd rfl rfl rfl hw6 ⟨Nat.le_trans hdd.1 hR.1, by have h9 := hR.2.1; show _ + 60 * d' ≤ R.locals; omega⟩
  refine rf_after (vb := (vA G)) (b := b) (m1 := m1) hS (va_runV (As := As) (rest := st) (C := Cn) ⟨hx, hb, hml, how, hts⟩ (hMt b m1 hE1) cw ⟨hBlind, va_recv hK.1 hh hc he, fun U hU hW => ⟨rfl, by rw [hU]; exact hh, hKK_pre hK hS hU hW⟩⟩ rfl hAs (hl.1.trans hml) rfl (lv_room hsum) hd ⟨hR.2.2.1, hR.2.2.2⟩) (fun H1 locs1 hh1 hS1 => ?_)
  exact kk b m1 ls H1 locs1 a m' hl hh1 hS1 hE
theorem rf_callSa (C : Cx G X d cc nL own ret) {idx d' maxL nA : Nat} {y : MethodName} {bytes : ByteArray} {ret' : Option FieldType} {As st0 : List Value} {E1 : Option (Nat × hM)} {F : Nat → hM → Option (α × hM)} (hMt : Mt (vA G) G d' y bytes maxL ret' As m E1) (hw : hCS own idx y bytes maxL ret' nA) (hdd : d' + 1 ≤ d ∧ maxL ≤ 41) (hAs : As.length = nA) (hsum : (st.map fun v => v.category).sum ≤ 8) (hst : st0 = As.reverse ++ st) (hd : decode cc pc = .ok (.invokestatic idx, 3)) (hn : pc + 3 = n) (kk : ∀ (b : Nat) (m1 : hM), Rf vl G X n lv (hA G b :: st) m1 (F b m1)) : Rf vl G X pc lv st0 m (hBd E1 F) := by
  obtain ⟨p, e, R, s, mt, args, below, meth, c, cs, sl, Qp⟩ := X
  obtain ⟨hx, hb, hml, how, hts, hK, hr, hlk, hR⟩ := C
  subst hn
  intro ls H locs a m' hl hh hS hE
  subst hst
  obtain ⟨hw1, hw2, hw3, hw4, hw5⟩ := hw
  cases hE1 : E1 with
  | none => rw [hE1] at hE; cases hE
  | some x =>
  obtain ⟨b, m1⟩ := x
  rw [hE1] at hE
  have cw : CallB R s args own idx y bytes maxL ret' (Cond.code y bytes maxL ret' :: lw_tb) (rmD d') 0 0 nA := callB_of nA hts (tb_GoodC hw4) rfl rfl rfl (hts _ hw3) (hts _ hw1) hw5 ⟨Nat.le_trans hdd.1 hR.1, by have h9 := hR.2.1; show _ + 60 * d' ≤ R.locals; omega⟩
  refine rf_after (vb := (vA G)) (b := b) (m1 := m1) hS (va_runS (As := As) (rest := st) ⟨hx, hb, hml, how, hts⟩ (hMt b m1 hE1) ⟨cw, hts _ hw2⟩ ⟨hBlind, fun U hU hW => ⟨rfl, by rw [hU]; exact hh, hKK_pre hK hS hU hW⟩⟩ rfl hAs (hl.1.trans hml) rfl (lv_room hsum) hd ⟨hR.2.2.1, hR.2.2.2⟩) (fun H1 locs1 hh1 hS1 => ?_)
  exact kk b m1 ls H1 locs1 a m' hl hh1 hS1 hE
theorem rf_callNa (C : Cx G X d cc nL own ret) {idx d' maxL nA : Nat} {host : String} {y : MethodName} {bytes : ByteArray} {ret' : Option FieldType} {As st0 : List Value} {E1 : Option (Nat × hM)} {F : Nat → hM → Option (α × hM)} (hMt : Mt (vA G) G d' y bytes maxL ret' As m E1) (hw : hCN own idx host y bytes maxL ret' nA) (hdd : d' + 1 ≤ d ∧ maxL ≤ 41) (hAs : As.length = nA) (hsum : (st.map fun v => v.category).sum ≤ 8) (hst : st0 = As.reverse ++ st) (hd : decode cc pc = .ok (.invokestatic idx, 3)) (hn : pc + 3 = n) (kk : ∀ (b : Nat) (m1 : hM), Rf vl G X n lv (hA G b :: st) m1 (F b m1)) : Rf vl G X pc lv st0 m (hBd E1 F) := by
  obtain ⟨p, e, R, s, mt, args, below, meth, c, cs, sl, Qp⟩ := X
  obtain ⟨hx, hb, hml, how, hts, hK, hr, hlk, hR⟩ := C
  subst hn
  intro ls H locs a m' hl hh hS hE
  subst hst
  obtain ⟨hw1, hw2, hw3, hw4, hw5⟩ := hw
  cases hE1 : E1 with
  | none => rw [hE1] at hE; cases hE
  | some x =>
  obtain ⟨b, m1⟩ := x
  rw [hE1] at hE
  have cw : va_CN R s args own idx y host bytes maxL ret' (Cond.code y bytes maxL ret' :: lw_tb) (rmD d') 0 0 nA := va_cnB nA hts (tb_GoodC hw4) rfl rfl rfl (hK.2 _ hw1) (hts _ hw3) hw5 ⟨Nat.le_trans hdd.1 hR.1, by have h9 := hR.2.1; show _ + 60 * d' ≤ R.locals; omega⟩
  refine rf_after (vb := (vA G)) (b := b) (m1 := m1) hS (va_runSN (As := As) (rest := st) ⟨hx, hb, hml, how, hts⟩ (hMt b m1 hE1) ⟨cw, hts _ hw2, trivial⟩ ⟨hBlind, fun U hU hW => ⟨rfl, by rw [hU]; exact hh, hKK_pre hK hS hU hW⟩⟩ rfl hAs (hl.1.trans hml) rfl (lv_room hsum) hd ⟨hR.2.2.1, hR.2.2.2⟩) (fun H1 locs1 hh1 hS1 => ?_)
  exact kk b m1 ls H1 locs1 a m' hl hh1 hS1 hE
/-- a method out of the walk of its body -/
theorem mt_of {y : MethodName} {maxL : Nat} {av : List Value} (hy : plainFor y = true) (hlen : (lg_sl av).length ≤ maxL) (h : ∀ X : hX, Cx G X d cc maxL y.cls ret → Cr G X → Rf vl G X 0 (lv_args 0 av) [] m E) : Mt vl G d y cc maxL ret av m E := by
  intro a m' hE
  refine MetFree.of_bodySF (code := cc) (maxLocals := maxL) (ret := ret) hy ?_ ?_
  · intro args s mt h hn
    obtain ⟨meth, c, h1, h2, h3, h4, h5, h6, -, -⟩ := Cond.code_spec hn (atoms_spec (ws := Cond.code y cc maxL ret :: lw_tb) h _ List.mem_cons_self)
    exact ⟨meth, c, h1, h2, h3, h4, h5, h6⟩
  · intro p e s mt args below meth c s₁ B hml hv _
    have hh0 : s₁.heap = s.heap := by rw [B.state]; rfl
    obtain ⟨rfl, hh, hK⟩ := hv
    have hts0 := atoms_spec (ws := Cond.code y cc maxL ret :: lw_tb) B.pre
    have hl := lv_entry av (n := maxL) hlen
    have w := h (p, e, rmD d, s, mt, av.toArray, below, meth, c, 0, 0, fun v m' => MQ below (hQ G v m') av.toArray s 0 0 (fun q => G.2.2.2.1 ≤ q)) ⟨B.exec, B.bytes, hml, findClass_of_methodNamed B.named, fun w hw => hts0 w (List.mem_cons_of_mem _ hw), hK, B.returns, B.notSynchronized, ⟨Nat.le_refl _, Nat.le_refl _, Nat.le_refl _, Nat.le_refl _⟩⟩ ⟨rfl, rfl, rfl⟩ _ _ _ a m' (by rw [hml]; exact hl) hh va_S.rf hE
    have w2 : W p G.1 e (rmD d) s mt av.toArray below meth c s.heap [] 0 0 (MQ below (hQ G (vl a) m') av.toArray s 0 0 (fun q => G.2.2.2.1 ≤ q)) (entryFrame mt av.toArray maxL) := by rw [lg_entry_eq]; exact w
    obtain ⟨t, a1, o, b1, b2, b3⟩ := w2 s₁ hh0 (Stand.of_body B)
    exact ⟨t, o, a1, b1, b2, ⟨b3.1, b3.2⟩⟩
end RFH
theorem hz_bool {x : Int32} (h : x = 0 ∨ x = 1) : narrow .boolean (.int x) = .int x ∧ fits .boolean (.int x) = true := by
  rcases h with rfl | rfl <;> exact ⟨by decide, by decide⟩
abbrev stL : List Nat := [46, 55, 69, 78, 87]
abbrev ofL : List Nat := [6, 8, 10, 12, 14, 16]
theorem pS_l {s : Nat} (h : s ∈ stL) : LY[s]? = some (shS s) := by
  simp only [stL, List.mem_cons, List.not_mem_nil, or_false] at h
  rcases h with rfl | rfl | rfl | rfl | rfl <;> rfl
theorem pO_l {s : Nat} (h : s ∈ ofL) : LY[s]? = some (shO s) := by
  simp only [ofL, List.mem_cons, List.not_mem_nil, or_false] at h
  rcases h with rfl | rfl | rfl | rfl | rfl | rfl <;> rfl
def hAr (o : Option hSh) (ty n : Nat) : Bool := match o with
  | some (.inr (.inl (t, k))) => t == ty && k == n
  | _ => false
theorem hAr_l {o : Option hSh} {ty n : Nat} (h : hAr o ty n = true) : o = some (.inr (.inl (ty, n))) := by
  unfold hAr at h
  split at h
  · simp only [Bool.and_eq_true, beq_iff_eq] at h
    rw [h.1, h.2]
  · cases h
theorem st_a1 {s : Nat} (h : s ∈ stL) : LY[s + 1]? = some (.inr (.inl (0, 8))) := by
  simp only [stL, List.mem_cons, List.not_mem_nil, or_false] at h
  rcases h with rfl | rfl | rfl | rfl | rfl <;> rfl
theorem st_a2 {s : Nat} (h : s ∈ stL) : LY[s + 2]? = some (.inr (.inl (0, 8))) := by
  simp only [stL, List.mem_cons, List.not_mem_nil, or_false] at h
  rcases h with rfl | rfl | rfl | rfl | rfl <;> rfl
theorem st_a3 {s : Nat} (h : s ∈ stL) : LY[s + 3]? = some (.inr (.inl (0, 8))) := by
  simp only [stL, List.mem_cons, List.not_mem_nil, or_false] at h
  rcases h with rfl | rfl | rfl | rfl | rfl <;> rfl
theorem st_a4 {s : Nat} (h : s ∈ stL) : LY[s + 4]? = some (.inr (.inl (0, 8))) := by
  simp only [stL, List.mem_cons, List.not_mem_nil, or_false] at h
  rcases h with rfl | rfl | rfl | rfl | rfl <;> rfl
theorem st_a5 {s : Nat} (h : s ∈ stL) : LY[s + 5]? = some (.inr (.inl (0, 8))) := by
  simp only [stL, List.mem_cons, List.not_mem_nil, or_false] at h
  rcases h with rfl | rfl | rfl | rfl | rfl <;> rfl
theorem st_a6 {s : Nat} (h : s ∈ stL) : LY[s + 6]? = some (.inr (.inl (0, 8))) := by
  simp only [stL, List.mem_cons, List.not_mem_nil, or_false] at h
  rcases h with rfl | rfl | rfl | rfl | rfl <;> rfl
theorem st_a7 {s : Nat} (h : s ∈ stL) : LY[s + 7]? = some (.inr (.inl (0, 8))) := by
  simp only [stL, List.mem_cons, List.not_mem_nil, or_false] at h
  rcases h with rfl | rfl | rfl | rfl | rfl <;> rfl
theorem st_a8 {s : Nat} (h : s ∈ stL) : LY[s + 8]? = some (.inr (.inl (0, 60))) := by
  simp only [stL, List.mem_cons, List.not_mem_nil, or_false] at h
  rcases h with rfl | rfl | rfl | rfl | rfl <;> rfl
theorem of_a1 {s : Nat} (h : s ∈ ofL) : LY[s + 1]? = some (.inr (.inl (1, 100))) := by
  simp only [ofL, List.mem_cons, List.not_mem_nil, or_false] at h
  rcases h with rfl | rfl | rfl | rfl | rfl | rfl <;> rfl
theorem cl_lt {i : Int32} {n : Nat} (h : hIn i n) : Int32.toNatClampNeg i < n := by
  have h2 : ¬ n ≤ i.toNatClampNeg := fun q => (hIn_vp h) (Or.inr q)
  omega
theorem of_rb : ∀ k, k < 6 → ([6, 8, 10, 12, 14, 16] : List Nat)[k]? = some (6 + 2 * k) := by decide +kernel
theorem of_r {i : Int32} (h : hIn i 6) : ([6, 8, 10, 12, 14, 16] : List Nat)[i.toNatClampNeg]? = some (6 + 2 * i.toNatClampNeg) := of_rb _ (cl_lt h)
theorem of_ob : ∀ k, k < 6 → 6 + 2 * k ∈ ofL := by decide +kernel
theorem of_o {i : Int32} (h : hIn i 6) : 6 + 2 * i.toNatClampNeg ∈ ofL := of_ob _ (cl_lt h)
theorem kp_rb : ∀ k, k < 3 → ([69, 78, 87] : List Nat)[k]? = some (69 + 9 * k) := by decide +kernel
theorem kp_r {i : Int32} (h : hIn i 3) : ([69, 78, 87] : List Nat)[i.toNatClampNeg]? = some (69 + 9 * i.toNatClampNeg) := kp_rb _ (cl_lt h)
theorem kp_ob : ∀ k, k < 3 → 69 + 9 * k ∈ stL := by decide +kernel
theorem kp_o {i : Int32} (h : hIn i 3) : 69 + 9 * i.toNatClampNeg ∈ stL := kp_ob _ (cl_lt h)
