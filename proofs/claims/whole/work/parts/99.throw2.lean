/-! ===== the class throws: the row, the contract ===== -/
def hK3 (U : State) : Prop := ∀ w ∈ nsC, va_Nw w U
theorem nsC_c {w : Cond} (h : w ∈ nsC) : (∃ a b, w = .castable a b) ∨ ∃ x, w = .declares x := by
  simp only [nsC, List.mem_cons, List.not_mem_nil, or_false] at h
  rcases h with rfl | rfl | rfl | rfl
  · exact Or.inl ⟨_, _, rfl⟩
  · exact Or.inr ⟨_, rfl⟩
  · exact Or.inr ⟨_, rfl⟩
  · exact Or.inr ⟨_, rfl⟩
theorem hK3.warm {s U : State} (hW : s.WarmedH U.vm) (h : hK3 s) : hK3 U := fun w hw => by
  rcases nsC_c hw with ⟨a, b, rfl⟩ | ⟨x, rfl⟩
  · exact va_Nw.warmC hW (h _ hw)
  · exact va_Nw.warmD hW (h _ hw)
theorem hK3.same {s U : State} (hv : s.vm = U.vm) (h : hK3 s) : hK3 U := fun w hw => by
  rcases nsC_c hw with ⟨a, b, rfl⟩ | ⟨x, rfl⟩
  · exact va_Nw.same rfl hv (h _ hw)
  · exact va_Nw.same rfl hv (h _ hw)
theorem hK3.use {U : State} {A : Array Value} (h : hK3 U) : ∀ w ∈ nsC, w.before A U = true := fun w hw => by
  rcases nsC_c hw with ⟨a, b, rfl⟩ | ⟨x, rfl⟩
  · exact va_Nw.use rfl (h _ hw)
  · exact va_Nw.use rfl (h _ hw)
/-- how the class throws: nothing written -/
def xC (G : hG) (m : hM) : String → State → State → Prop := fun E st t => E = nsE ∧ hR G m t.heap ∧ va_F (fun q => G.2.2.2.1 ≤ q) st t
/-- what a body of the class that may throw owes at its end -/
def CrX (G : hG) (X : hX) (m0 : hM) (Qc : Array Value → State → Outcome → State → Prop) : Prop :=
  match X with
  | (p, e, R, s, mt, args, below, meth, c, cs, sl, Qp) => cs = 0 ∧ sl = 0 ∧ 1 ≤ R.cells ∧ 6 ≤ R.slots ∧ (∀ x ∈ c.exceptionTable.toList, False) ∧ hK2 G s s.heap ∧ hK3 s ∧ Qp = fun _ _ => vx_MQ below Qc (xC G m0) args s 1 6 (fun q => G.2.2.2.1 ≤ q)
theorem wt_1 : Cond.classLink RX10 215 nsE ∈ lw_tb := tb_in (by decide +kernel) (by decide +kernel)
theorem wt_2 : Cond.initialized nsE ∈ lw_tb := tb_in (by decide +kernel) (by decide +kernel)
theorem rf_throw {α : Type} {vl : α → Option Value} {G : hG} {X : hX} {d : Nat} {cc : ByteArray} {nL : Nat} {ret : Option FieldType} {pc : Nat} {lv : List (Nat × Value)} {m : hM} {E : Option (α × hM)} {Qc : Array Value → State → Outcome → State → Prop} (C : Cx G X d cc nL RX10 ret) (K : CrX G X m Qc) (hd6 : 6 ≤ d) (d0 : decode cc pc = .ok (.new 215, 3)) (d3 : decode cc (pc + 3) = .ok (.dup, 1)) (d4 : decode cc (pc + 4) = .ok (.invokespecial 217, 3)) (d7 : decode cc (pc + 7) = .ok (.athrow, 1)) : Rf vl G X pc lv [] m E := by
  obtain ⟨p, e, R, s, mt, args, below, meth, c, cs, sl, Qp⟩ := X
  obtain ⟨hx, hb, hml, how, hts, hK, hr, hlk, hR⟩ := C
  obtain ⟨rfl, rfl, k1, k2, k3, k4, k5, rfl⟩ := K
  intro ls H locs a m' hl hh hS hE
  obtain ⟨z1, z2, z3, z4, z5, z6, z7⟩ := k4
  refine vx_throw0 (Qc := Qc) (names := nsN) (cls := nsE) hx hb z7 how (by decide) (by decide) (hts _ wt_1) (hts _ wt_2) (vx_hat (fun w h => hts _ (vxa_1 w h)) vxa_2 (k5.use)) vxa_3 z5 z6 hS hl.1 d0 d3 d4 d7 (fun x hx => (k3 x hx).elim) ?_ ?_ k1 k2 hlk (fun t ht hz hk => ⟨rfl, ?_, ?_, ?_⟩) hS.2.2 (Nat.le_refl _) (Nat.le_refl _)
  · have h1 := hR.1
    show 2 + 3 < R.frames
    omega
  · have h1 := hR.2.1
    show 0 + (13 * (2 + 1) + 42) ≤ R.locals
    omega
  · exact va_P.kept hh (fun k q hq => hk q.1 (hh k q hq).lt)
  · exact Nat.le_trans hS.1 hz
  · intro q h1 h2
    rw [hk q (Nat.lt_of_lt_of_le h1 hS.1)]
    exact hS.2.1 q h1 h2
/-- a method of the class on an input at which it throws -/
def MtX (G : hG) (d : Nat) (y : MethodName) (bytes : ByteArray) (maxL : Nat) (ret : Option FieldType) (av : List Value) (m : hM) : Prop :=
  vx_Met G.1 y (Cond.code y bytes maxL ret :: lw_tb) (rmK d 1 6) (va_Pc av (fun U => hR G m U.heap ∧ hKK G U U.heap ∧ hK2 G U U.heap ∧ hK3 U)) (fun _ _ _ _ => False) (xC G m) 1 6 (fun q => G.2.2.2.1 ≤ q)
theorem mtX_of {G : hG} {d : Nat} {cc : ByteArray} {ret : Option FieldType} {m : hM} {y : MethodName} {maxL : Nat} {av : List Value} (hy : plainName y.cls = true) (hlen : (lg_sl av).length ≤ maxL) (h : ∀ X : hX, Cx G X d cc maxL y.cls ret → CrX G X m (fun _ _ _ _ => False) → Rf vU G X 0 (lv_args 0 av) [] m (some ((), m))) : MtX G d y cc maxL ret av m := by
  refine vx_ofW (cc := cc) (maxL := maxL) (ret := ret) hy rfl ?_
  intro p e s mt args below meth c s₁ B hml htab hv
  obtain ⟨rfl, hh, hK, hK2', hK3'⟩ := hv
  have hts0 := atoms_spec (ws := Cond.code y cc maxL ret :: lw_tb) B.pre
  have hl := lv_entry av (n := maxL) hlen
  have w := h (p, e, rmK d 1 6, s, mt, av.toArray, below, meth, c, 0, 0, fun _ _ => vx_MQ below (fun _ _ _ _ => False) (xC G m) av.toArray s 1 6 (fun q => G.2.2.2.1 ≤ q)) ⟨B.exec, B.bytes, hml, findClass_of_methodNamed B.named, fun w hw => hts0 w (List.mem_cons_of_mem _ hw), hK, B.returns, B.notSynchronized, ⟨Nat.le_refl _, Nat.le_refl _, Nat.zero_le _, Nat.zero_le _⟩⟩ ⟨rfl, rfl, Nat.le_refl _, Nat.le_refl _, htab, hK2', hK3', rfl⟩ _ _ _ () m (by rw [hml]; exact hl) hh va_S.rf rfl
  show W p G.1 e (rmK d 1 6) s mt av.toArray below meth c s.heap [] 0 0 _ (entryFrame mt av.toArray maxL)
  rw [lg_entry_eq]
  exact w
