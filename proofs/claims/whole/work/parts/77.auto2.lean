/-! ===== the rule's reading: a sign taken by the class ===== -/
theorem ix_let : ∀ c, c < 256 → ∀ k, k < 12 → ((byS.getD 0 []).getD k 0 = (Int32.toInt8 (nI c)).toInt32 ↔ lettC.getD k 0 = c) := by decide +kernel
theorem cx_indexOf {fu : Nat} (hfu : 100 ≤ fu) {c : Nat} (hc : c < 256) (m : hM) : ∃ y, f_J0_indexOf_0f7a4 fu 0 (nI c) m = some (y, m) ∧ (y < 0 ↔ ¬ c ∈ lettC) := by
  have key : ∀ (t k : Nat), k ≤ 12 → 12 - k < t → (∀ j, j < k → ¬ lettC.getD j 0 = c) → ∃ y, f_J1_indexOfChar_4cfef_7 fu t 0 (nI 12) (Int32.toInt8 (nI c)).toInt32 (nI k) m = some (y, m) ∧ (y < 0 ↔ ¬ c ∈ lettC) := by
    intro t
    induction t with
    | zero => intro k h1 h2; exact absurd h2 (Nat.not_lt_zero _)
    | succ t ih =>
      intro k hk ht hn
      rw [f_J1_indexOfChar_4cfef_7_s]
      unfold s_J1_indexOfChar_4cfef_7
      by_cases q : nI 12 ≤ nI k
      · rw [if_pos q]
        rw [nI_leI (by omega) (by omega)] at q
        refine ⟨-1, rfl, ⟨fun _ hm => ?_, fun _ => by decide⟩⟩
        obtain ⟨j, hj, e⟩ := List.mem_iff_getElem.mp hm
        have hj12 : j < 12 := hj
        refine hn j (by omega) ?_
        rw [List.getD_eq_getElem?_getD, List.getElem?_eq_getElem hj, e]; rfl
      · rw [if_neg q]
        rw [nI_leI (by omega) (by omega)] at q
        rw [if_pos (hIn_lt (show k < lnS.getD 0 0 from (by show k < 12; omega)) (by decide)), nI_clamp (show k < 2 ^ 31 by omega), hLet_n, nI_1]
        have e := ix_let c hc k (by omega)
        by_cases q2 : lettC.getD k 0 = c
        · rw [if_neg (fun z => z (e.mpr q2))]
          refine ⟨nI k, rfl, ⟨fun z => absurd z (nI_pos (by omega)), fun z => absurd ?_ z⟩⟩
          rw [← q2, List.getD_eq_getElem?_getD, List.getElem?_eq_getElem (show k < lettC.length from (by show k < 12; omega))]
          exact List.getElem_mem _
        · have ne : ¬ (byS.getD 0 []).getD k 0 = (Int32.toInt8 (nI c)).toInt32 := fun z => q2 (e.mp z)
          rw [if_pos ne]
          refine ih (k + 1) (by omega) (by omega) (fun j hj => ?_)
          by_cases ej : j = k
          · rw [ej]; exact q2
          · exact hn j (by omega)
  obtain ⟨y, h1, h2⟩ := key fu 0 (by omega) (by omega) (fun j hj => absurd hj (Nat.not_lt_zero _))
  refine ⟨y, ?_, h2⟩
  unfold f_J0_indexOf_0f7a4 f_J0_indexOf_7cf53 f_J0_isLatin1_aae02 f_J0_length_8abf5 f_J0_coder_7d493 f_J1_indexOf_4cfef f_J1_canEncode_9a6ad f_J1_indexOfChar_4cfef
  rw [if_pos (by decide), if_pos (by decide), if_pos (by decide), hBd_some, if_neg (by decide), if_pos (by decide), if_pos (by decide), hBd_some, hBd_some, if_pos (by decide), if_neg (nI_pos (by omega)), if_neg (show ¬ (255 : Int32) < nI c from nI_nlt (a := 255) (by omega) (by omega)), hBd_some, if_pos (by decide), e_max, hBd_some, e_min, hBd_some]
  rw [show (if (0 : Int32) < 0 then (0 : Int32) else 0) = nI 0 from rfl, show (if Int32.ofNat (lnS.getD 0 0) < Int32.ofNat (lnS.getD 0 0) >>> ((0 : Int32) &&& 31) then Int32.ofNat (lnS.getD 0 0) else Int32.ofNat (lnS.getD 0 0) >>> ((0 : Int32) &&& 31)) = nI 12 by decide +kernel, if_pos (by decide), if_pos (by decide), hLet_n, h1, hBd_some, hBd_some, hBd_some]
theorem cx_isDigit (fu : Nat) {c : Nat} (hc : c < 256) (m : hM) : f_X6_isDigit fu (nI c) m = some (if 48 ≤ c ∧ c ≤ 57 then 1 else 0, m) := by
  unfold f_X6_isDigit
  by_cases h1 : c < 48
  · rw [if_pos (show nI c < 48 from nI_lt (b := 48) h1 (by omega)), if_neg (by omega)]
  · rw [if_neg (show ¬ nI c < 48 from nI_nlt (b := 48) (by omega) (by omega))]
    by_cases h2 : 57 < c
    · rw [if_pos (show (57 : Int32) < nI c from nI_lt (a := 57) h2 (by omega)), if_neg (by omega)]
    · rw [if_neg (show ¬ (57 : Int32) < nI c from nI_nlt (a := 57) (by omega) (by omega)), if_pos (by omega)]
theorem lett_dig {c : Nat} (h : c ∈ lettC) : ¬ c = 33 ∧ ¬ c = 45 ∧ ¬ c = 40 ∧ ¬ (48 ≤ c ∧ c ≤ 57) ∧ c < 256 := by
  simp only [lettC, List.mem_cons, List.not_mem_nil, or_false] at h
  omega
theorem cx_takeThing {fu : Nat} (hfu : 100 ≤ fu) {m : hM} {c dg : Nat} {cm : List Bool} {P C : List Nat} (hc : c < 256) (h : cAS m (true, dg, cm, P, C)) (hl : P.length + C.length < 40) :
    ∃ y m', f_X6_takeThing fu (nI c) m = some (y, m') ∧ fr PA m m' ∧ ((∃ a, stp (true, dg, cm, P, C) c = some a ∧ y = 1 ∧ cAS m' a) ∨ (stp (true, dg, cm, P, C) c = none ∧ y = 0)) := by
  obtain ⟨h1, h2, h3, h4, h5, h6, h7, h8, h9, h10, h11, h12, h13⟩ := h
  have ne : ∀ k : Nat, k < 256 → ((nI c = nI k) ↔ c = k) := fun k hk => nI_eq (by omega) (by omega)
  have pend : ∀ x, x < 256 → cAS (sI (sI m 30 P.length (nI x)) 28 3 (nI (P.length + 1))) (true, dg, cm, x :: P, C) := by
    intro x hx
    refine ⟨by rw [gI_sn (by omega), gI_sn (by omega)]; exact h1, by rw [gI_ss, List.length_cons], by rw [gI_sn (by omega), gI_sn (by omega)]; exact h3, by rw [gI_sn (by omega), gI_sn (by omega)]; exact h4, by rw [gI_sn (by omega), gI_sn (by omega)]; exact h5, rvR_cg h6 (fun i hi => by rw [gI_sn (by omega), gI_sn (by omega)]), rvR_cg (rvR_push h7) (fun i hi => by rw [gI_sn (by omega)]), rvR_cg h8 (fun i hi => by rw [gI_sn (by omega), gI_sn (by omega)]), h9, h10, h11, fun o ho => ?_, h13⟩
    rcases List.mem_cons.mp ho with rfl | ho
    · exact hx
    · exact h12 o ho
  have fpend : ∀ x, fr PA m (sI (sI m 30 P.length (nI x)) 28 3 (nI (P.length + 1))) := fun x => (fr.rf.si (by unfold PA; omega)).si (by unfold PA; omega)
  have code : ∀ x k, x < 3000 → k ≤ 3 → cAS (sI (sI (sI (sI m 29 C.length (nI x)) 28 1 (nI (C.length + 1))) 28 7 (nI k)) 28 6 0) (false, k, cm, P, x :: C) := by
    intro x k hx hk
    refine ⟨by rw [gI_sn (by omega), gI_sn (by omega), gI_ss, List.length_cons], by simp (disch := omega) only [gI_sn]; exact h2, by simp (disch := omega) only [gI_sn]; exact h3, by rw [gI_ss]; rfl, by rw [gI_sn (by omega), gI_ss], rvR_cg (rvR_push h6) (fun i hi => by simp (disch := omega) only [gI_sn]), rvR_cg h7 (fun i hi => by simp (disch := omega) only [gI_sn]), rvR_cg h8 (fun i hi => by simp (disch := omega) only [gI_sn]), h9, h10, hk, h12, fun z hz => ?_⟩
    rcases List.mem_cons.mp hz with rfl | hz
    · exact hx
    · exact h13 z hz
  have fcode : ∀ x k, fr PA m (sI (sI (sI (sI m 29 C.length (nI x)) 28 1 (nI (C.length + 1))) 28 7 k) 28 6 0) := fun x k => (((fr.rf.si (by unfold PA; omega)).si (by unfold PA; omega)).si (by unfold PA; omega)).si (by unfold PA; omega)
  unfold f_X6_takeThing f_X6_takeThing_12 f_X6_takeThing_25 f_X6_takeThing_92
  rw [stp]
  by_cases c33 : c = 33
  · rw [if_pos (show nI c = 33 by rw [c33]; rfl), if_pos (show ¬ nI c = 45 by rw [c33]; decide), if_pos c33, cx_putPending fu h2 (by omega), hBd_some]
    refine ⟨1, _, rfl, fpend _, Or.inl ⟨_, rfl, rfl, ?_⟩⟩
    have := pend 33 (by omega)
    rw [c33]; exact this
  rw [if_neg (show ¬ nI c = 33 from fun z => c33 ((ne 33 (by omega)).mp z)), if_neg c33]
  by_cases c45 : c = 45
  · rw [if_neg (show ¬ ¬ nI c = 45 by rw [c45]; exact fun z => z rfl), if_neg (show ¬ ¬ nI c = 45 by rw [c45]; exact fun z => z rfl), if_pos c45, show (126 : Int32) = nI 126 from rfl, cx_putPending fu h2 (by omega), hBd_some]
    exact ⟨1, _, rfl, fpend _, Or.inl ⟨_, rfl, rfl, pend 126 (by omega)⟩⟩
  have n45 : ¬ nI c = 45 := fun z => c45 ((ne 45 (by omega)).mp z)
  rw [if_pos n45, if_neg c45]
  by_cases c40 : c = 40
  · rw [if_neg (show ¬ ¬ nI c = 40 by rw [c40]; exact fun z => z rfl), if_pos c40]
    unfold f_X6_takeBracket
    rw [h3]
    by_cases c6 : cm.length = 6
    · rw [if_neg (show ¬ ¬ nI (cm.length - 1) = 5 by rw [c6]; exact fun z => z rfl), hBd_some, if_pos (Or.inl rfl), if_pos c6]
      exact ⟨0, m, rfl, fr.rf, Or.inr ⟨rfl, rfl⟩⟩
    · have n5 : ¬ nI (cm.length - 1) = 5 := fun z => by
        have := (nI_eq (show cm.length - 1 < 2 ^ 31 by omega) (show 5 < 2 ^ 31 by omega)).mp z
        omega
      have em : (cm.map b01).length = cm.length := List.length_map _
      rw [if_pos n5, if_neg c6, nI_1, show cm.length - 1 + 1 = cm.length by omega, hLet_n, gI_ss, if_pos (hIn_lt (show cm.length < 6 by omega) (by omega)), nI_clamp (by omega), hLet_n, nar_b (Or.inl rfl), show (40 : Int32) = nI 40 from rfl, cx_putPending fu (m := sI (sI m 28 4 (nI cm.length)) 31 cm.length 0) (by rw [gI_sn (by omega), gI_sn (by omega)]; exact h2) (by omega), hBd_some, hBd_some, if_pos (Or.inr rfl)]
      refine ⟨1, _, rfl, (((fr.rf.si (by unfold PA; omega)).si (by unfold PA; omega)).si (by unfold PA; omega)).si (by unfold PA; omega), Or.inl ⟨_, rfl, rfl, ?_⟩⟩
      refine ⟨by simp (disch := omega) only [gI_sn]; exact h1, by rw [gI_ss, List.length_cons], by rw [gI_sn (by omega), gI_sn (by omega), gI_sn (by omega), gI_ss, List.length_cons, Nat.add_sub_cancel], by simp (disch := omega) only [gI_sn]; exact h4, by simp (disch := omega) only [gI_sn]; exact h5, rvR_cg h6 (fun i hi => by simp (disch := omega) only [gI_sn]), ?_, ?_, by rw [List.length_cons]; omega, by rw [List.length_cons]; omega, h11, fun o ho => ?_, h13⟩
      · exact rvR_cg (rvR_push (x := 40) (rvR_cg (m' := sI (sI m 28 4 (nI cm.length)) 31 cm.length 0) h7 (fun i hi => by rw [gI_sn (by omega), gI_sn (by omega)]))) (fun i hi => by rw [gI_sn (by omega)])
      · have q := rvR_push (x := 0) (rvR_cg (m' := sI m 28 4 (nI cm.length)) h8 (fun i hi => by rw [gI_sn (by omega)]))
        rw [em] at q
        exact rvR_cg (L := (false :: cm).map b01) q (fun i hi => by rw [gI_sn (by omega), gI_sn (by omega)]; rfl)
      · rcases List.mem_cons.mp ho with rfl | ho
        · omega
        · exact h12 o ho
  have n40 : ¬ nI c = 40 := fun z => c40 ((ne 40 (by omega)).mp z)
  rw [if_pos n40, if_neg c40, cx_isDigit fu hc, hBd_some]
  by_cases cd : 48 ≤ c ∧ c ≤ 57
  · rw [if_pos cd, if_neg (by decide), if_pos cd, show (48 : Int32) = nI 48 from rfl, pk_sub cd.1, cx_putCode fu h1 (by omega), hBd_some, hLet_n, hLet_n]
    exact ⟨1, _, rfl, fcode _ _, Or.inl ⟨_, rfl, rfl, code (c - 48) 1 (by omega) (by omega)⟩⟩
  rw [if_neg cd, if_pos rfl, if_neg cd]
  obtain ⟨y, g1, g2⟩ := cx_indexOf hfu hc m
  rw [g1, hBd_some]
  by_cases cl : c ∈ lettC
  · have ny : ¬ y < 0 := fun z => g2.mp z cl
    rw [if_neg ny, if_pos cl, show (1000 : Int32) = nI 1000 from rfl, nI_add, cx_putCode fu h1 (by omega), hBd_some, hLet_n, hLet_n]
    exact ⟨1, _, rfl, fcode _ _, Or.inl ⟨_, rfl, rfl, code (1000 + c) 0 (by omega) (by omega)⟩⟩
  · rw [if_pos (g2.mpr cl), if_neg cl]
    exact ⟨0, m, rfl, fr.rf, Or.inr ⟨rfl, rfl⟩⟩
