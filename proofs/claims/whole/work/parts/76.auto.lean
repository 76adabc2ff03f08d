/-! ===== the rule's reading: the class, sign by sign ===== -/
def lettC : List Nat := [107, 108, 111, 119, 114, 99, 115, 98, 113, 112, 102, 110]
def lvl (c : Nat) : Nat := if c = 33 then 6 else if c = 38 then 2 else if c = 42 then 5 else if c = 43 then 4 else if c = 45 then 4 else if c = 60 then 3 else if c = 61 then 3 else if c = 62 then 3 else if c = 124 then 1 else if c = 126 then 6 else 0
/-- due, digits, compared by brackets (the innermost first), pending (the last first), code (the last first) -/
abbrev AS : Type := Bool × Nat × List Bool × List Nat × List Nat
def clo (l : Nat) : List Nat → List Nat → List Nat × List Nat
  | [], C => ([], C)
  | o :: P, C => if o = 40 ∨ lvl o < l then (o :: P, C) else clo l P ((2000 + o) :: C)
def fls : List Nat → List Nat → List Nat
  | [], C => C
  | o :: K, C => fls K ((2000 + o) :: C)
def dgS (dg c : Nat) (cm : List Bool) (P : List Nat) : List Nat → Option AS
  | [] => none
  | x :: C => if dg = 0 ∨ dg = 3 then none else some (false, dg + 1, cm, P, (x * 10 + (c - 48)) :: C)
def stp : AS → Nat → Option AS
  | (true, dg, cm, P, C), c => if c = 33 then some (true, dg, cm, 33 :: P, C) else if c = 45 then some (true, dg, cm, 126 :: P, C) else if c = 40 then (if cm.length = 6 then none else some (true, dg, false :: cm, 40 :: P, C)) else if 48 ≤ c ∧ c ≤ 57 then some (false, 1, cm, P, (c - 48) :: C) else if c ∈ lettC then some (false, 0, cm, P, (1000 + c) :: C) else none
  | (false, dg, cm, P, C), c => if 48 ≤ c ∧ c ≤ 57 then dgS dg c cm P C else if c = 41 then (if cm.length ≤ 1 then none else some (false, 0, cm.tail, (clo 0 P C).1.tail, (clo 0 P C).2)) else if lvl c = 0 ∨ lvl c = 6 then none else if lvl c = 3 ∧ cm.headD false = true then none else some (true, 0, (if lvl c ≤ 3 then decide (lvl c = 3) :: cm.tail else cm), c :: (clo (lvl c) P C).1, (clo (lvl c) P C).2)
/-! cells and lists, the last first -/
def rvR (a : Nat) (m : hM) (L : List Nat) : Prop := ∀ i, i < L.length → gI m a i = nI (L.getD (L.length - 1 - i) 0)
theorem rvR_push {a x : Nat} {m : hM} {L : List Nat} (h : rvR a m L) : rvR a (sI m a L.length (nI x)) (x :: L) := by
  intro i hi
  rw [List.length_cons] at hi ⊢
  by_cases e : i = L.length
  · subst e
    rw [gI_ss, show L.length + 1 - 1 - L.length = 0 by omega]; rfl
  · rw [gI_sn (by omega), h i (by omega), show L.length + 1 - 1 - i = L.length - 1 - i + 1 by omega]; rfl
theorem rvR_top {a x : Nat} {m : hM} {L : List Nat} (h : rvR a m (x :: L)) : gI m a L.length = nI x ∧ rvR a m L := by
  refine ⟨?_, fun i hi => ?_⟩
  · have := h L.length (by rw [List.length_cons]; omega)
    rw [List.length_cons, show L.length + 1 - 1 - L.length = 0 by omega] at this
    exact this
  · have := h i (by rw [List.length_cons]; omega)
    rw [List.length_cons, show L.length + 1 - 1 - i = L.length - 1 - i + 1 by omega] at this
    exact this
theorem rvR_cg {a : Nat} {m m' : hM} {L : List Nat} (h : rvR a m L) (g : ∀ i, i < L.length → gI m' a i = gI m a i) : rvR a m' L := fun i hi => by rw [g i hi]; exact h i hi
theorem rvR_set {a x y : Nat} {m : hM} {L : List Nat} (h : rvR a m (x :: L)) : rvR a (sI m a L.length (nI y)) (y :: L) := rvR_push (rvR_top h).2
def b01 (b : Bool) : Nat := if b then 1 else 0
/-- the class's memory as the automaton has it -/
def cAS (m : hM) : AS → Prop := fun (due, dg, cm, P, C) => gI m 28 1 = nI C.length ∧ gI m 28 3 = nI P.length ∧ gI m 28 4 = nI (cm.length - 1) ∧ gI m 28 6 = nI (b01 due) ∧ gI m 28 7 = nI dg ∧ rvR 29 m C ∧ rvR 30 m P ∧ rvR 31 m (cm.map b01) ∧ 1 ≤ cm.length ∧ cm.length ≤ 6 ∧ dg ≤ 3 ∧ (∀ o ∈ P, o < 256) ∧ (∀ x ∈ C, x < 3000)
def PA (a _j : Nat) : Prop := 28 ≤ a ∧ a ≤ 31
theorem cx_putCode (fu : Nat) {m : hM} {x : Nat} {C : List Nat} (h1 : gI m 28 1 = nI C.length) (hC : C.length < 40) : f_X6_putCode fu (nI x) m = some ((), sI (sI m 29 C.length (nI x)) 28 1 (nI (C.length + 1))) := by
  unfold f_X6_putCode
  rw [h1, if_neg (show ¬ (40 : Int32) ≤ nI C.length from nI_ge (b := 40) (by omega) (by omega)), if_pos (hIn_lt hC (by omega)), hLet_n, hLet_n, nI_clamp (by omega), gI_sn (by omega), h1, nI_1]
theorem cx_putPending (fu : Nat) {m : hM} {x : Nat} {P : List Nat} (h1 : gI m 28 3 = nI P.length) (hP : P.length < 40) : f_X6_putPending fu (nI x) m = some ((), sI (sI m 30 P.length (nI x)) 28 3 (nI (P.length + 1))) := by
  unfold f_X6_putPending
  rw [h1, if_neg (show ¬ (40 : Int32) ≤ nI P.length from nI_ge (b := 40) (by omega) (by omega)), if_pos (hIn_lt hP (by omega)), hLet_n, hLet_n, nI_clamp (by omega), gI_sn (by omega), h1, nI_1]
theorem cx_levelOf (fu : Nat) {c : Nat} (hc : c < 256) (m : hM) : f_X6_levelOf fu (nI c) m = some (nI (lvl c), m) := by
  have e : ∀ k : Nat, k < 256 → ((nI c = nI k) ↔ c = k) := fun k hk => nI_eq (by omega) (by omega)
  unfold f_X6_levelOf
  simp only [show (33 : Int32) = nI 33 from rfl, show (38 : Int32) = nI 38 from rfl, show (42 : Int32) = nI 42 from rfl, show (43 : Int32) = nI 43 from rfl, show (45 : Int32) = nI 45 from rfl, show (60 : Int32) = nI 60 from rfl, show (61 : Int32) = nI 61 from rfl, show (62 : Int32) = nI 62 from rfl, show (124 : Int32) = nI 124 from rfl, show (126 : Int32) = nI 126 from rfl, e 33 (by omega), e 38 (by omega), e 42 (by omega), e 43 (by omega), e 45 (by omega), e 60 (by omega), e 61 (by omega), e 62 (by omega), e 124 (by omega), e 126 (by omega)]
  unfold lvl
  by_cases h1 : c = 33
  · rw [if_pos h1, if_pos h1]; rfl
  rw [if_neg h1, if_neg h1]
  by_cases h2 : c = 38
  · rw [if_pos h2, if_pos h2]; rfl
  rw [if_neg h2, if_neg h2]
  by_cases h3 : c = 42
  · rw [if_pos h3, if_pos h3]; rfl
  rw [if_neg h3, if_neg h3]
  by_cases h4 : c = 43
  · rw [if_pos h4, if_pos h4]; rfl
  rw [if_neg h4, if_neg h4]
  by_cases h5 : c = 45
  · rw [if_pos h5, if_pos h5]; rfl
  rw [if_neg h5, if_neg h5]
  by_cases h6 : c = 60
  · rw [if_pos h6, if_pos h6]; rfl
  rw [if_neg h6, if_neg h6]
  by_cases h7 : c = 61
  · rw [if_pos h7, if_pos h7]; rfl
  rw [if_neg h7, if_neg h7]
  by_cases h8 : c = 62
  · rw [if_pos h8, if_pos h8]; rfl
  rw [if_neg h8, if_neg h8]
  by_cases h9 : c = 124
  · rw [if_pos h9, if_pos h9]; rfl
  rw [if_neg h9, if_neg h9]
  by_cases h10 : c = 126
  · rw [if_pos h10, if_pos h10]; rfl
  rw [if_neg h10, if_neg h10]; rfl
theorem lvl_le (c : Nat) : lvl c ≤ 6 := by unfold lvl; repeat' split
                                           all_goals omega
theorem clo_len (l : Nat) : ∀ P C, (clo l P C).1.length + (clo l P C).2.length = P.length + C.length ∧ (clo l P C).1.length ≤ P.length
  | [], C => ⟨rfl, Nat.le_refl _⟩
  | o :: P, C => by
    rw [clo]
    split
    · exact ⟨rfl, Nat.le_refl _⟩
    · have := clo_len l P ((2000 + o) :: C)
      simp only [List.length_cons] at this ⊢
      omega
theorem clo_in (l : Nat) : ∀ P C, (∀ o ∈ P, o < 256) → (∀ x ∈ C, x < 3000) → (∀ o ∈ (clo l P C).1, o < 256) ∧ ∀ x ∈ (clo l P C).2, x < 3000
  | [], C, h1, h2 => ⟨h1, h2⟩
  | o :: P, C, h1, h2 => by
    rw [clo]
    split
    · exact ⟨h1, h2⟩
    · refine clo_in l P _ (fun z hz => h1 z (List.mem_cons_of_mem _ hz)) (fun x hx => ?_)
      rcases List.mem_cons.mp hx with rfl | hx
      · have := h1 o List.mem_cons_self; omega
      · exact h2 x hx
/-- closeDownTo -/
theorem cx_closeDownTo {fu : Nat} (hfu : 100 ≤ fu) {l : Nat} (hl : l ≤ 6) : ∀ (P C : List Nat) (m : hM), gI m 28 1 = nI C.length → gI m 28 3 = nI P.length → rvR 29 m C → rvR 30 m P → (∀ o ∈ P, o < 256) → P.length + C.length ≤ 40 →
    ∃ m', f_X6_closeDownTo fu (nI l) m = some ((), m') ∧ gI m' 28 1 = nI (clo l P C).2.length ∧ gI m' 28 3 = nI (clo l P C).1.length ∧ rvR 29 m' (clo l P C).2 ∧ rvR 30 m' (clo l P C).1 ∧ fr (fun a j => a = 29 ∨ (a = 28 ∧ (j = 1 ∨ j = 3))) m m' := by
  have key : ∀ (P C : List Nat) (t : Nat) (m : hM), P.length < t → gI m 28 1 = nI C.length → gI m 28 3 = nI P.length → rvR 29 m C → rvR 30 m P → (∀ o ∈ P, o < 256) → P.length + C.length ≤ 40 →
      ∃ m', f_X6_closeDownTo_7 fu t (nI l) (nI P.length - 1) m = some ((), m') ∧ gI m' 28 1 = nI (clo l P C).2.length ∧ gI m' 28 3 = nI (clo l P C).1.length ∧ rvR 29 m' (clo l P C).2 ∧ rvR 30 m' (clo l P C).1 ∧ fr (fun a j => a = 29 ∨ (a = 28 ∧ (j = 1 ∨ j = 3))) m m' := by
    intro P
    induction P with
    | nil =>
      intro C t m ht h1 h2 h3 h4 h5 h6
      obtain ⟨t', rfl⟩ : ∃ t', t = t' + 1 := ⟨t - 1, by omega⟩
      rw [f_X6_closeDownTo_7_s]
      unfold s_X6_closeDownTo_7
      rw [if_pos (show nI ([] : List Nat).length - 1 < 0 by decide)]
      exact ⟨m, rfl, h1, h2, h3, h4, fr.rf⟩
    | cons o P ih =>
      intro C t m ht h1 h2 h3 h4 h5 h6
      rw [List.length_cons] at ht h6
      obtain ⟨t', rfl⟩ : ∃ t', t = t' + 1 := ⟨t - 1, by omega⟩
      obtain ⟨g1, g2⟩ := rvR_top h4
      have ho := h5 o List.mem_cons_self
      rw [f_X6_closeDownTo_7_s]
      unfold s_X6_closeDownTo_7
      rw [List.length_cons, nI_pred, if_neg (nI_pos (by omega)), if_pos (hIn_lt (show P.length < 40 by omega) (by omega)), nI_clamp (show P.length < 2 ^ 31 by omega), g1, clo]
      by_cases c1 : o = 40
      · rw [if_pos (show nI o = 40 by rw [c1]; rfl), if_pos (Or.inl c1)]
        exact ⟨m, rfl, h1, h2, h3, h4, fr.rf⟩
      · have hl9 := lvl_le o
        have c1' : ¬ nI o = 40 := fun z => c1 ((nI_eq (show o < 2 ^ 31 by omega) (show 40 < 2 ^ 31 by omega)).mp z)
        rw [if_neg c1', if_pos (hIn_lt (show P.length < 40 by omega) (by omega)), cx_levelOf fu ho, hBd_some]
        by_cases c2 : l ≤ lvl o
        · rw [if_pos (nI_le c2 (by omega)), if_pos (hIn_lt (show P.length < 40 by omega) (by omega)), g1, show (2000 : Int32) = nI 2000 from rfl, nI_add, cx_putCode fu h1 (by omega), hBd_some, hLet_n, hLet_n, if_neg (show ¬ (o = 40 ∨ lvl o < l) by omega)]
          have f1 : fr (fun a j => a = 29 ∨ (a = 28 ∧ (j = 1 ∨ j = 3))) m (sI (sI (sI m 29 C.length (nI (2000 + o))) 28 1 (nI (C.length + 1))) 28 3 (nI P.length)) := ((fr.rf.si (Or.inl rfl)).si (Or.inr ⟨rfl, Or.inl rfl⟩)).si (Or.inr ⟨rfl, Or.inr rfl⟩)
          obtain ⟨m', s1, s2, s3, s4, s5, s6⟩ := ih ((2000 + o) :: C) t' (sI (sI (sI m 29 C.length (nI (2000 + o))) 28 1 (nI (C.length + 1))) 28 3 (nI P.length)) (by omega) (by rw [gI_sn (by omega), gI_ss, List.length_cons]) (gI_ss _ _ _ _) (rvR_cg (rvR_push h3) (fun i hi => by rw [gI_sn (by omega), gI_sn (by omega)])) (rvR_cg g2 (fun i hi => by rw [gI_sn (by omega), gI_sn (by omega), gI_sn (by omega)])) (fun z hz => h5 z (List.mem_cons_of_mem _ hz)) (by rw [List.length_cons]; omega)
          refine ⟨m', ?_, s2, s3, s4, s5, f1.tr s6⟩
          rw [show nI P.length + (-1) = nI P.length - 1 by rw [Int32.sub_eq_add_neg]]
          exact s1
        · rw [if_neg (nI_ge (by omega) (by omega)), if_pos (Or.inr (by omega))]
          exact ⟨m, rfl, h1, h2, h3, h4, fr.rf⟩
  intro P C m h1 h2 h3 h4 h5 h6
  unfold f_X6_closeDownTo
  rw [hLet_n, h2]
  exact key P C fu m (by omega) h1 h2 h3 h4 h5 h6
