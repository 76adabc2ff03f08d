/-! ===== the rule's reading: the class, behind a thing; the whole text ===== -/
def okD : AS → Prop := fun (_, dg, _, _, C) => ∀ x C', C = x :: C' → dg ≠ 0 → x < 10 ^ dg
def szA : AS → Nat := fun (_, _, _, P, C) => P.length + C.length
theorem stp_sz {a a' : AS} {c : Nat} (h : stp a c = some a') : szA a' ≤ szA a + 1 := by
  obtain ⟨due, dg, cm, P, C⟩ := a
  cases due with
  | true =>
    rw [stp] at h
    repeat' split at h
    all_goals first | (cases h; unfold szA; simp only [List.length_cons]; omega) | (cases h)
  | false =>
    rw [stp] at h
    have q0 := clo_len 0 P C
    have q1 := clo_len (lvl c) P C
    split at h
    · cases C with
      | nil => cases h
      | cons x C =>
        rw [dgS] at h
        split at h
        · cases h
        · cases h; unfold szA; simp only [List.length_cons]; omega
    repeat' split at h
    all_goals first | (cases h; unfold szA; simp only [List.length_cons, List.length_tail]; omega) | (cases h)
theorem stp_D {a a' : AS} {c : Nat} (g : okD a) (h : stp a c = some a') : okD a' := by
  obtain ⟨due, dg, cm, P, C⟩ := a
  cases due with
  | true =>
    rw [stp] at h
    split at h
    · cases h; exact g
    split at h
    · cases h; exact g
    split at h
    · split at h
      · cases h
      · cases h; exact g
    split at h
    · next q => cases h; intro x C' e _; injection e with e1 e2; subst e1; omega
    split at h
    · cases h; intro x C' e z; exact absurd rfl z
    · cases h
  | false =>
    rw [stp] at h
    split at h
    · next q =>
      cases C with
      | nil => cases h
      | cons x C' =>
        rw [dgS] at h
        split at h
        · cases h
        · next z =>
          cases h
          intro y C2 e _
          injection e with e1 e2
          have := g x C' rfl (by omega)
          rw [Nat.pow_succ]; omega
    split at h
    · split at h
      · cases h
      · cases h; intro x C' e z; exact absurd rfl z
    split at h
    · cases h
    split at h
    · cases h
    · cases h; intro x C' e z; exact absurd rfl z
theorem tail_rv {a : Nat} {m : hM} {L : List Nat} (h : rvR a m L) : rvR a m L.tail := by
  cases L with
  | nil => exact h
  | cons x L => exact (rvR_top h).2
theorem cx_takeBehind {fu : Nat} (hfu : 100 ≤ fu) {m : hM} {c dg : Nat} {cm : List Bool} {P C : List Nat} (hc : c < 256) (h : cAS m (false, dg, cm, P, C)) (hD : okD (false, dg, cm, P, C)) (hl : P.length + C.length < 40) :
    ∃ y m', f_X6_takeBehindThing fu (nI c) m = some (y, m') ∧ fr PA m m' ∧ ((∃ a, stp (false, dg, cm, P, C) c = some a ∧ y = 1 ∧ cAS m' a) ∨ (stp (false, dg, cm, P, C) c = none ∧ y = 0)) := by
  obtain ⟨h1, h2, h3, h4, h5, h6, h7, h8, h9, h10, h11, h12, h13⟩ := h
  have ne : ∀ k : Nat, k < 256 → ((nI c = nI k) ↔ c = k) := fun k hk => nI_eq (by omega) (by omega)
  unfold f_X6_takeBehindThing
  rw [cx_isDigit fu hc, hBd_some, stp]
  by_cases cd : 48 ≤ c ∧ c ≤ 57
  · rw [if_pos cd, if_neg (by decide), if_pos cd]
    unfold f_X6_takeDigit
    rw [h5]
    cases C with
    | nil =>
      have e0 : nI ([] : List Nat).length = 0 := rfl
      by_cases d0 : dg = 0
      · rw [if_pos (show nI dg = 0 by rw [d0]; rfl), hBd_some, if_pos (Or.inl rfl)]
        exact ⟨0, m, rfl, fr.rf, Or.inr ⟨rfl, rfl⟩⟩
      · rw [if_neg (nI_ne0 (by omega) (by omega))]
        by_cases d3 : dg = 3
        · rw [if_pos (show nI dg = 3 by rw [d3]; rfl), hBd_some, if_pos (Or.inl rfl)]
          exact ⟨0, m, rfl, fr.rf, Or.inr ⟨rfl, rfl⟩⟩
        · have n3 : ¬ nI dg = 3 := fun z => d3 ((nI_eq (show dg < 2 ^ 31 by omega) (show 3 < 2 ^ 31 by omega)).mp z)
          rw [if_neg n3, h1, if_neg (fun z => z e0), hBd_some, if_pos (Or.inl rfl)]
          exact ⟨0, m, rfl, fr.rf, Or.inr ⟨rfl, rfl⟩⟩
    | cons x C =>
      show ∃ y m', _ ∧ _ ∧ ((∃ a, (if dg = 0 ∨ dg = 3 then none else some (false, dg + 1, cm, P, (x * 10 + (c - 48)) :: C)) = some a ∧ y = 1 ∧ cAS m' a) ∨ ((if dg = 0 ∨ dg = 3 then none else some (false, dg + 1, cm, P, (x * 10 + (c - 48)) :: C)) = none ∧ y = 0))
      by_cases d0 : dg = 0
      · rw [if_pos (show nI dg = 0 by rw [d0]; rfl), hBd_some, if_pos (Or.inl rfl), if_pos (Or.inl d0)]
        exact ⟨0, m, rfl, fr.rf, Or.inr ⟨rfl, rfl⟩⟩
      rw [if_neg (nI_ne0 (by omega) (by omega))]
      by_cases d3 : dg = 3
      · rw [if_pos (show nI dg = 3 by rw [d3]; rfl), hBd_some, if_pos (Or.inl rfl), if_pos (Or.inr d3)]
        exact ⟨0, m, rfl, fr.rf, Or.inr ⟨rfl, rfl⟩⟩
      have n3 : ¬ nI dg = 3 := fun z => d3 ((nI_eq (show dg < 2 ^ 31 by omega) (show 3 < 2 ^ 31 by omega)).mp z)
      have hx : x < 100 := by
        have := hD x C rfl d0
        have h2' : 10 ^ dg ≤ 10 ^ 2 := Nat.pow_le_pow_right (by omega) (by omega)
        omega
      rw [List.length_cons] at h1 hl
      have hi : hIn (nI C.length) 40 := hIn_lt (by omega) (by omega)
      have nz : ¬ nI (C.length + 1) = 0 := nI_ne0 (by omega) (by omega)
      rw [if_neg n3, h1, if_pos nz, nI_pred, if_pos hi, if_pos hi, nI_clamp (by omega), (rvR_top h6).1, hLet_n, hLet_n, gI_sn (by omega), h5, nI_1, show (10 : Int32) = nI 10 from rfl, show (48 : Int32) = nI 48 from rfl, pk_mul, pk_sub cd.1, nI_add, hBd_some, if_pos (Or.inr rfl), if_neg (by omega)]
      refine ⟨1, _, rfl, (fr.rf.si (by unfold PA; omega)).si (by unfold PA; omega), Or.inl ⟨_, rfl, rfl, ?_⟩⟩
      refine ⟨by rw [gI_sn (by omega), gI_sn (by omega), List.length_cons]; exact h1, by simp (disch := omega) only [gI_sn]; exact h2, by simp (disch := omega) only [gI_sn]; exact h3, by simp (disch := omega) only [gI_sn]; exact h4, gI_ss _ _ _ _, rvR_cg (rvR_set (y := x * 10 + (c - 48)) h6) (fun i hi => by rw [gI_sn (by omega)]), rvR_cg h7 (fun i hi => by simp (disch := omega) only [gI_sn]), rvR_cg h8 (fun i hi => by simp (disch := omega) only [gI_sn]), h9, h10, by omega, h12, fun z hz => ?_⟩
      rcases List.mem_cons.mp hz with rfl | hz
      · omega
      · exact h13 z (List.mem_cons_of_mem _ hz)
  rw [if_neg cd, if_pos rfl, if_neg cd, hLet_n]
  have f0 : fr PA m (sI m 28 7 0) := fr.rf.si (by unfold PA; omega)
  by_cases c41 : c = 41
  · rw [if_neg (show ¬ ¬ nI c = 41 by rw [c41]; exact fun z => z rfl), if_pos c41]
    unfold f_X6_takeClosing f_X6_takeClosing_32
    rw [gI_sn (by omega), h3]
    by_cases c1 : cm.length ≤ 1
    · rw [if_neg (show ¬ ¬ nI (cm.length - 1) = 0 by rw [show cm.length - 1 = 0 by omega]; exact fun z => z rfl), hBd_some, if_pos (Or.inl rfl), if_pos c1]
      exact ⟨0, _, rfl, f0, Or.inr ⟨rfl, rfl⟩⟩
    · have nz : ¬ nI (cm.length - 1) = 0 := nI_ne0 (by omega) (by omega)
      obtain ⟨m2, s1, s2, s3, s4, s5, s6⟩ := cx_closeDownTo hfu (l := 0) (by omega) P C (sI m 28 7 0) (by rw [gI_sn (by omega)]; exact h1) (by rw [gI_sn (by omega)]; exact h2) (rvR_cg h6 (fun i hi => by rw [gI_sn (by omega)])) (rvR_cg h7 (fun i hi => by rw [gI_sn (by omega)])) h12 (by omega)
      have hin := clo_in 0 P C h12 h13
      have hln := clo_len 0 P C
      have f2 : fr PA m m2 := f0.tr (s6.mono (fun a j z => by unfold PA; omega))
      have s1' : f_X6_closeDownTo fu 0 (sI m 28 7 0) = some ((), m2) := s1
      rw [if_pos nz, s1', hBd_some, s3, if_neg c1]
      have fin : ∀ x : Int32, x = nI ((clo 0 P C).1.tail).length → cAS (sI (sI m2 28 3 x) 28 4 (nI (cm.length - 1) - 1)) (false, 0, cm.tail, (clo 0 P C).1.tail, (clo 0 P C).2) := by
        intro x hx
        refine ⟨by rw [gI_sn (by omega), gI_sn (by omega)]; exact s2, by rw [gI_sn (by omega), gI_ss]; exact hx, ?_, by rw [gI_sn (by omega), gI_sn (by omega), s6.1 _ _ (by omega), gI_sn (by omega)]; exact h4, by rw [gI_sn (by omega), gI_sn (by omega), s6.1 _ _ (by omega), gI_ss]; rfl, rvR_cg s4 (fun i hi => by rw [gI_sn (by omega), gI_sn (by omega)]), rvR_cg (tail_rv s5) (fun i hi => by rw [gI_sn (by omega), gI_sn (by omega)]), ?_, by rw [List.length_tail]; omega, by rw [List.length_tail]; omega, by omega, fun o ho => hin.1 o (List.mem_of_mem_tail ho), hin.2⟩
        · rw [gI_ss, List.length_tail, show cm.length - 1 = cm.length - 1 - 1 + 1 by omega, nI_pred]; rfl
        · rw [List.map_tail]
          exact rvR_cg (tail_rv h8) (fun i hi => by rw [gI_sn (by omega), gI_sn (by omega), s6.1 _ _ (by omega), gI_sn (by omega)])
      have e4 : ∀ x : Int32, gI (sI m2 28 3 x) 28 4 = nI (cm.length - 1) := fun x => by rw [gI_sn (by omega), s6.1 _ _ (by omega), gI_sn (by omega)]; exact h3
      have ff : ∀ x y : Int32, fr PA m (sI (sI m2 28 3 x) 28 4 y) := fun x y => (f2.si (by unfold PA; omega)).si (by unfold PA; omega)
      cases hk : (clo 0 P C).1 with
      | nil =>
        rw [hk] at fin
        rw [if_pos (show nI ([] : List Nat).length ≤ 0 by decide), hLet_n, hLet_n, e4, hBd_some, if_pos (Or.inr rfl)]
        exact ⟨1, _, rfl, ff _ _, Or.inl ⟨_, rfl, rfl, fin _ rfl⟩⟩
      | cons o P' =>
        rw [hk] at fin hln
        rw [List.length_cons] at hln
        rw [if_neg (show ¬ nI (o :: P').length ≤ 0 from nI_ge (a := 0) (by rw [List.length_cons]; omega) (by rw [List.length_cons]; omega)), List.length_cons, nI_pred, hLet_n, hLet_n, e4, hBd_some, if_pos (Or.inr rfl)]
        exact ⟨1, _, rfl, ff _ _, Or.inl ⟨_, rfl, rfl, fin _ rfl⟩⟩
  have n41 : ¬ nI c = 41 := fun z => c41 ((ne 41 (by omega)).mp z)
  have hlv := lvl_le c
  have nl : ∀ k : Nat, k < 256 → ((nI (lvl c) = nI k) ↔ lvl c = k) := fun k hk => nI_eq (by omega) (by omega)
  rw [if_pos n41, if_neg c41, cx_levelOf fu hc, hBd_some]
  -- what follows once the sign may stand: cm' is the row of comparisons then
  have go : ∀ (m2 : hM) (cm' : List Bool), fr (fun a j => a = 31) (sI m 28 7 0) m2 → rvR 31 m2 (cm'.map b01) → cm'.length = cm.length → ∃ m', f_X6_takeBehindThing_88 fu (nI c) (nI (lvl c)) m2 = some (1, m') ∧ fr PA m m' ∧ cAS m' (true, 0, cm', c :: (clo (lvl c) P C).1, (clo (lvl c) P C).2) := by
    intro m2 cm' g r el
    obtain ⟨m3, s1, s2, s3, s4, s5, s6⟩ := cx_closeDownTo hfu (l := lvl c) hlv P C m2 (by rw [g.1 _ _ (by omega), gI_sn (by omega)]; exact h1) (by rw [g.1 _ _ (by omega), gI_sn (by omega)]; exact h2) (rvR_cg h6 (fun i hi => by rw [g.1 _ _ (by omega), gI_sn (by omega)])) (rvR_cg h7 (fun i hi => by rw [g.1 _ _ (by omega), gI_sn (by omega)])) h12 (by omega)
    have hin := clo_in (lvl c) P C h12 h13
    have hln := clo_len (lvl c) P C
    unfold f_X6_takeBehindThing_88
    rw [s1, hBd_some, cx_putPending fu s3 (by omega), hBd_some, hLet_n]
    refine ⟨_, rfl, (((f0.tr (g.mono (fun a j z => by unfold PA; omega))).tr (s6.mono (fun a j z => by unfold PA; omega))).si (by unfold PA; omega)).si (by unfold PA; omega) |>.si (by unfold PA; omega), ?_⟩
    refine ⟨by simp (disch := omega) only [gI_sn]; exact s2, by rw [gI_sn (by omega), gI_ss, List.length_cons], by rw [gI_sn (by omega), gI_sn (by omega), gI_sn (by omega), s6.1 _ _ (by omega), g.1 _ _ (by omega), gI_sn (by omega), el]; exact h3, by rw [gI_ss]; rfl, by rw [gI_sn (by omega), gI_sn (by omega), gI_sn (by omega), s6.1 _ _ (by omega), g.1 _ _ (by omega), gI_ss]; rfl, rvR_cg s4 (fun i hi => by simp (disch := omega) only [gI_sn]), rvR_cg (rvR_push (x := c) s5) (fun i hi => by rw [gI_sn (by omega), gI_sn (by omega)]), rvR_cg r (fun i hi => by rw [gI_sn (by omega), gI_sn (by omega), gI_sn (by omega), s6.1 _ _ (by omega)]), by omega, by omega, by omega, fun o ho => ?_, hin.2⟩
    rcases List.mem_cons.mp ho with rfl | ho
    · exact hc
    · exact hin.1 o ho
  have em : (cm.map b01).length = cm.length := List.length_map _
  have r0 : rvR 31 (sI m 28 7 0) (cm.map b01) := rvR_cg h8 (fun i hi => by rw [gI_sn (by omega)])
  cases cm with
  | nil => exact absurd h9 (by decide)
  | cons hd tl =>
  have el : (hd :: tl).length = tl.length + 1 := List.length_cons
  have e4 : gI (sI m 28 7 0) 28 4 = nI tl.length := by rw [gI_sn (by omega), h3, el, Nat.add_sub_cancel]
  have e31 : gI (sI m 28 7 0) 31 tl.length = nI (b01 hd) := by
    have := (rvR_top (x := b01 hd) (L := tl.map b01) r0).1
    rw [List.length_map] at this
    exact this
  have hi6 : hIn (nI tl.length) 6 := hIn_lt (by omega) (by omega)
  have ct : (nI tl.length).toNatClampNeg = tl.length := nI_clamp (by omega)
  -- with the mark of a comparison set to b
  have go2 : ∀ (b : Bool), (lvl c ≤ 3 → b = decide (lvl c = 3)) → ∃ m', f_X6_takeBehindThing_73 fu (nI c) (nI (lvl c)) (nI (b01 b)) (sI m 28 7 0) = some (1, m') ∧ fr PA m m' ∧ cAS m' (true, 0, (if lvl c ≤ 3 then decide (lvl c = 3) :: (hd :: tl).tail else hd :: tl), c :: (clo (lvl c) P C).1, (clo (lvl c) P C).2) := by
    intro b hb
    unfold f_X6_takeBehindThing_73
    by_cases q : 3 < lvl c
    · rw [if_pos (show (3 : Int32) < nI (lvl c) from nI_lt (a := 3) q (by omega)), if_neg (show ¬ lvl c ≤ 3 by omega)]
      exact go _ _ fr.rf r0 rfl
    · rw [if_neg (show ¬ (3 : Int32) < nI (lvl c) from nI_nlt (a := 3) (by omega) (by omega)), e4, if_pos hi6, hLet_n, ct, if_pos (show lvl c ≤ 3 by omega), nar_b (by cases b; exact Or.inl rfl; exact Or.inr rfl), ← hb (by omega)]
      refine go _ (b :: tl) (fr.rf.si rfl) ?_ rfl
      have := rvR_set (y := b01 b) (x := b01 hd) (L := tl.map b01) r0
      rw [List.length_map] at this
      exact this
  by_cases z0 : lvl c = 0 ∨ lvl c = 6
  · rw [if_pos z0]
    refine ⟨0, sI m 28 7 0, ?_, f0, Or.inr ⟨rfl, rfl⟩⟩
    have n3 : ¬ nI (lvl c) = 3 := fun z => by have := (nl 3 (by omega)).mp z; omega
    rw [if_pos n3]
    unfold f_X6_takeBehindThing_44
    rcases z0 with z | z
    · rw [if_pos (show nI (lvl c) = 0 by rw [z]; rfl)]
    · rw [if_neg (show ¬ nI (lvl c) = 0 by rw [z]; decide), if_pos (show nI (lvl c) = 6 by rw [z]; rfl)]
  rw [if_neg z0]
  have n0 : ¬ nI (lvl c) = 0 := nI_ne0 (by omega) (by omega)
  have n6 : ¬ nI (lvl c) = 6 := fun z => by have := (nl 6 (by omega)).mp z; omega
  unfold f_X6_takeBehindThing_44
  by_cases z3 : lvl c = 3
  · rw [if_neg (show ¬ ¬ nI (lvl c) = 3 by rw [z3]; exact fun z => z rfl), if_neg n0, if_neg n6, if_neg (by decide), e4, if_pos hi6, ct, e31]
    cases hd with
    | true =>
      rw [if_neg (by decide), if_pos ⟨z3, rfl⟩]
      exact ⟨0, _, rfl, f0, Or.inr ⟨rfl, rfl⟩⟩
    | false =>
      rw [if_pos (show nI (b01 false) = 0 from rfl), if_neg (fun z => absurd z.2 (by show ¬ false = true; decide))]
      obtain ⟨m', u1, u2, u3⟩ := go2 true (fun _ => by rw [z3]; rfl)
      exact ⟨1, m', u1, u2, Or.inl ⟨_, rfl, rfl, u3⟩⟩
  · have n3 : ¬ nI (lvl c) = 3 := fun z => z3 ((nl 3 (by omega)).mp z)
    rw [if_pos n3, if_neg n0, if_neg n6, if_pos rfl, if_neg (fun z => z3 z.1)]
    obtain ⟨m', u1, u2, u3⟩ := go2 false (fun _ => by rw [decide_eq_false z3])
    exact ⟨1, m', u1, u2, Or.inl ⟨_, rfl, rfl, u3⟩⟩
