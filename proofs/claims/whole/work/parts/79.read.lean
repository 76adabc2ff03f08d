/-! ===== the rule's reading: the whole text by the class ===== -/
def rA (sg : Nat → Nat) : Nat → Nat → AS → Option AS
  | 0, _, a => some a
  | k + 1, p, a => (stp a (sg p)).bind (rA sg k (p + 1))
theorem rA_s {sg : Nat → Nat} {k p : Nat} {a a' a2 : AS} (h : rA sg k p a = some a') (h2 : stp a' (sg (p + k)) = some a2) : rA sg (k + 1) p a = some a2 := by
  induction k generalizing p a with
  | zero => cases h; rw [rA, show p + 0 = p from rfl] at *; rw [h2]; rfl
  | succ k ih =>
    rw [rA] at h
    cases hs : stp a (sg p) with
    | none => rw [hs] at h; cases h
    | some b =>
      rw [hs] at h
      rw [rA, hs]
      exact ih h (by rw [show p + 1 + k = p + (k + 1) by omega]; exact h2)
theorem rA_add {sg : Nat → Nat} {k l p : Nat} {a a1 a2 : AS} (h : rA sg k p a = some a1) (g : rA sg l (p + k) a1 = some a2) : rA sg (k + l) p a = some a2 := by
  induction k generalizing p a with
  | zero => cases h; rw [Nat.zero_add]; exact g
  | succ k ih =>
    rw [rA] at h
    cases hs : stp a (sg p) with
    | none => rw [hs] at h; cases h
    | some b =>
      rw [hs] at h
      rw [show k + 1 + l = (k + l) + 1 by omega, rA, hs]
      exact ih h (by rw [show p + 1 + k = p + (k + 1) by omega]; exact g)
/-- a text is read in one way -/
theorem rA_cut {sg : Nat → Nat} {k l p : Nat} {a a1 a2 : AS} (h : rA sg k p a = some a1) (hn : stp a1 (sg (p + k)) = none) (g : rA sg l p a = some a2) : l ≤ k := by
  induction k generalizing p a l with
  | zero =>
    cases h
    cases l with
    | zero => exact Nat.le_refl _
    | succ l => rw [rA, show p = p + 0 from rfl, hn] at g; cases g
  | succ k ih =>
    cases l with
    | zero => exact Nat.zero_le _
    | succ l =>
      rw [rA] at h g
      cases hs : stp a (sg p) with
      | none => rw [hs] at h; cases h
      | some b =>
        rw [hs] at h g
        have := ih h (by rw [show p + 1 + k = p + (k + 1) by omega]; exact hn) g
        omega
def dueA : AS → Bool := fun a => a.1
def dptA : AS → Nat := fun a => a.2.2.1.length
def rdR (sg : Nat → Nat) (cnt to p : Nat) (a : AS) (res : Int32) (m' : hM) : Prop :=
  (∃ k a', p + k < to ∧ rA sg k p a = some a' ∧ stp a' (sg (p + k)) = none ∧ res = nI (p + k)) ∨
  (∃ a', rA sg (to - p) p a = some a' ∧ (((40 < cnt ∨ dueA a' = true ∨ 1 < dptA a') ∧ res = nI to) ∨ (cnt ≤ 40 ∧ dueA a' = false ∧ dptA a' ≤ 1 ∧ res = -1 ∧ gI m' 28 1 = nI (clo 0 a'.2.2.2.1 a'.2.2.2.2).2.length ∧ rvR 29 m' (clo 0 a'.2.2.2.1 a'.2.2.2.2).2)))
theorem cx_read47 {fu : Nat} (hfu : 200 ≤ fu) {sg : Nat → Nat} {cnt to : Nat} (hto : to ≤ 40) (hcnt : cnt ≤ 60) (hs : ∀ j, j < to → sg j < 256) : ∀ (t p : Nat) (a : AS) (m : hM), p ≤ to → to - p < t → cAS m a → okD a → szA a ≤ p → (∀ j, j < to → gI m 68 j = nI (sg j)) →
    ∃ res m', f_X6_read_47 fu t (nI cnt) (nI to) (nI p) m = some (res, m') ∧ fr PA m m' ∧ rdR sg cnt to p a res m' := by
  intro t
  induction t with
  | zero => intro p a m h1 h2; exact absurd h2 (Nat.not_lt_zero _)
  | succ t ih =>
    intro p a m hp ht hA hD hz h68
    rw [f_X6_read_47_s]
    unfold s_X6_read_47 f_X6_read_79
    by_cases q : nI to ≤ nI p
    · rw [if_pos q]
      rw [nI_leI (by omega) (by omega)] at q
      have e : p = to := by omega
      subst e
      obtain ⟨due, dg, cm, P, C⟩ := a
      obtain ⟨h1, h2, h3, h4, h5, h6, h7, h8, h9, h10, h11, h12, h13⟩ := hA
      unfold f_X6_read_95
      have r0 : rA sg (p - p) p (due, dg, cm, P, C) = some (due, dg, cm, P, C) := by rw [Nat.sub_self]; rfl
      by_cases c1 : 40 < cnt
      · rw [if_pos (show (40 : Int32) < nI cnt from nI_lt (a := 40) c1 (by omega))]
        exact ⟨_, m, rfl, fr.rf, Or.inr ⟨_, r0, Or.inl ⟨Or.inl c1, rfl⟩⟩⟩
      rw [if_neg (show ¬ (40 : Int32) < nI cnt from nI_nlt (a := 40) (by omega) (by omega)), h4]
      cases due with
      | true =>
        have n1 : ¬ nI (b01 true) = 0 := by decide
        rw [if_pos n1]
        exact ⟨_, m, rfl, fr.rf, Or.inr ⟨_, r0, Or.inl ⟨Or.inr (Or.inl rfl), rfl⟩⟩⟩
      | false =>
        rw [if_neg (show ¬ ¬ nI (b01 false) = 0 from fun z => z rfl), h3]
        by_cases c2 : cm.length ≤ 1
        · rw [if_pos (show nI (cm.length - 1) ≤ 0 by rw [show cm.length - 1 = 0 by omega]; decide)]
          have hz' : P.length + C.length ≤ p := hz
          obtain ⟨m', s1, s2, s3, s4, s5, s6⟩ := cx_closeDownTo (show 100 ≤ fu by omega) (l := 0) (by omega) P C m h1 h2 h6 h7 h12 (by omega)
          have s1' : f_X6_closeDownTo fu 0 m = some ((), m') := s1
          rw [s1', hBd_some]
          exact ⟨_, m', rfl, s6.mono (fun a j z => by unfold PA; omega), Or.inr ⟨_, r0, Or.inr ⟨by omega, rfl, c2, rfl, s2, s4⟩⟩⟩
        · rw [if_neg (nI_nle (by omega) (by omega))]
          exact ⟨_, m, rfl, fr.rf, Or.inr ⟨_, r0, Or.inl ⟨Or.inr (Or.inr (show 1 < cm.length by omega)), rfl⟩⟩⟩
    · rw [if_neg q]
      rw [nI_leI (by omega) (by omega)] at q
      have hi : hIn (nI p) 60 := hIn_lt (by omega) (by omega)
      have hc := hs p (by omega)
      have h28 : gI m 28 6 = nI (b01 (dueA a)) := by obtain ⟨due, dg, cm, P, C⟩ := a; exact hA.2.2.2.1
      rw [h28, nI_clamp (show p < 2 ^ 31 by omega), h68 p (by omega)]
      -- once the sign is taken or not
      have go : ∀ (y : Int32) (m2 : hM), fr PA m m2 → ((∃ a', stp a (sg p) = some a' ∧ y = 1 ∧ cAS m2 a') ∨ (stp a (sg p) = none ∧ y = 0)) → ∃ res m', (if ¬ y = 0 then (hLet (nI p + 1) fun y21 => f_X6_read_47 fu t (nI cnt) (nI to) y21 m2) else some (nI p, m2)) = some (res, m') ∧ fr PA m m' ∧ rdR sg cnt to p a res m' := by
        intro y m2 f2 hy
        rcases hy with ⟨a', y1, rfl, y3⟩ | ⟨y1, rfl⟩
        · rw [if_pos (by decide), hLet_n, nI_1]
          have := stp_sz y1
          obtain ⟨res, m', u1, u2, u3⟩ := ih (p + 1) a' m2 (by omega) (by omega) y3 (stp_D hD y1) (by omega) (fun j hj => by rw [f2.1 68 j (by unfold PA; omega)]; exact h68 j hj)
          refine ⟨res, m', u1, f2.tr u2, ?_⟩
          rcases u3 with ⟨k, b, b1, b2, b3, b4⟩ | ⟨b, b1, b2⟩
          · exact Or.inl ⟨k + 1, b, by omega, by rw [rA, y1]; exact b2, by rw [show p + (k + 1) = p + 1 + k by omega]; exact b3, by rw [show p + (k + 1) = p + 1 + k by omega]; exact b4⟩
          · exact Or.inr ⟨b, by rw [show to - p = to - (p + 1) + 1 by omega, rA, y1]; exact b1, b2⟩
        · rw [if_neg (fun z => z rfl)]
          exact ⟨_, m2, rfl, f2, Or.inl ⟨0, a, by omega, rfl, y1, rfl⟩⟩
      obtain ⟨due, dg, cm, P, C⟩ := a
      have hz' : P.length + C.length ≤ p := hz
      cases due with
      | false =>
        rw [if_pos (show nI (b01 (dueA (false, dg, cm, P, C))) = 0 from rfl), if_pos hi]
        obtain ⟨y, m2, a1, a2, a3⟩ := cx_takeBehind (show 100 ≤ fu by omega) hc hA hD (by omega)
        rw [a1, hBd_some]
        exact go y m2 a2 a3
      | true =>
        rw [if_neg (show ¬ nI (b01 (dueA (true, dg, cm, P, C))) = 0 from (by show ¬ nI (b01 true) = 0; decide)), if_pos hi]
        obtain ⟨y, m2, a1, a2, a3⟩ := cx_takeThing (show 100 ≤ fu by omega) hc hA (by omega)
        rw [a1, hBd_some]
        exact go y m2 a2 a3
def aZ : AS := (true, 0, [false], [], [])
theorem cx_read {fu : Nat} (hfu : 200 ≤ fu) {sg : Nat → Nat} {cnt : Nat} (hcnt : cnt ≤ 60) (hs : ∀ j, j < cnt → sg j < 256) {m : hM} (h68 : ∀ j, j < cnt → gI m 68 j = nI (sg j)) :
    ∃ res m', f_X6_read fu (nI cnt) m = some (res, m') ∧ fr PA m m' ∧ rdR sg cnt (min cnt 40) 0 aZ res m' := by
  unfold f_X6_read
  simp only [hLet_n]
  have f1 : fr PA m (sI (sI (sI (sI (sI (sI m 28 1 0) 28 3 0) 28 4 0) 31 0 (vp_nar .boolean 0)) 28 6 1) 28 7 0) := (((((fr.rf.si (by unfold PA; omega)).si (by unfold PA; omega)).si (by unfold PA; omega)).si (by unfold PA; omega)).si (by unfold PA; omega)).si (by unfold PA; omega)
  have e1 : (if (40 : Int32) < nI cnt then (40 : Int32) else nI cnt) = nI (min cnt 40) := by
    by_cases c : 40 < cnt
    · rw [if_pos (show (40 : Int32) < nI cnt from nI_lt (a := 40) c (by omega)), Nat.min_eq_right (by omega)]; rfl
    · rw [if_neg (show ¬ (40 : Int32) < nI cnt from nI_nlt (a := 40) (by omega) (by omega)), Nat.min_eq_left (by omega)]
  have hmin : min cnt 40 ≤ 40 := Nat.min_le_right _ _
  have hmin2 : min cnt 40 ≤ cnt := Nat.min_le_left _ _
  rw [e_min, hBd_some, e1, e_min, hBd_some, if_neg (show ¬ (60 : Int32) < nI (min cnt 40) from nI_nlt (a := 60) (by omega) (by omega))]
  obtain ⟨res, m', u1, u2, u3⟩ := cx_read47 hfu (sg := sg) (cnt := cnt) hmin hcnt (fun j hj => hs j (by omega)) fu 0 aZ (sI (sI (sI (sI (sI (sI m 28 1 0) 28 3 0) 28 4 0) 31 0 (vp_nar .boolean 0)) 28 6 1) 28 7 0) (by omega) (by omega) ⟨by simp (disch := omega) only [gI_sn, gI_ss]; rfl, by simp (disch := omega) only [gI_sn, gI_ss]; rfl, by simp (disch := omega) only [gI_sn, gI_ss]; rfl, by simp (disch := omega) only [gI_sn, gI_ss]; rfl, by rw [gI_ss]; rfl, fun i hi => absurd hi (Nat.not_lt_zero _), fun i hi => absurd hi (Nat.not_lt_zero _), fun i hi => by
      have : i = 0 := by have h1 : i < 1 := hi; omega
      subst this
      rw [gI_sn (by omega), gI_sn (by omega), gI_ss, nar_b (Or.inl rfl)]; rfl, by decide, by decide, by decide, fun o ho => absurd ho List.not_mem_nil, fun x hx => absurd hx List.not_mem_nil⟩ (fun x C' e => by cases e) (by decide) (fun j hj => by rw [f1.1 68 j (by unfold PA; omega)]; exact h68 j (by omega))
  exact ⟨res, m', u1, f1.tr u2, u3⟩
