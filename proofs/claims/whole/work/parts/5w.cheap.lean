/-! ===== cheap: what a route can have left, and for what pay ===== -/
def wgN (v : hM) (o : Nat) : Nat := (gI v 101 o).toNatClampNeg
def qMid (v : hM) (b p h : Nat) (Q : List Nat → Nat → Nat → Prop) (r : List Nat) (l q : Nat) : Prop := Q r l q ∨ (wkP v p (rtL b r) h = 1 ∧ ∃ q0, Q r (l + 1) q0 ∧ q = q0 + wgN v (rtL b r))
def qNxt (v : hM) (n b k h : Nat) (M : List Nat → Nat → Nat → Prop) (r : List Nat) (l q : Nat) : Prop := 1 ≤ l ∧ (M r l q ∨ ∃ o r' l', r = o :: r' ∧ r'.length < k ∧ o < n ∧ o ≠ rtL b r' ∧ 1 ≤ l' ∧ M r' l' q ∧ l = l' + loN v (gI v 96 14) (rtL b r') o h)
def qQ (v : hM) (n b p k x : Nat) : Nat → List Nat → Nat → Nat → Prop
  | 0 => fun r l q => r = [] ∧ l = (gI v 109 p).toNatClampNeg ∧ q = 0
  | t + 1 => qNxt v n b k (x + t + 1) (qMid v b p (x + t) (qQ v n b p k x t))
def qF (v : hM) (n b p k x T : Nat) (r : List Nat) (q : Nat) : Prop := ∃ t, t < T ∧ wkP v p (rtL b r) (x + t) = 1 ∧ ∃ q0, qQ v n b p k x t r 1 q0 ∧ q = q0 + wgN v (rtL b r)
theorem wgN_ok {v : hM} {n o : Nat} (hv : vRel v n) (ho : o < n) : gI v 101 o = nI (wgN v o) ∧ wgN v o ≤ 99 := by
  have h := (hv.2.2.1 o ho).2.2.2.1
  have e := i_cl (a := gI v 101 o) (by omega)
  unfold wgN
  exact ⟨by rw [i_eq, nI_toInt (by omega), e], by omega⟩
theorem len_ok {v : hM} {n c p : Nat} (hp : pRng v n c) (hpc : p < c) : gI v 109 p = nI (gI v 109 p).toNatClampNeg ∧ 1 ≤ (gI v 109 p).toNatClampNeg ∧ (gI v 109 p).toNatClampNeg ≤ 60 := by
  have h := (hp.2.2 p hpc).2.2.1
  have e := i_cl (a := gI v 109 p) (by omega)
  exact ⟨by rw [i_eq, nI_toInt (by omega), e], by omega, by omega⟩
theorem qQ_ok {v : hM} {n c b p k x : Nat} (hv : vRel v n) (hp : pRng v n c) (hpc : p < c) (hb : b < n) : ∀ t r l q, qQ v n b p k x t r l q → rtV n b r ∧ r.length ≤ k ∧ 1 ≤ l ∧ l ≤ 60 + 22 * r.length ∧ q ≤ 99 * t
  | 0, r, l, q, h => by
    obtain ⟨rfl, rfl, rfl⟩ := h
    have := len_ok hp hpc
    exact ⟨trivial, Nat.zero_le _, this.2.1, by omega, by omega⟩
  | t + 1, r, l, q, h => by
    have mid : ∀ r l q, qMid v b p (x + t) (qQ v n b p k x t) r l q → rtV n b r ∧ r.length ≤ k ∧ l ≤ 60 + 22 * r.length ∧ q ≤ 99 * (t + 1) := by
      rintro r l q (h | ⟨-, q0, h, rfl⟩)
      · obtain ⟨a1, a2, a3, a4, a5⟩ := qQ_ok hv hp hpc hb t _ _ _ h
        exact ⟨a1, a2, a4, by omega⟩
      · obtain ⟨a1, a2, a3, a4, a5⟩ := qQ_ok hv hp hpc hb t _ _ _ h
        have := (wgN_ok hv (rtL_lt hb a1)).2
        exact ⟨a1, a2, by omega, by omega⟩
    obtain ⟨h1, h2 | ⟨o, r', l', rfl, h4, h5, h6, h7, h8, h9⟩⟩ := h
    · obtain ⟨a1, a2, a3, a4⟩ := mid _ _ _ h2
      exact ⟨a1, a2, h1, a3, a4⟩
    · obtain ⟨a1, a2, a3, a4⟩ := mid _ _ _ h8
      have := (loN_ok (h := x + t + 1) hv (rtL_lt hb a1) h5 hv.2.2.2.2.2.1).2
      exact ⟨⟨h5, h6, a1⟩, by rw [List.length_cons]; omega, h1, by rw [List.length_cons]; omega, a4⟩
theorem qMid_ok {v : hM} {n c b p k x t : Nat} (hv : vRel v n) (hp : pRng v n c) (hpc : p < c) (hb : b < n) {r : List Nat} {l q : Nat} (h : qMid v b p (x + t) (qQ v n b p k x t) r l q) : rtV n b r ∧ r.length ≤ k ∧ l ≤ 60 + 22 * r.length ∧ q ≤ 99 * (t + 1) := by
  rcases h with h | ⟨-, q0, h, rfl⟩
  · obtain ⟨a1, a2, a3, a4, a5⟩ := qQ_ok hv hp hpc hb t _ _ _ h
    exact ⟨a1, a2, a4, by omega⟩
  · obtain ⟨a1, a2, a3, a4, a5⟩ := qQ_ok hv hp hpc hb t _ _ _ h
    have := (wgN_ok hv (rtL_lt hb a1)).2
    exact ⟨a1, a2, by omega, by omega⟩
theorem qF_s {v : hM} {n b p k x t : Nat} {r : List Nat} {q : Nat} : qF v n b p k x (t + 1) r q ↔ (qF v n b p k x t r q ∨ (wkP v p (rtL b r) (x + t) = 1 ∧ ∃ q0, qQ v n b p k x t r 1 q0 ∧ q = q0 + wgN v (rtL b r))) := by
  constructor
  · rintro ⟨t', h1, h2⟩
    rcases Nat.lt_or_ge t' t with u | u
    · exact Or.inl ⟨t', u, h2⟩
    · have : t' = t := by omega
      subst this
      exact Or.inr h2
  · rintro (⟨t', h1, h2⟩ | h)
    · exact ⟨t', by omega, h2⟩
    · exact ⟨t, by omega, h⟩
/-! the least pay, or FAR -/
def pyP (P : Nat → Prop) (y : Int32) : Prop := (∃ q, q < 500000 ∧ P q ∧ y = nI q ∧ ∀ q', P q' → q ≤ q') ∨ ((∀ q, ¬ P q) ∧ y = 1000000)
theorem pyP_iff {P Q : Nat → Prop} {y : Int32} (h : pyP P y) (g : ∀ q, P q ↔ Q q) : pyP Q y := by
  rcases h with ⟨q, h0, h1, h2, h3⟩ | ⟨h1, h2⟩
  · exact Or.inl ⟨q, h0, (g q).mp h1, h2, fun q' z => h3 q' ((g q').mpr z)⟩
  · exact Or.inr ⟨fun q z => h1 q ((g q).mpr z), h2⟩
theorem far_e : (1000000 : Int32) = nI 1000000 := by decide +kernel
theorem pyP_work {P Q R : Nat → Prop} {y z : Int32} {w : Nat} (h : pyP P y) (g : pyP Q z) (hw : w ≤ 99) (hB : ∀ q, Q q → q + w < 500000) (hR : ∀ q, R q ↔ P q ∨ ∃ q0, Q q0 ∧ q = q0 + w) : pyP R (if y ≤ z + nI w then y else z + nI w) := by
  refine pyP_iff (P := fun q => P q ∨ ∃ q0, Q q0 ∧ q = q0 + w) ?_ (fun q => (hR q).symm)
  rcases h with ⟨q, h0, h1, rfl, h3⟩ | ⟨h1, rfl⟩ <;> rcases g with ⟨q2, g0, g1, rfl, g3⟩ | ⟨g1, rfl⟩
  · rw [nI_add]
    by_cases c : q ≤ q2 + w
    · rw [if_pos (nI_le c (by omega))]
      refine Or.inl ⟨q, h0, Or.inl h1, rfl, ?_⟩
      rintro q' (u | ⟨q0, u, rfl⟩)
      · exact h3 _ u
      · have := g3 _ u; omega
    · rw [if_neg (nI_ge (by omega) (by omega))]
      refine Or.inl ⟨q2 + w, hB _ g1, Or.inr ⟨q2, g1, rfl⟩, rfl, ?_⟩
      rintro q' (u | ⟨q0, u, rfl⟩)
      · have := h3 _ u; omega
      · have := g3 _ u; omega
  · rw [far_e, nI_add, if_pos (nI_le (by omega) (by omega))]
    refine Or.inl ⟨q, h0, Or.inl h1, rfl, ?_⟩
    rintro q' (u | ⟨q0, u, rfl⟩)
    · exact h3 _ u
    · exact absurd u (g1 _)
  · have := hB _ g1
    rw [far_e, nI_add, if_neg (nI_ge (by omega) (by omega))]
    refine Or.inl ⟨q2 + w, hB _ g1, Or.inr ⟨q2, g1, rfl⟩, rfl, ?_⟩
    rintro q' (u | ⟨q0, u, rfl⟩)
    · exact absurd u (h1 _)
    · have := g3 _ u; omega
  · rw [far_e, nI_add, if_pos (nI_le (by omega) (by omega))]
    refine Or.inr ⟨?_, rfl⟩
    rintro q' (u | ⟨q0, u, rfl⟩)
    · exact h1 _ u
    · exact g1 _ u
theorem pyP_min {P Q R : Nat → Prop} {y z : Int32} (h : pyP P y) (g : pyP Q z) (hR : ∀ q, R q ↔ P q ∨ Q q) : pyP R (if y ≤ z then y else z) := by
  have hB : ∀ q, (Q q ∧ q < 499900) → q + 0 < 500000 := fun q z => by omega
  refine pyP_iff (P := fun q => P q ∨ Q q) ?_ (fun q => (hR q).symm)
  rcases h with ⟨q, h0, h1, rfl, h3⟩ | ⟨h1, rfl⟩ <;> rcases g with ⟨q2, g0, g1, rfl, g3⟩ | ⟨g1, rfl⟩
  · by_cases c : q ≤ q2
    · rw [if_pos (nI_le c (by omega))]
      refine Or.inl ⟨q, h0, Or.inl h1, rfl, ?_⟩
      rintro q' (u | u)
      · exact h3 _ u
      · have := g3 _ u; omega
    · rw [if_neg (nI_ge (by omega) (by omega))]
      refine Or.inl ⟨q2, g0, Or.inr g1, rfl, ?_⟩
      rintro q' (u | u)
      · have := h3 _ u; omega
      · exact g3 _ u
  · rw [far_e, if_pos (nI_le (by omega) (by omega))]
    refine Or.inl ⟨q, h0, Or.inl h1, rfl, ?_⟩
    rintro q' (u | u)
    · exact h3 _ u
    · exact absurd u (g1 _)
  · rw [far_e, if_neg (nI_ge (by omega) (by omega))]
    refine Or.inl ⟨q2, g0, Or.inr g1, rfl, ?_⟩
    rintro q' (u | u)
    · exact absurd u (h1 _)
    · exact g3 _ u
  · rw [far_e, if_pos (nI_le (by omega) (by omega))]
    refine Or.inr ⟨?_, rfl⟩
    rintro q' (u | u)
    · exact h1 _ u
    · exact g1 _ u
/-! ===== the class: an hour's work of a row, a row handed to ===== -/
theorem cx_workForPay {fu : Nat} (hfu : 200 ≤ fu) {m : hM} {i o w : Nat} (hi : i < 31) (ho : o < 6) (h36 : gI m 36 i = nI o) (hw : gI m (6 + 2 * o) 3 = nI w) :
    ∃ m', f_X9_workForPay fu (nI i) m = some ((), m') ∧ (∀ l, l < 104 → gI m' 39 (105 * i + l) = if gI m 39 (105 * i + l) ≤ gI m 39 (105 * i + (l + 1)) + nI w then gI m 39 (105 * i + l) else gI m 39 (105 * i + (l + 1)) + nI w) ∧ fr (fun a j => a = 39 ∧ 105 * i ≤ j ∧ j < 105 * i + 104) m m' := by
  have key : ∀ (t l : Nat) (m1 : hM), l ≤ 104 → 104 - l < t → (∀ l', l' < l → gI m1 39 (105 * i + l') = if gI m 39 (105 * i + l') ≤ gI m 39 (105 * i + (l' + 1)) + nI w then gI m 39 (105 * i + l') else gI m 39 (105 * i + (l' + 1)) + nI w) → fr (fun a j => a = 39 ∧ 105 * i ≤ j ∧ j < 105 * i + l) m m1 →
      ∃ m', f_X9_workForPay_26 fu t (nI (105 * i)) (nI w) (nI (105 * i + l)) m1 = some ((), m') ∧ (∀ l, l < 104 → gI m' 39 (105 * i + l) = if gI m 39 (105 * i + l) ≤ gI m 39 (105 * i + (l + 1)) + nI w then gI m 39 (105 * i + l) else gI m 39 (105 * i + (l + 1)) + nI w) ∧ fr (fun a j => a = 39 ∧ 105 * i ≤ j ∧ j < 105 * i + 104) m m' := by
    intro t
    induction t with
    | zero => intro l m1 h1 h2; exact absurd h2 (Nat.not_lt_zero _)
    | succ t ih =>
      intro l m1 hl ht r f
      rw [f_X9_workForPay_26_s]
      unfold s_X9_workForPay_26 f_X9_workForPay_78
      simp only [hLet_n, nI_1]
      rw [show (104 : Int32) = nI 104 from rfl, nI_add]
      by_cases c : nI (105 * i + 104) ≤ nI (105 * i + l)
      · rw [if_pos c]
        rw [nI_leI (by omega) (by omega)] at c
        have : l = 104 := by omega
        subst this
        exact ⟨m1, rfl, r, f⟩
      · rw [if_neg c]
        rw [nI_leI (by omega) (by omega)] at c
        have i1 : hIn (nI (105 * i + l + 1)) 3255 := hIn_lt (by omega) (by omega)
        have i0 : hIn (nI (105 * i + l)) 3255 := hIn_lt (by omega) (by omega)
        have e1 : (nI (105 * i + l + 1)).toNatClampNeg = 105 * i + l + 1 := nI_clamp (by omega)
        have e0 : (nI (105 * i + l)).toNatClampNeg = 105 * i + l := nI_clamp (by omega)
        have g1 : gI m1 39 (105 * i + l + 1) = gI m 39 (105 * i + (l + 1)) := f.1 _ _ (by omega)
        have g0 : gI m1 39 (105 * i + l) = gI m 39 (105 * i + l) := f.1 _ _ (by omega)
        have fin : ∀ y, (y = if gI m 39 (105 * i + l) ≤ gI m 39 (105 * i + (l + 1)) + nI w then gI m 39 (105 * i + l) else gI m 39 (105 * i + (l + 1)) + nI w) → ∃ m', f_X9_workForPay_26 fu t (nI (105 * i)) (nI w) (nI (105 * i + l + 1)) (sI m1 39 (105 * i + l) y) = some ((), m') ∧ (∀ l, l < 104 → gI m' 39 (105 * i + l) = if gI m 39 (105 * i + l) ≤ gI m 39 (105 * i + (l + 1)) + nI w then gI m 39 (105 * i + l) else gI m 39 (105 * i + (l + 1)) + nI w) ∧ fr (fun a j => a = 39 ∧ 105 * i ≤ j ∧ j < 105 * i + 104) m m' := by
          intro y hy
          refine ih (l + 1) _ (by omega) (by omega) (fun l' hl' => ?_) ((f.mono (fun a j z => ⟨z.1, z.2.1, by omega⟩)).si ⟨rfl, by omega, by omega⟩)
          by_cases e : l' = l
          · subst e; rw [gI_ss]; exact hy
          · rw [gI_sn (by omega)]; exact r l' (by omega)
        simp only [if_pos i1, if_pos i0, e1, e0, g1, g0]
        by_cases c2 : gI m 39 (105 * i + l) ≤ gI m 39 (105 * i + (l + 1)) + nI w
        · rw [if_pos c2]; exact fin _ (by rw [if_pos c2])
        · rw [if_neg c2]; exact fin _ (by rw [if_neg c2])
  unfold f_X9_workForPay
  rw [hLet_n, show (105 : Int32) = nI 105 from rfl, pk_mul, show i * 105 = 105 * i by omega, if_pos (hIn_lt (show i < 156 by omega) (by omega)), nI_clamp (show i < 2 ^ 31 by omega), h36, if_pos (hIn_lt ho (by omega)), hLet_n, nI_clamp (show o < 2 ^ 31 by omega), hw]
  exact key fu 0 m (by omega) (by omega) (fun l' h => absurd h (Nat.not_lt_zero _)) fr.rf
theorem cx_handForPay {fu : Nat} (hfu : 200 ≤ fu) {m : hM} {i pp a o w : Nat} (hi : i < 31) (hp : pp < i) (ha : a < 6) (ho : o < 6) (h35 : gI m 35 i = nI pp) (h36 : gI m 36 i = nI o) (h36p : gI m 36 pp = nI a) (h40 : gI m 40 (6 * a + o) = nI w) (hw : w ≤ 22) :
    ∃ m', f_X9_handForPay fu (nI i) m = some ((), m') ∧ (∀ l, l ≤ 104 → gI m' 39 (105 * i + l) = if l ≤ w then gI m 39 (105 * i + l) else (if gI m 39 (105 * i + l) ≤ gI m 39 (105 * pp + (l - w)) then gI m 39 (105 * i + l) else gI m 39 (105 * pp + (l - w)))) ∧ fr (fun a j => a = 39 ∧ 105 * i + w < j ∧ j < 105 * i + 105) m m' := by
  have key : ∀ (t h : Nat) (m1 : hM), 1 ≤ h → h + w ≤ 105 → 105 - (h + w) < t → (∀ l, l < h + w → gI m1 39 (105 * i + l) = if l ≤ w then gI m 39 (105 * i + l) else (if gI m 39 (105 * i + l) ≤ gI m 39 (105 * pp + (l - w)) then gI m 39 (105 * i + l) else gI m 39 (105 * pp + (l - w)))) → fr (fun a j => a = 39 ∧ 105 * i + w < j ∧ j < 105 * i + (h + w)) m m1 →
      ∃ m', f_X9_handForPay_46 fu t (nI w) (nI (105 * pp)) (nI (105 * i + w)) (nI h) m1 = some ((), m') ∧ (∀ l, l ≤ 104 → gI m' 39 (105 * i + l) = if l ≤ w then gI m 39 (105 * i + l) else (if gI m 39 (105 * i + l) ≤ gI m 39 (105 * pp + (l - w)) then gI m 39 (105 * i + l) else gI m 39 (105 * pp + (l - w)))) ∧ fr (fun a j => a = 39 ∧ 105 * i + w < j ∧ j < 105 * i + 105) m m' := by
    intro t
    induction t with
    | zero => intro h m1 h1 h2 h3; exact absurd h3 (Nat.not_lt_zero _)
    | succ t ih =>
      intro h m1 h1 h2 ht r f
      rw [f_X9_handForPay_46_s]
      unfold s_X9_handForPay_46 f_X9_handForPay_106
      simp only [hLet_n, nI_1, nI_add]
      by_cases c : nI 104 < nI (h + w)
      · rw [if_pos (show (104 : Int32) < nI (h + w) from c)]
        rw [nI_ltI (by omega) (by omega)] at c
        exact ⟨m1, rfl, fun l hl => r l (by omega), f.mono (fun a j z => ⟨z.1, z.2.1, by omega⟩)⟩
      · rw [if_neg (show ¬ (104 : Int32) < nI (h + w) from c)]
        rw [nI_ltI (by omega) (by omega)] at c
        have i1 : hIn (nI (105 * pp + h)) 3255 := hIn_lt (by omega) (by omega)
        have i0 : hIn (nI (105 * i + w + h)) 3255 := hIn_lt (by omega) (by omega)
        have e1 : (nI (105 * pp + h)).toNatClampNeg = 105 * pp + h := nI_clamp (by omega)
        have e0 : (nI (105 * i + w + h)).toNatClampNeg = 105 * i + w + h := nI_clamp (by omega)
        have g1 : gI m1 39 (105 * pp + h) = gI m 39 (105 * pp + h) := f.1 _ _ (by omega)
        have g0 : gI m1 39 (105 * i + w + h) = gI m 39 (105 * i + w + h) := f.1 _ _ (by omega)
        have fin : ∀ y, (y = if gI m 39 (105 * i + w + h) ≤ gI m 39 (105 * pp + h) then gI m 39 (105 * i + w + h) else gI m 39 (105 * pp + h)) → ∃ m', f_X9_handForPay_46 fu t (nI w) (nI (105 * pp)) (nI (105 * i + w)) (nI (h + 1)) (sI m1 39 (105 * i + w + h) y) = some ((), m') ∧ (∀ l, l ≤ 104 → gI m' 39 (105 * i + l) = if l ≤ w then gI m 39 (105 * i + l) else (if gI m 39 (105 * i + l) ≤ gI m 39 (105 * pp + (l - w)) then gI m 39 (105 * i + l) else gI m 39 (105 * pp + (l - w)))) ∧ fr (fun a j => a = 39 ∧ 105 * i + w < j ∧ j < 105 * i + 105) m m' := by
          intro y hy
          refine ih (h + 1) _ (by omega) (by omega) (by omega) (fun l hl => ?_) ((f.mono (fun a j z => ⟨z.1, z.2.1, by omega⟩)).si ⟨rfl, by omega, by omega⟩)
          by_cases e : l = h + w
          · subst e
            rw [show 105 * i + (h + w) = 105 * i + w + h by omega, gI_ss, hy, if_neg (show ¬ h + w ≤ w by omega), show h + w - w = h by omega]
          · rw [gI_sn (by omega)]; exact r l (by omega)
        simp only [if_pos i1, if_pos i0, e1, e0, g1, g0]
        by_cases c2 : gI m 39 (105 * i + w + h) ≤ gI m 39 (105 * pp + h)
        · rw [if_pos c2]; exact fin _ (by rw [if_pos c2])
        · rw [if_neg c2]; exact fin _ (by rw [if_neg c2])
  obtain ⟨k1, -, k3, k4⟩ := kn_ix ha ho
  unfold f_X9_handForPay
  rw [if_pos (hIn_lt (show i < 156 by omega) (by omega)), nI_clamp (show i < 2 ^ 31 by omega), hLet_n, h35, if_pos (hIn_lt (show pp < 156 by omega) (by omega)), if_pos (hIn_lt (show i < 156 by omega) (by omega)), nI_clamp (show pp < 2 ^ 31 by omega), h36p, h36, k1, if_pos k3, hLet_n, k4, h40, hLet_n, hLet_n, show (105 : Int32) = nI 105 from rfl, pk_mul, pk_mul, nI_add, show i * 105 = 105 * i by omega, show pp * 105 = 105 * pp by omega]
  exact key fu 1 m (by omega) (by omega) (by omega) (fun l hl => by rw [if_pos (by omega)]) fr.rf
