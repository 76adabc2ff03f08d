/-! ===== the soonest: what the class holds of a route: the least hours left ===== -/
def wH (lo : Nat → Nat → Nat → Nat) (wk : Nat → Nat → Nat) (n b len k : Nat) : Prop := 1 ≤ len ∧ len ≤ 60 ∧ b < n ∧ n ≤ 6 ∧ k ≤ 3 ∧ (∀ a o h, a < n → o < n → h ≤ 2400 → lo a o h ≤ 22) ∧ (∀ o h, wk o h ≤ 1)
/-- behind the work of hour t, ahead of the handing -/
def wM (lo : Nat → Nat → Nat → Nat) (wk : Nat → Nat → Nat) (n b len k x t : Nat) (r : List Nat) (l : Nat) : Prop := 1 ≤ l ∧ wR lo wk n b len k x t r (l + wk (rtL b r) (x + t))
def lfP (P : Nat → Prop) (t : Nat) (y : Int32) : Prop := (∃ l, l ≤ 126 ∧ P l ∧ y = nI l ∧ ∀ l', P l' → l ≤ l') ∨ ((∀ l, ¬ P l) ∧ 1000000 - (t : Int) ≤ y.toInt ∧ y.toInt ≤ 1000000)
theorem wH.ok {lo : Nat → Nat → Nat → Nat} {wk : Nat → Nat → Nat} {n b len k : Nat} (H : wH lo wk n b len k) {x t : Nat} {r : List Nat} {l : Nat} (ht : x + t ≤ 2400) (q : wR lo wk n b len k x t r l) : rtV n b r ∧ r.length ≤ k ∧ 1 ≤ l ∧ l ≤ 126 ∧ l ≤ len + 22 * r.length := by
  obtain ⟨a1, a2, a3, a4, a5, a6, a7⟩ := H
  obtain ⟨b1, b2, b3, b4⟩ := wR_ok a1 a6 a3 t r l ht q
  exact ⟨b1, b2, b3, by omega, b4⟩
/-- an hour's work -/
theorem lf_work {lo : Nat → Nat → Nat → Nat} {wk : Nat → Nat → Nat} {n b len k : Nat} (H : wH lo wk n b len k) {x t : Nat} {r : List Nat} (ht : x + t ≤ 2400) {y : Int32} (h : lfP (wR lo wk n b len k x t r) t y) :
    (wE lo wk n b len k x t r ∧ y - nI (wk (rtL b r) (x + t)) = 0) ∨ (¬ wE lo wk n b len k x t r ∧ ¬ y - nI (wk (rtL b r) (x + t)) = 0 ∧ lfP (wM lo wk n b len k x t r) (t + 1) (y - nI (wk (rtL b r) (x + t)))) := by
  have hw := H.2.2.2.2.2.2 (rtL b r) (x + t)
  unfold wE wM
  generalize wk (rtL b r) (x + t) = w at *
  rcases h with ⟨l, h0, h1, rfl, h2⟩ | ⟨h1, h2, h3⟩
  · have ho := H.ok ht h1
    by_cases e : l = 1 ∧ w = 1
    · left
      obtain ⟨rfl, rfl⟩ := e
      exact ⟨⟨h1, rfl⟩, by decide⟩
    · right
      have hlw : w < l := by omega
      rw [pk_sub (by omega)]
      refine ⟨fun z => e ⟨?_, z.2⟩, nI_ne0 (by omega) (by omega), Or.inl ⟨l - w, by omega, ⟨by omega, by rw [show l - w + w = l by omega]; exact h1⟩, rfl, fun l' z => ?_⟩⟩
      · have := h2 1 z.1; omega
      · have := h2 _ z.2; omega
  · right
    have e : (y - nI w).toInt = y.toInt - w := by
      rw [i_sub] <;> rw [nI_toInt (by omega)] <;> omega
    refine ⟨fun z => h1 _ z.1, ?_, Or.inr ⟨fun l z => h1 _ z.2, by rw [e]; omega, by rw [e]; omega⟩⟩
    intro z
    rw [z] at e
    have e0 : (0 : Int32).toInt = 0 := rfl
    omega
/-- a handing -/
theorem lf_hand {lo : Nat → Nat → Nat → Nat} {wk : Nat → Nat → Nat} {n b len k : Nat} (H : wH lo wk n b len k) {x t : Nat} {o : Nat} {r : List Nat} (ht : x + t < 2400) (hr : r.length < k) (hv : rtV n b (o :: r)) {y z : Int32} (h : lfP (wM lo wk n b len k x t (o :: r)) (t + 1) y) (g : lfP (wM lo wk n b len k x t r) (t + 1) z) :
    lfP (wR lo wk n b len k x (t + 1) (o :: r)) (t + 1) (if y ≤ z + nI (lo (rtL b r) o (x + t + 1)) then y else z + nI (lo (rtL b r) o (x + t + 1))) := by
  have hlo := H.2.2.2.2.2.1 (rtL b r) o (x + t + 1) (rtL_lt H.2.2.1 hv.2.2) hv.1 (by omega)
  have hiff : ∀ l, wR lo wk n b len k x (t + 1) (o :: r) l ↔ (wM lo wk n b len k x t (o :: r) l ∨ ∃ l', wM lo wk n b len k x t r l' ∧ l = l' + lo (rtL b r) o (x + t + 1)) := by
    intro l
    rw [wR]
    constructor
    · rintro ⟨q1, q2 | ⟨o', r', l', q3, q4, q5, q6, q7, q8, q9⟩⟩
      · exact Or.inl ⟨q1, q2⟩
      · injection q3 with e1 e2
        subst e1; subst e2
        exact Or.inr ⟨l', ⟨q7, q8⟩, q9⟩
    · rintro (q | ⟨l', q, rfl⟩)
      · exact ⟨q.1, Or.inl q.2⟩
      · exact ⟨by have := q.1; omega, Or.inr ⟨o, r, l', rfl, hr, hv.1, hv.2.1, q.1, q.2, rfl⟩⟩
  have hb : ∀ l, wR lo wk n b len k x (t + 1) (o :: r) l → l ≤ 126 := fun l q => (H.ok (show x + (t + 1) ≤ 2400 by omega) q).2.2.2.1
  generalize lo (rtL b r) o (x + t + 1) = w at *
  rcases h with ⟨l, h0, h1, rfl, h2⟩ | ⟨h1, h2, h3⟩
  · rcases g with ⟨l2, g0, g1, rfl, g2⟩ | ⟨g1, g2, g3⟩
    · rw [nI_add]
      by_cases c : l ≤ l2 + w
      · rw [if_pos (nI_le c (by omega))]
        refine Or.inl ⟨l, h0, (hiff l).mpr (Or.inl h1), rfl, fun l' q => ?_⟩
        rcases (hiff l').mp q with q | ⟨l3, q9, rfl⟩
        · exact h2 _ q
        · have := g2 _ q9; omega
      · rw [if_neg (nI_ge (by omega) (by omega))]
        have q0 := (hiff (l2 + w)).mpr (Or.inr ⟨l2, g1, rfl⟩)
        refine Or.inl ⟨l2 + w, hb _ q0, q0, rfl, fun l' q => ?_⟩
        rcases (hiff l').mp q with q | ⟨l3, q9, rfl⟩
        · have := h2 _ q; omega
        · have := g2 _ q9; omega
    · have e : (z + nI w).toInt = z.toInt + w := by
        rw [i_add] <;> rw [nI_toInt (by omega)] <;> omega
      rw [if_pos (by rw [i_le, e, nI_toInt (by omega)]; omega)]
      refine Or.inl ⟨l, h0, (hiff l).mpr (Or.inl h1), rfl, fun l' q => ?_⟩
      rcases (hiff l').mp q with q | ⟨l3, q9, rfl⟩
      · exact h2 _ q
      · exact absurd q9 (g1 _)
  · rcases g with ⟨l2, g0, g1, rfl, g2⟩ | ⟨g1, g2, g3⟩
    · rw [nI_add, if_neg (by rw [i_le, nI_toInt (by omega)]; omega)]
      have q0 := (hiff (l2 + w)).mpr (Or.inr ⟨l2, g1, rfl⟩)
      refine Or.inl ⟨l2 + w, hb _ q0, q0, rfl, fun l' q => ?_⟩
      rcases (hiff l').mp q with q | ⟨l3, q9, rfl⟩
      · exact absurd q (h1 _)
      · have := g2 _ q9; omega
    · have e : (z + nI w).toInt = z.toInt + w := by
        rw [i_add] <;> rw [nI_toInt (by omega)] <;> omega
      have hn : ∀ l, ¬ wR lo wk n b len k x (t + 1) (o :: r) l := by
        intro l q
        rcases (hiff l).mp q with q | ⟨l3, q9, rfl⟩
        · exact h1 _ q
        · exact g1 _ q9
      by_cases c : y ≤ z + nI w
      · rw [if_pos c]; exact Or.inr ⟨hn, h2, h3⟩
      · rw [if_neg c]
        rw [i_le, e] at c
        exact Or.inr ⟨hn, by rw [e]; omega, by rw [e]; omega⟩
/-- the first route is not handed to -/
theorem lf_nil {lo : Nat → Nat → Nat → Nat} {wk : Nat → Nat → Nat} {n b len k x t : Nat} {y : Int32} (h : lfP (wM lo wk n b len k x t []) (t + 1) y) : lfP (wR lo wk n b len k x (t + 1) []) (t + 1) y := by
  have hiff : ∀ l, wR lo wk n b len k x (t + 1) [] l ↔ wM lo wk n b len k x t [] l := by
    intro l
    rw [wR]
    constructor
    · rintro ⟨q1, q2 | ⟨o', r', l', q3, -⟩⟩
      · exact ⟨q1, q2⟩
      · cases q3
    · intro q; exact ⟨q.1, Or.inl q.2⟩
  rcases h with ⟨l, h0, h1, h2, h3⟩ | ⟨h1, h2⟩
  · exact Or.inl ⟨l, h0, (hiff l).mpr h1, h2, fun l' q => h3 l' ((hiff l').mp q)⟩
  · exact Or.inr ⟨fun l q => h1 l ((hiff l).mp q), h2⟩
/-- no route, no end -/
theorem wN_s {lo : Nat → Nat → Nat → Nat} {wk : Nat → Nat → Nat} {n b len k : Nat} (H : wH lo wk n b len k) {x t : Nat} (ht : x + t ≤ 2400) (h : wN lo wk n b len k x t) (g : ∀ i, i < rtN (n - 1) k → ¬ wE lo wk n b len k x t (rtW (n - 1) b i)) : wN lo wk n b len k x (t + 1) := by
  intro t' ht' r q
  rcases Nat.lt_or_ge t' t with c | c
  · exact h t' c r q
  · have : t' = t := by omega
    subst this
    obtain ⟨a1, a2, -⟩ := H.ok ht q.1
    obtain ⟨i, hi, rfl⟩ := rt_row2 H.2.2.1 a1 a2
    exact g i hi q
