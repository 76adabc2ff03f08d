/-! ===== the class's tree of routes: grow ===== -/
theorem rt_div {q p k : Nat} (hk : k < q) : (q * p + 1 + k - 1) / q = p := by
  rw [show q * p + 1 + k - 1 = k + q * p by omega, Nat.add_mul_div_left _ _ (by omega), Nat.div_eq_of_lt hk]; omega
def gwR (n b : Nat) (m : hM) (C : Nat) : Prop := gI m 34 4 = nI C ∧ ∀ i, i < C → gI m 36 i = nI (rtL b (rtW (n - 1) b i)) ∧ gI m 37 i = nI (rtW (n - 1) b i).length ∧ (0 < i → gI m 35 i = nI ((i - 1) / (n - 1)))
def PW (a j : Nat) : Prop := (35 ≤ a ∧ a ≤ 37) ∨ (a = 34 ∧ j = 4)
theorem gwR_fr {n b C : Nat} {m m' : hM} (h : gwR n b m C) (g : ∀ a j, PW a j → gI m' a j = gI m a j) : gwR n b m' C := by
  refine ⟨by rw [g _ _ (by unfold PW; omega)]; exact h.1, fun i hi => ?_⟩
  rw [g 36 _ (by unfold PW; omega), g 37 _ (by unfold PW; omega), g 35 _ (by unfold PW; omega)]
  exact h.2 i hi
theorem cx_grow {fu : Nat} (hfu : 1000 ≤ fu) {m : hM} {n b k : Nat} (hn : n ≤ 6) (he : gI m 1 4 = nI n) (hb : b < n) (hk : k ≤ 3) : ∃ m', f_X9_grow fu (nI b) (nI k) m = some ((), m') ∧ gwR n b m' (rtN (n - 1) k) ∧ fr PW m m' := by
  generalize hq : n - 1 = q
  have hq5 : q ≤ 5 := by omega
  have inner : ∀ (K : Int32 → Int32 → Int32 → hM → Option (Unit × hM)) (l : Nat), l + 1 ≤ k → ∀ (t p : Nat) (m1 : hM), p ≤ rtN q l → rtN q l - p < t → rtF q l ≤ p → gwR n b m1 (q * p + 1) → fr PW m m1 →
      ∃ m2, f_X9_grow_46 fu K t (nI k) (nI (l + 1)) (nI (rtN q l)) (nI p) m1 = K (nI k) (nI (rtN q l)) (nI (l + 2)) m2 ∧ gwR n b m2 (q * rtN q l + 1) ∧ fr PW m m2 := by
    intro K l hl t
    have hN1 : rtN q (l + 1) ≤ 156 := rtN_le hq5 _ (by omega)
    have hN0 : rtN q l ≤ 156 := rtN_le hq5 _ (by omega)
    have hNe : rtN q (l + 1) = 1 + q * rtN q l := rfl
    induction t with
    | zero => intro p m1 h1 h2; exact absurd h2 (Nat.not_lt_zero _)
    | succ t ih =>
      intro p m1 hp ht hf g f
      rw [f_X9_grow_46_s]
      unfold s_X9_grow_46 f_X9_grow_67
      simp only [hLet_n, nI_1]
      by_cases c : nI (rtN q l) ≤ nI p
      · rw [if_pos c]
        rw [nI_leI (by omega) (by omega)] at c
        have : p = rtN q l := by omega
        subst this
        exact ⟨m1, rfl, g, f⟩
      · rw [if_neg c]
        rw [nI_leI (by omega) (by omega)] at c
        have hpl : p < rtN q l := by omega
        have h1 : p < q * p + 1 := by
          rcases Nat.eq_zero_or_pos q with z | z
          · subst z
            have e : rtN 0 l = 1 := by have := rtN_F 0 l; omega
            omega
          · have : 1 * p ≤ q * p := Nat.mul_le_mul_right p z
            omega
        have h2 : rtL b (rtW q b p) < n := by
          have := (rt_rowV (n := n) (b := b) (k := l) (i := p) hb (by rw [hq]; exact hpl)).1
          rw [hq] at this
          exact rtL_lt hb this
        have h3 : q * (p + 1) ≤ q * rtN q l := Nat.mul_le_mul_left q hpl
        rw [Nat.mul_add, Nat.mul_one] at h3
        have g36 := (g.2 p h1).1
        rw [hq] at g36
        obtain ⟨m2, s1, s2, s3, s4⟩ := cx_branch (fu := fu) (show 100 ≤ fu by omega) (m := m1) (n := n) (i := p) (C := q * p + 1) (oi := rtL b (rtW q b p)) (lev := nI (l + 1)) hn (by rw [f.1 _ _ (by unfold PW; omega)]; exact he) h1 h2 g36 g.1 (by omega)
        rw [s1, hBd_some]
        have f2 : fr PW m m2 := f.tr (s4.mono (fun a j z => by unfold PW; omega))
        have e3 : q * p + 1 + (n - 1) = q * (p + 1) + 1 := by rw [Nat.mul_add, hq]; omega
        refine ih (p + 1) m2 (by omega) (by omega) (by omega) ⟨by rw [← e3]; exact s2, fun i hi => ?_⟩ f2
        by_cases ci : i < q * p + 1
        · rw [s4.1 36 i (by omega), s4.1 37 i (by omega), s4.1 35 i (by omega)]
          exact g.2 i ci
        · obtain ⟨kk, rfl⟩ : ∃ kk, i = q * p + 1 + kk := ⟨i - (q * p + 1), by omega⟩
          have hkk : kk < q := by omega
          obtain ⟨r1, r2, r3⟩ := s3 kk (by omega)
          rw [r1, r2, r3, hq, rtW_s hkk, rt_div hkk, List.length_cons, rt_lev2 (b := b) (by omega) hf hpl]
          exact ⟨rfl, rfl, fun _ => rfl⟩
  have outer : ∀ (t l : Nat) (m1 : hM), l ≤ k → k - l < t → gwR n b m1 (rtN q l) → fr PW m m1 → ∃ m', f_X9_grow_31 fu t (nI k) (nI (rtF q l)) (nI (l + 1)) m1 = some ((), m') ∧ gwR n b m' (rtN q k) ∧ fr PW m m' := by
    intro t
    induction t with
    | zero => intro l m1 h1 h2; exact absurd h2 (Nat.not_lt_zero _)
    | succ t ih =>
      intro l m1 hl ht g f
      rw [f_X9_grow_31_s]
      unfold s_X9_grow_31
      by_cases c : nI k < nI (l + 1)
      · rw [if_pos c]
        rw [nI_ltI (by omega) (by omega)] at c
        have : l = k := by omega
        subst this
        exact ⟨m1, rfl, g, f⟩
      · rw [if_neg c, hLet_n, g.1]
        rw [nI_ltI (by omega) (by omega)] at c
        have hN0 : rtN q l ≤ 156 := rtN_le hq5 _ (by omega)
        obtain ⟨m2, s1, s2, s3⟩ := inner (f_X9_grow_31 fu t) l (by omega) fu (rtF q l) m1 (rtF_le q l) (by omega) (Nat.le_refl _) (by rw [← rtN_F]; exact g) f
        rw [s1]
        exact ih (l + 1) m2 (by omega) (by omega) (by rw [show rtN q (l + 1) = q * rtN q l + 1 from Nat.add_comm _ _]; exact s2) s3
  unfold f_X9_grow
  simp only [hLet_n]
  refine outer fu 0 _ (by omega) (by omega) ⟨?_, fun i hi => ?_⟩ ((((fr.rf.si (by unfold PW; omega)).si (by unfold PW; omega)).si (by unfold PW; omega)).si (by unfold PW; omega))
  · rw [gI_ss]; rfl
  · have : i = 0 := by rw [rtN] at hi; omega
    subst this
    rw [rtW_0]
    simp (disch := omega) only [gI_sn, gI_ss]
    exact ⟨rfl, rfl, fun z => absurd z (Nat.lt_irrefl 0)⟩
