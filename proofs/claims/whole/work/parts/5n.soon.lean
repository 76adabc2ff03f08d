/-! ===== the soonest: the class ===== -/
def PQ (a j : Nat) : Prop := a = 38 ∨ a = 40 ∨ (a = 34 ∧ j = 5)
theorem gwR_q {n b C : Nat} {m m' : hM} (h : gwR n b m C) (f : fr PQ m m') : gwR n b m' C := gwR_fr h (fun a j z => f.1 a j (by unfold PW at z; unfold PQ; omega))
theorem cx_soon72 {fu : Nat} {lo : Nat → Nat → Nat → Nat} {wk : Nat → Nat → Nat} {n b len k : Nat} (H : wH lo wk n b len k) {x t : Nat} (ht : x + t < 2400) (K : Int32 → Int32 → Int32 → hM → Option (Int32 × hM)) (lim able W : Int32) (hW : ∀ o, o < n → (W >>> (nI o &&& 31)) &&& 1 = nI (wk o (x + t))) : ∀ (f i : Nat) (m1 : hM), i ≤ rtN (n - 1) k → rtN (n - 1) k - i < f → gwR n b m1 (rtN (n - 1) k) →
    (∀ j, j < i → ¬ wE lo wk n b len k x t (rtW (n - 1) b j) ∧ lfP (wM lo wk n b len k x t (rtW (n - 1) b j)) (t + 1) (gI m1 38 j)) → (∀ j, i ≤ j → j < rtN (n - 1) k → lfP (wR lo wk n b len k x t (rtW (n - 1) b j)) t (gI m1 38 j)) →
    ∃ m2, fr PQ m1 m2 ∧ ((∃ i', i' < rtN (n - 1) k ∧ wE lo wk n b len k x t (rtW (n - 1) b i') ∧ (∀ j, j < i' → ¬ wE lo wk n b len k x t (rtW (n - 1) b j)) ∧ f_X9_soonest_72 fu K f lim able (nI (x + t)) W (nI i) m1 = some (nI (x + t + 1), m2) ∧ gI m2 34 5 = nI i') ∨
      (f_X9_soonest_72 fu K f lim able (nI (x + t)) W (nI i) m1 = f_X9_soonest_130 fu K lim able (nI (x + t)) m2 ∧ ∀ j, j < rtN (n - 1) k → ¬ wE lo wk n b len k x t (rtW (n - 1) b j) ∧ lfP (wM lo wk n b len k x t (rtW (n - 1) b j)) (t + 1) (gI m2 38 j))) := by
  have hn := H.2.2.2.1
  have hb := H.2.2.1
  have hC : rtN (n - 1) k ≤ 156 := rtN_le (show n - 1 ≤ 5 by omega) _ H.2.2.2.2.1
  intro f
  induction f with
  | zero => intro i m1 h1 h2; exact absurd h2 (Nat.not_lt_zero _)
  | succ f ih =>
    intro i m1 hi hf g r1 r2
    rw [f_X9_soonest_72_s]
    unfold s_X9_soonest_72 f_X9_soonest_113
    simp only [hLet_n, nI_1]
    rw [g.1]
    by_cases c : nI (rtN (n - 1) k) ≤ nI i
    · rw [if_pos c]
      rw [nI_leI (by omega) (by omega)] at c
      exact ⟨m1, fr.rf, Or.inr ⟨rfl, fun j hj => r1 j (by omega)⟩⟩
    · rw [if_neg c]
      rw [nI_leI (by omega) (by omega)] at c
      have hi6 : hIn (nI i) 156 := hIn_lt (by omega) (by omega)
      have ci : (nI i).toNatClampNeg = i := nI_clamp (by omega)
      have hV := rt_rowV (n := n) (b := b) (k := k) (i := i) hb (by omega)
      rw [if_pos hi6, if_pos hi6, if_pos hi6, if_pos hi6, ci, (g.2 i (by omega)).1, hW _ (rtL_lt hb hV.1), gI_ss]
      rcases lf_work H (show x + t ≤ 2400 by omega) (r2 i (by omega) (by omega)) with ⟨e1, e2⟩ | ⟨e1, e2, e3⟩
      · rw [if_neg (fun z => z e2)]
        refine ⟨sI (sI m1 38 i (gI m1 38 i - nI (wk (rtL b (rtW (n - 1) b i)) (x + t)))) 34 5 (nI i), (fr.rf.si (by unfold PQ; omega)).si (by unfold PQ; omega), Or.inl ⟨i, by omega, e1, fun j hj => (r1 j hj).1, rfl, gI_ss _ _ _ _⟩⟩
      · rw [if_pos e2]
        have f1 : fr PQ m1 (sI m1 38 i (gI m1 38 i - nI (wk (rtL b (rtW (n - 1) b i)) (x + t)))) := fr.rf.si (by unfold PQ; omega)
        obtain ⟨m2, s1, s2⟩ := ih (i + 1) _ (by omega) (by omega) (gwR_q g f1) (fun j hj => by
          by_cases ej : j = i
          · subst ej; rw [gI_ss]; exact ⟨e1, e3⟩
          · rw [gI_sn (by omega)]; exact r1 j (by omega)) (fun j hj1 hj2 => by rw [gI_sn (by omega)]; exact r2 j (by omega) hj2)
        exact ⟨m2, f1.tr s1, s2⟩
theorem cx_soon148 {fu : Nat} {lo : Nat → Nat → Nat → Nat} {wk : Nat → Nat → Nat} {n b len k : Nat} (H : wH lo wk n b len k) {x t : Nat} (ht : x + t < 2400) (K : Int32 → Int32 → Int32 → hM → Option (Int32 × hM)) (lim able : Int32) : ∀ (f i : Nat) (m1 : hM), i < rtN (n - 1) k → i < f → gwR n b m1 (rtN (n - 1) k) →
    (∀ a o, a < n → o < n → a ≠ o → gI m1 40 (6 * a + o) = nI (lo a o (x + t + 1))) →
    (∀ j, i < j → j < rtN (n - 1) k → lfP (wR lo wk n b len k x (t + 1) (rtW (n - 1) b j)) (t + 1) (gI m1 38 j)) → (∀ j, j ≤ i → lfP (wM lo wk n b len k x t (rtW (n - 1) b j)) (t + 1) (gI m1 38 j)) →
    ∃ m2, fr PQ m1 m2 ∧ f_X9_soonest_146 fu K f lim able (nI (x + t)) (nI i) m1 = K lim able (nI (x + t + 1)) m2 ∧ ∀ j, j < rtN (n - 1) k → lfP (wR lo wk n b len k x (t + 1) (rtW (n - 1) b j)) (t + 1) (gI m2 38 j) := by
  have hn := H.2.2.2.1
  have hb := H.2.2.1
  have hC : rtN (n - 1) k ≤ 156 := rtN_le (show n - 1 ≤ 5 by omega) _ H.2.2.2.2.1
  intro f
  induction f with
  | zero => intro i m1 h1 h2; exact absurd h2 (Nat.not_lt_zero _)
  | succ f ih =>
    intro i m1 hi hf g g4 r1 r2
    rw [f_X9_soonest_146_s]
    unfold s_X9_soonest_146 f_X9_soonest_230 f_X9_soonest_223
    simp only [hLet_n, nI_1]
    cases i with
    | zero =>
      rw [if_pos (show nI 0 ≤ 0 by decide)]
      refine ⟨m1, fr.rf, rfl, fun j hj => ?_⟩
      rcases Nat.eq_zero_or_pos j with rfl | q
      · have := r2 0 (Nat.le_refl 0)
        rw [rtW_0] at this ⊢
        exact lf_nil this
      · exact r1 j q hj
    | succ i =>
      rw [if_neg (nI_nle (by omega) (by omega))]
      have hq : 0 < n - 1 := by
        rcases Nat.eq_zero_or_pos (n - 1) with q | q
        · rw [q] at hi
          have := rtN_F 0 k; omega
        · exact q
      obtain ⟨pp, kk, hkk, e1, e2, e3⟩ := rt_child (q := n - 1) (i := i + 1) hq (by omega)
      have eW : rtW (n - 1) b (i + 1) = oth (rtL b (rtW (n - 1) b pp)) kk :: rtW (n - 1) b pp := by rw [e1, rtW_s hkk]
      have hV := rt_rowV (n := n) (b := b) (k := k) (i := i + 1) hb (by omega)
      rw [eW] at hV
      have hi6 : hIn (nI (i + 1)) 156 := hIn_lt (by omega) (by omega)
      have ci : (nI (i + 1)).toNatClampNeg = i + 1 := nI_clamp (by omega)
      have hp6 : hIn (nI pp) 156 := hIn_lt (by omega) (by omega)
      have cp : (nI pp).toNatClampNeg = pp := nI_clamp (by omega)
      have g35 := (g.2 (i + 1) hi).2.2 (by omega)
      rw [e3] at g35
      have g36 := (g.2 (i + 1) hi).1
      rw [eW, rtL] at g36
      have g36p := (g.2 pp (by omega)).1
      have ha : rtL b (rtW (n - 1) b pp) < n := rtL_lt hb hV.1.2.2
      have ho := hV.1.1
      have hao := hV.1.2.1
      have hlen : (rtW (n - 1) b pp).length < k := by have := hV.2; rw [List.length_cons] at this; omega
      have R := lf_hand H ht hlen hV.1 (by have := r2 (i + 1) (Nat.le_refl _); rw [eW] at this; exact this) (r2 pp (by omega))
      generalize oth (rtL b (rtW (n - 1) b pp)) kk = o at *
      generalize ea : rtL b (rtW (n - 1) b pp) = a at *
      obtain ⟨k1, -, k3, k4⟩ := kn_ix (show a < 6 by omega) (show o < 6 by omega)
      have fin : ∀ y, lfP (wR lo wk n b len k x (t + 1) (o :: rtW (n - 1) b pp)) (t + 1) y → ∃ m2, fr PQ m1 m2 ∧ f_X9_soonest_146 fu K f lim able (nI (x + t)) (nI i) (sI m1 38 (i + 1) y) = K lim able (nI (x + t + 1)) m2 ∧ ∀ j, j < rtN (n - 1) k → lfP (wR lo wk n b len k x (t + 1) (rtW (n - 1) b j)) (t + 1) (gI m2 38 j) := by
        intro y hy
        have f1 : fr PQ m1 (sI m1 38 (i + 1) y) := fr.rf.si (by unfold PQ; omega)
        obtain ⟨m2, s1, s2⟩ := ih i _ (by omega) (by omega) (gwR_q g f1) (fun a o z1 z2 z3 => by rw [gI_sn (by omega)]; exact g4 a o z1 z2 z3) (fun j z1 z2 => by
          by_cases ej : j = i + 1
          · subst ej; rw [gI_ss, eW]; exact hy
          · rw [gI_sn (by omega)]; exact r1 j (by omega) z2) (fun j z => by rw [gI_sn (by omega)]; exact r2 j (by omega))
        exact ⟨m2, f1.tr s1, s2⟩
      simp only [ci, g35, cp, g36, g36p, k1, k4, if_pos hi6, if_pos hp6, if_pos k3, g4 a o ha ho (fun z => hao z.symm), pk_m1]
      by_cases c : gI m1 38 (i + 1) ≤ gI m1 38 pp + nI (lo a o (x + t + 1))
      · rw [if_pos c] at R ⊢
        exact fin _ R
      · rw [if_neg c] at R ⊢
        exact fin _ R
