/-- refresh of an office's hours: all is right behind it that was right outside of the told hours -/
theorem cx_refresh {fu : Nat} (hfu : 3000 ≤ fu) {v : hM} {o : Nat} (ho : o < 6) {x2 x3 : Int32} (h2 : -1000000 ≤ x2.toInt ∧ x2.toInt ≤ 2500) (h3 : -100000 ≤ x3.toInt ∧ x3.toInt ≤ 1000000) {m : hM} (hr : oRel v m o)
    (hw : ∀ h : Nat, h < 2500 → ((h : Int) < x2.toInt ∨ x3.toInt ≤ h) → bt (gI m 4 h) o = decide (opn v o (nI h) = 1))
    (ha : ∀ h : Nat, h < 2500 → (x3.toInt ≤ h ∨ (h : Int) ≤ x2.toInt - 24) → aAt v m o h) :
    ∃ m', f_X0_refresh fu (nI o) x2 x3 m = some ((), m') ∧ (∀ a j, a ≠ 4 → a ≠ 5 → gI m' a j = gI m a j) ∧ (∀ a j, gL m' a j = gL m a j) ∧ (∀ a j, gR m' a j = gR m a j) ∧ wRel v m' o ∧ aRel v m' o ∧
      (∀ o' j, o' < 32 → o' ≠ o → bt (gI m' 4 j) o' = bt (gI m 4 j) o') ∧ (∀ j, (j < 2500 * o ∨ 2500 * o + 2500 ≤ j) → gI m' 5 j = gI m 5 j) := by
  unfold f_X0_refresh
  simp only [hLet_e]
  rw [e_max, hBd_some]
  have e0 : (0 : Int32).toInt = 0 := rfl
  have e25 : (2500 : Int32).toInt = 2500 := rfl
  have e1 : (1 : Int32).toInt = 1 := rfl
  obtain ⟨h0, hh0, hq0⟩ : ∃ h0 : Nat, (if x2 < 0 then (0 : Int32) else x2) = nI h0 ∧ h0 ≤ 2500 ∧ ((h0 : Int) = x2.toInt ∨ (h0 = 0 ∧ x2.toInt < 0)) := by
    by_cases c : x2 < 0
    · rw [if_pos c]
      rw [i_lt, e0] at c
      exact ⟨0, rfl, by omega, Or.inr ⟨rfl, c⟩⟩
    · rw [if_neg c]
      obtain ⟨j, hj, rfl⟩ := nI_of c
      rw [nI_toInt hj] at h2
      exact ⟨j, rfl, by omega, Or.inl (nI_toInt hj).symm⟩
  rw [hh0]
  obtain ⟨m1, f1, f2, f3⟩ := rf_loop1 fu ho x2 x3 fu h0 m hq0.1 (by omega) hr
  rw [f1]
  have hw1 : wRel v m1 o := by
    intro j hj
    rw [f3 j o (by omega)]
    by_cases c : o = o ∧ h0 ≤ j ∧ j < 2500 ∧ (j : Int) < x3.toInt
    · rw [if_pos c]
    · rw [if_neg c]
      exact hw j hj (by omega)
  unfold f_X0_refresh_78
  simp only [hLet_e]
  rw [e_min, hBd_some]
  have e5 : nI o * 2500 = nI (2500 * o) := by rw [show (2500 : Int32) = nI 2500 from rfl, pk_mul, Nat.mul_comm]
  rw [e5]
  generalize hy : (if (2500 : Int32) < x3 then (2500 : Int32) else x3) = y
  have hyv : y.toInt ≤ 2500 ∧ -100000 ≤ y.toInt ∧ (∀ h : Nat, h < 2500 → y.toInt ≤ h → x3.toInt ≤ h) := by
    rw [← hy]
    by_cases c : (2500 : Int32) < x3
    · rw [if_pos c, e25]
      exact ⟨by omega, by omega, fun h a b => by omega⟩
    · rw [if_neg c]
      rw [i_lt, e25] at c
      exact ⟨by omega, h3.1, fun h a b => b⟩
  have ey : (y - 1).toInt = y.toInt - 1 := by rw [i_sub] <;> rw [e1] <;> omega
  generalize y - 1 = y1 at ey ⊢
  have ha1 : ∀ h : Nat, h < 2500 → y1.toInt < h → aAt v m1 o h := by
    intro h hh hq i hi
    rw [f2.1 5 _ (by omega)]
    exact ha h hh (Or.inl (hyv.2.2 h hh (by omega))) i hi
  obtain ⟨m2, g1, g2, g3, g4, g5⟩ := rf_loop2 fu ho x2 (by omega) fu y1 m1 (by omega) (by omega) (by omega) (by omega) hw1 ha1
  refine ⟨m2, g1, fun a j h4 h5 => (g2.1 a j h5).trans (f2.1 a j h4), fun a j => (g2.2.1 a j).trans (f2.2.1 a j), fun a j => (g2.2.2 a j).trans (f2.2.2 a j), fun h hh => ?_, fun h hh => ?_, fun o' j ho' hne => ?_, fun j hj => ?_⟩
  · rw [g2.1 4 _ (by omega)]
    exact hw1 h hh
  · by_cases c : y1.toInt < h ∨ x2.toInt - 24 < h
    · exact g4 h hh c
    · intro i hi
      rw [g5 h hh (by omega), f2.1 5 _ (by omega)]
      exact ha h hh (Or.inr (by omega)) i hi
  · rw [g2.1 4 _ (by omega), f3 j o' ho', if_neg (fun z => hne z.1)]
  · rw [g3 j hj, f2.1 5 _ (by omega)]
