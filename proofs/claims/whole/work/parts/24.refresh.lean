/-- refresh of an office's hours: all is right behind it that was right outside of the told hours -/
theorem cx_refresh {fu : Nat} (hfu : 3000 ≤ fu) {v : hM} {o : Nat} (ho : o < 6) {x2 x3 : Int32} (h2 : -1000000 ≤ x2.toInt ∧ x2.toInt ≤ 2500) {m : hM} (hr : oRel v m o)
    (hw : ∀ h : Nat, h < 2560 → ((h : Int) < x2.toInt ∨ x3.toInt ≤ h) → bt (gI m 4 h) o = decide (opn v o (nI h) = 1))
    (ha : ∀ h : Nat, h < 2560 → ((h : Int) < x2.toInt ∨ x3.toInt ≤ h) → bl (gH m 5 (40 * o + h / 64)) (h % 64) = decide (opn v o (nI h) = 1)) :
    ∃ m', f_X0_refresh fu (nI o) x2 x3 m = some ((), m') ∧ (∀ a j, a ≠ 4 → a ≠ 5 → gI m' a j = gI m a j) ∧ (∀ a j, gL m' a j = gL m a j) ∧ (∀ a j, gR m' a j = gR m a j) ∧ wRel v m' o ∧ aRel v m' o ∧
      (∀ o' j, o' < 32 → o' ≠ o → bt (gI m' 4 j) o' = bt (gI m 4 j) o') ∧ (∀ j, (j < 80 * o ∨ 80 * o + 80 ≤ j) → gI m' 5 j = gI m 5 j) := by
  unfold f_X0_refresh
  simp only [hLet_e]
  rw [e_max, hBd_some]
  have e0 : (0 : Int32).toInt = 0 := rfl
  obtain ⟨h0, hh0, hq0⟩ : ∃ h0 : Nat, (if x2 < 0 then (0 : Int32) else x2) = nI h0 ∧ h0 ≤ 2500 ∧ ((h0 : Int) = x2.toInt ∨ (h0 = 0 ∧ x2.toInt < 0)) := by
    by_cases c : x2 < 0
    · rw [if_pos c]
      rw [i_lt, e0] at c
      exact ⟨0, rfl, by omega, Or.inr ⟨rfl, c⟩⟩
    · rw [if_neg c]
      obtain ⟨j, hj, rfl⟩ := nI_of c
      rw [nI_toInt hj] at h2
      exact ⟨j, rfl, by omega, Or.inl (nI_toInt hj).symm⟩
  rw [hh0]
  obtain ⟨m1, f1, f2, f3, f4, f5⟩ := rf_loop1 fu ho x3 fu h0 m (by omega) (by omega) hr
  refine ⟨m1, f1, f2.1, f2.2.1, f2.2.2, fun j hj => ?_, fun q hq => ?_, fun o' j ho' hne => ?_, f5⟩
  · rw [f3 j o (by omega)]
    by_cases c : o = o ∧ h0 ≤ j ∧ j < 2560 ∧ (j : Int) < x3.toInt
    · rw [if_pos c]
    · rw [if_neg c]
      exact hw j hj (by omega)
  · rw [f4 q hq]
    by_cases c : h0 ≤ q ∧ (q : Int) < x3.toInt
    · rw [if_pos c]
    · rw [if_neg c]
      exact ha q hq (by omega)
  · rw [f3 j o' ho', if_neg (fun z => hne z.1)]
