/-- the second loop of refresh: the hours ahead, from the last one down -/
theorem rf_loop2 (fu : Nat) {v : hM} {o : Nat} (ho : o < 6) (x2 : Int32) (hx2 : -1000000 ≤ x2.toInt ∧ x2.toInt ≤ 1000000) : ∀ (n : Nat) (x7 : Int32) (m : hM), -1000000 ≤ x7.toInt → x7.toInt ≤ 2499 → 0 < n → x7.toInt + 1 < n →
    wRel v m o → (∀ h : Nat, h < 2500 → x7.toInt < h → aAt v m o h) →
    ∃ m', f_X0_refresh_100 fu n (nI o) x2 (nI (2500 * o)) x7 m = some ((), m') ∧ only 5 m m' ∧ (∀ j, (j < 2500 * o ∨ 2500 * o + 2500 ≤ j) → gI m' 5 j = gI m 5 j) ∧
      (∀ h : Nat, h < 2500 → (x7.toInt < h ∨ x2.toInt - 24 < h) → aAt v m' o h) ∧ (∀ h : Nat, h < 2500 → (h : Int) ≤ x2.toInt - 24 → gI m' 5 (2500 * o + h) = gI m 5 (2500 * o + h)) := by
  have hc : (nI o).toNatClampNeg = o := nI_clamp (by omega)
  intro n
  induction n with
  | zero => intro x7 m h1 h2 hp; omega
  | succ n ih =>
    intro x7 m h1 h2 hp h3 hw ha
    have e0 : (0 : Int32).toInt = 0 := rfl
    have e24 : (x2 - 24).toInt = x2.toInt - 24 := by
      have : (24 : Int32).toInt = 24 := rfl
      rw [i_sub] <;> rw [this] <;> omega
    rw [f_X0_refresh_100_s]
    unfold s_X0_refresh_100
    by_cases c1 : x7 < 0
    · rw [if_pos c1]
      rw [i_lt, e0] at c1
      exact ⟨m, rfl, only.rf, fun _ _ => rfl, fun h hh _ => ha h hh (by omega), fun _ _ _ => rfl⟩
    · rw [if_neg c1]
      rw [i_lt, e0] at c1
      by_cases c2 : x7 ≤ x2 - 24
      · rw [if_pos c2]
        rw [i_le, e24] at c2
        exact ⟨m, rfl, only.rf, fun _ _ => rfl, fun h hh hq => ha h hh (by omega), fun _ _ _ => rfl⟩
      · rw [if_neg c2]
        rw [i_le, e24] at c2
        obtain ⟨h, hh, rfl⟩ := nI_of (x := x7) (by rw [i_lt, e0]; exact c1)
        have eh : (nI h).toInt = (h : Int) := nI_toInt hh
        rw [eh] at h1 h2 h3 c2 ha
        have hlt : h < 2500 := by omega
        have hin : hIn (nI h) 2500 := hIn_lt hlt (by omega)
        have hch : (nI h).toNatClampNeg = h := nI_clamp (by omega)
        have e57 : nI (2500 * o) + nI h = nI (2500 * o + h) := nI_add _ _
        have hin2 : hIn (nI (2500 * o + h)) 15000 := hIn_lt (by omega) (by omega)
        have hc2 : (nI (2500 * o + h)).toNatClampNeg = 2500 * o + h := nI_clamp (by omega)
        have edec : nI h + (-1) = nI h - 1 := (Int32.sub_eq_add_neg (nI h) 1).symm
        have step : ∀ s0 : Int32, (∀ i, i < 32 → bt s0 i = (decide (1 ≤ i ∧ i < 25 ∧ h + i < 2500) && decide (opn v o (nI (h + i)) = 1))) →
            ∃ m', f_X0_refresh_142 fu (f_X0_refresh_100 fu n) (nI o) x2 (nI (2500 * o)) (nI h) s0 m = some ((), m') ∧ only 5 m m' ∧ (∀ j, (j < 2500 * o ∨ 2500 * o + 2500 ≤ j) → gI m' 5 j = gI m 5 j) ∧
              (∀ h' : Nat, h' < 2500 → ((h : Int) < h' ∨ x2.toInt - 24 < h') → aAt v m' o h') ∧ (∀ h' : Nat, h' < 2500 → (h' : Int) ≤ x2.toInt - 24 → gI m' 5 (2500 * o + h') = gI m 5 (2500 * o + h')) := by
          intro s0 hs0
          unfold f_X0_refresh_142
          rw [if_pos hin, e57, if_pos hin2, hch, hc2]
          simp only [hLet_e]
          have e1m : (nI h + (-1)).toInt = (h : Int) - 1 := by
            rw [edec]; exact nI_m1 (by omega)
          generalize nI h + (-1) = x8 at e1m ⊢
          generalize hz : ((s0 &&& 16777215) ||| ((gI m 4 h >>> (nI o &&& 31)) &&& 1)) = z
          have hzb : ∀ i, i < 32 → bt z i = (decide (i < 24 ∧ h + i < 2500) && decide (opn v o (nI (h + i)) = 1)) := by
            intro i hi
            rw [← hz, b_or, b_and, b_24 i hi, hs0 i hi, b_rd (by omega), hw h hlt]
            by_cases hi0 : i = 0
            · subst hi0
              simp only [Nat.add_zero, hlt]
              by_cases hq : opn v o (nI h) = 1
              · simp [hq, b_1 0 (by omega)]
              · simp [hq, b_0]
            · have : bt (if decide (opn v o (nI h) = 1) = true then 1 else 0) i = false := by
                split
                · rw [b_1 i hi]; simp [hi0]
                · exact b_0 i
              rw [this]
              by_cases hq : i < 24
              · simp [hq, show 1 ≤ i by omega, show i < 25 by omega]
              · simp [hq]
          have hw' : wRel v (sI m 5 (2500 * o + h) z) o := fun h' hh' => by rw [gI_sI, if_neg (by omega)]; exact hw h' hh'
          have ha' : ∀ h' : Nat, h' < 2500 → x8.toInt < h' → aAt v (sI m 5 (2500 * o + h) z) o h' := by
            intro h' hh' hq
            intro i hi
            rw [gI_sI]
            by_cases he : h' = h
            · subst he
              rw [if_pos ⟨rfl, rfl⟩]
              exact hzb i hi
            · rw [if_neg (by omega)]
              exact ha h' hh' (by omega) i hi
          obtain ⟨m', f1, f2, f3, f4, f5⟩ := ih x8 (sI m 5 (2500 * o + h) z) (by omega) (by omega) (by omega) (by omega) hw' ha'
          refine ⟨m', f1, only.sI.tr f2, fun j hj => ?_, fun h' hh' hq => f4 h' hh' ?_, fun h' hh' hq => ?_⟩
          · rw [f3 j hj, gI_sI, if_neg (by omega)]
          · omega
          · rw [f5 h' hh' hq, gI_sI, if_neg (by omega)]
        rw [eh]
        by_cases c3 : (2500 : Int32) ≤ nI h + 1
        · rw [if_pos c3]
          rw [nI_1, i_le, nI_toInt (by omega)] at c3
          have e25 : (2500 : Int32).toInt = 2500 := rfl
          refine step 0 (fun i hi => ?_)
          rw [b_0, decide_eq_false (by omega)]
          rfl
        · rw [if_neg c3]
          rw [nI_1, i_le, nI_toInt (by omega)] at c3
          have e25 : (2500 : Int32).toInt = 2500 := rfl
          have e58 : nI (2500 * o) + nI h + 1 = nI (2500 * o + h + 1) := by rw [e57, nI_1]
          rw [e58, if_pos (hIn_lt (by omega) (by omega)), nI_clamp (by omega)]
          refine step _ (fun i hi => ?_)
          have ha1 := ha (h + 1) (by omega) (by omega)
          rw [show (1 : Int32) &&& 31 = nI 1 &&& 31 from rfl, b_shl 1 (by omega) _ hi]
          by_cases hi0 : i = 0
          · subst hi0; simp
          · have ha2 := ha1 (i - 1) (by omega)
            rw [show 2500 * o + (h + 1) = 2500 * o + h + 1 by omega] at ha2
            rw [ha2, show h + 1 + (i - 1) = h + i by omega]
            have : (i - 1 < 24 ∧ h + i < 2500) ↔ (1 ≤ i ∧ i < 25 ∧ h + i < 2500) := by omega
            simp only [this]
            simp [show 1 ≤ i by omega]
