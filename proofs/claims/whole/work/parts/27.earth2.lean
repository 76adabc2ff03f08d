/-! ===== floorMod and floorDiv by 24; one office anew; feast ===== -/
theorem neg_bt (x : Int32) : x.toInt < 0 ↔ bt x 31 = true := by
  have h : x.toBitVec.msb = decide (x.toBitVec.toInt < 0) := BitVec.msb_eq_toInt
  have h2 : x.toBitVec.msb = bt x 31 := BitVec.msb_eq_getLsbD_last _
  rw [← h2, h]
  simp
theorem xor24 (x : Int32) : 0 ≤ x ^^^ 24 ↔ 0 ≤ x.toInt := by
  have e0 : (0 : Int32).toInt = 0 := rfl
  rw [i_le, e0]
  have h1 := neg_bt (x ^^^ 24)
  have h2 := neg_bt x
  rw [b_xor, show bt 24 31 = false from by decide +kernel, Bool.xor_false] at h1
  have h3 := h1.trans h2.symm
  omega
theorem div24 (x : Int32) : (x / 24).toInt = x.toInt.tdiv 24 := by
  have h1 := Int32.le_toInt x
  have h2 := Int32.toInt_lt x
  rw [Int32.toInt_div, show (24 : Int32).toInt = 24 from rfl]
  generalize hz : x.toInt = z at h1 h2 ⊢
  have h3 : z.tdiv 24 = if 0 ≤ z then z / 24 else -((-z) / 24) := by
    by_cases c : 0 ≤ z
    · rw [if_pos c, Int.tdiv_eq_ediv_of_nonneg c]
    · rw [if_neg c]
      have : z = -(-z) := by omega
      rw [this, Int.neg_tdiv, Int.tdiv_eq_ediv_of_nonneg (by omega)]
      omega
  rw [h3]
  exact Int.bmod_eq_of_le (by split <;> omega) (by split <;> omega)
theorem tdiv24 (z : Int) : z.tdiv 24 = if 0 ≤ z then z / 24 else -((-z) / 24) := by
  by_cases c : 0 ≤ z
  · rw [if_pos c, Int.tdiv_eq_ediv_of_nonneg c]
  · rw [if_neg c]
    have : z = -(-z) := by omega
    rw [this, Int.neg_tdiv, Int.tdiv_eq_ediv_of_nonneg (by omega)]
    omega
theorem fm24 {x : Int32} (h : -1000000 ≤ x.toInt ∧ x.toInt ≤ 1000000) : (fmI x 24).toInt = x.toInt % 24 := by
  have ed := div24 x
  rw [tdiv24] at ed
  have e24 : (24 : Int32).toInt = 24 := rfl
  have e0 : (0 : Int32).toInt = 0 := rfl
  have em : (x / 24 * 24).toInt = (x / 24).toInt * 24 := by
    rw [i_mul] <;> rw [e24] <;> rw [ed] <;> split <;> omega
  have er : (x - x / 24 * 24).toInt = x.toInt - (x / 24).toInt * 24 := by
    rw [i_sub] <;> rw [em] <;> rw [ed] <;> split <;> omega
  unfold fmI
  by_cases c : 0 ≤ x ^^^ 24
  · rw [if_pos c, er, ed]
    rw [xor24] at c
    rw [if_pos c]
    omega
  · rw [if_neg c]
    rw [xor24] at c
    rw [if_neg c] at ed
    by_cases c2 : x - x / 24 * 24 = 0
    · rw [if_pos c2, er, ed]
      rw [i_eq, er, e0, ed] at c2
      omega
    · rw [if_neg c2]
      rw [i_eq, er, e0, ed] at c2
      rw [i_add] <;> rw [er, e24, ed] <;> omega
theorem fd24 {x : Int32} (h : -1000000 ≤ x.toInt ∧ x.toInt ≤ 1000000) : (fdI x 24).toInt = x.toInt / 24 := by
  have ed := div24 x
  rw [tdiv24] at ed
  have e24 : (24 : Int32).toInt = 24 := rfl
  have e1 : (1 : Int32).toInt = 1 := rfl
  have em : (x / 24 * 24).toInt = (x / 24).toInt * 24 := by
    rw [i_mul] <;> rw [e24] <;> rw [ed] <;> split <;> omega
  unfold fdI
  by_cases c : 0 ≤ x ^^^ 24
  · rw [if_pos c, ed]
    rw [xor24] at c
    rw [if_pos c]
  · rw [if_neg c]
    rw [xor24] at c
    rw [if_neg c] at ed
    by_cases c2 : x / 24 * 24 = x
    · rw [if_pos c2, ed]
      rw [i_eq, em, ed] at c2
      omega
    · rw [if_neg c2]
      rw [i_eq, em, ed] at c2
      rw [i_sub] <;> rw [ed, e1] <;> omega
/-- LOCAL, the hours gone and the day, as whole numbers -/
theorem loc_int {v : hM} {o : Nat} (r : oRng v o) {h : Nat} (hh : h < 100000) : ∃ z : Int, z = (h : Int) + (gI v 98 o).toInt + (if (h : Int) < (gI v 104 o).toInt then 0 else (gI v 105 o).toInt) ∧ (gonI v o (nI h)).toInt = (z - (gI v 99 o).toInt) % 24 ∧ (dayI v o (nI h)).toInt = (z - (z - (gI v 99 o).toInt) % 24) / 24 := by
  obtain ⟨r0, r1, r2, r3, r4, r5, r6, r7, r8⟩ := r
  have eh : (nI h).toInt = (h : Int) := nI_toInt (by omega)
  refine ⟨_, rfl, ?_⟩
  have e0 : (0 : Int32).toInt = 0 := rfl
  have el : (locI v o (nI h)).toInt = (h : Int) + (gI v 98 o).toInt + (if (h : Int) < (gI v 104 o).toInt then 0 else (gI v 105 o).toInt) := by
    unfold locI
    have e1 : (nI h + gI v 98 o).toInt = (h : Int) + (gI v 98 o).toInt := by rw [i_add] <;> rw [eh] <;> omega
    by_cases c : nI h < gI v 104 o
    · rw [if_pos c]
      rw [i_lt, eh] at c
      rw [if_pos c, i_add] <;> rw [e1, e0] <;> omega
    · rw [if_neg c]
      rw [i_lt, eh] at c
      rw [if_neg c, i_add] <;> rw [e1] <;> omega
  generalize (h : Int) + (gI v 98 o).toInt + (if (h : Int) < (gI v 104 o).toInt then 0 else (gI v 105 o).toInt) = z at el ⊢
  have hz : -100 ≤ z ∧ z ≤ 200000 := by
    have e1 : (locI v o (nI h)).toInt = (h : Int) + (gI v 98 o).toInt ∨ (locI v o (nI h)).toInt = (h : Int) + (gI v 98 o).toInt + (gI v 105 o).toInt := by
      unfold locI
      have e1 : (nI h + gI v 98 o).toInt = (h : Int) + (gI v 98 o).toInt := by rw [i_add] <;> rw [eh] <;> omega
      by_cases c : nI h < gI v 104 o
      · rw [if_pos c]
        left
        rw [Int32.add_zero]
        exact e1
      · rw [if_neg c]
        right
        rw [i_add] <;> rw [e1] <;> omega
    omega
  have es : (locI v o (nI h) - gI v 99 o).toInt = z - (gI v 99 o).toInt := by rw [i_sub] <;> rw [el] <;> omega
  have eg : (gonI v o (nI h)).toInt = (z - (gI v 99 o).toInt) % 24 := by
    unfold gonI
    rw [fm24 (by rw [es]; omega), es]
  refine ⟨eg, ?_⟩
  have et : (locI v o (nI h) - gonI v o (nI h)).toInt = z - (z - (gI v 99 o).toInt) % 24 := by
    rw [i_sub] <;> rw [el, eg] <;> omega
  unfold dayI
  rw [fd24 (by rw [et]; omega), et]
/-- a feast of a day is felt in the hours of that day's stint alone -/
theorem opn_feast {v v' : hM} {o d : Nat} (r : oRng v o) (hd : d < 100) (h1 : ∀ j, j < 8 → gI v' (98 + j) o = gI v (98 + j) o) (h2 : ∀ e, e < 100 → e ≠ d → gI v' 106 (100 * o + e) = gI v 106 (100 * o + e)) {h : Nat} (hh : h < 100000)
    (hq : (h : Int) < 24 * d + (gI v 99 o).toInt - (gI v 98 o).toInt - 1 ∨ 24 * d + (gI v 99 o).toInt - (gI v 98 o).toInt + (gI v 100 o).toInt + 1 ≤ h) : opn v' o (nI h) = opn v o (nI h) := by
  have e0 : gI v' 98 o = gI v 98 o := h1 0 (by omega)
  have e1 : gI v' 99 o = gI v 99 o := h1 1 (by omega)
  have e2 : gI v' 100 o = gI v 100 o := h1 2 (by omega)
  have e6 : gI v' 104 o = gI v 104 o := h1 6 (by omega)
  have e7 : gI v' 105 o = gI v 105 o := h1 7 (by omega)
  have l1 : locI v' o (nI h) = locI v o (nI h) := by unfold locI; rw [e0, e6, e7]
  have l2 : gonI v' o (nI h) = gonI v o (nI h) := by unfold gonI; rw [l1, e1]
  have l3 : dayI v' o (nI h) = dayI v o (nI h) := by unfold dayI; rw [l1, l2]
  unfold opn
  rw [e2, l2, l3]
  by_cases c : gI v 100 o ≤ gonI v o (nI h)
  · rw [if_pos c, if_pos c]
  · rw [if_neg c, if_neg c]
    by_cases c2 : hIn (dayI v o (nI h)) 100
    · rw [if_pos c2, if_pos c2]
      have hne : (dayI v o (nI h)).toNatClampNeg ≠ d := by
        intro hz
        obtain ⟨z, z1, z2, z3⟩ := loc_int r hh
        have c3 := i_cl c2.1
        rw [hz] at c3
        obtain ⟨r0, r1, r2, r3, r4, r5, r6, r7, r8⟩ := r
        rw [i_le, z2] at c
        rw [z3] at c3
        have z4 : z = (h : Int) + (gI v 98 o).toInt ∨ z = (h : Int) + (gI v 98 o).toInt + (gI v 105 o).toInt := by
          rw [z1]
          by_cases q : (h : Int) < (gI v 104 o).toInt
          · rw [if_pos q]; left; omega
          · rw [if_neg q]; right; rfl
        clear z1 z2 z3 l1 l2 l3 c2
        omega
      rw [h2 _ (cl_lt c2) hne]
    · rw [if_neg c2, if_neg c2]
theorem e_upd {v v' m m' : hM} {n k : Nat} (hn : n ≤ 6) (hk : k < n) (he : eRel v m n)
    (hE : ∀ a j, a ≠ 4 → a ≠ 5 → a ≠ 6 + 2 * k → a ≠ 6 + 2 * k + 1 → gI m' a j = gI m a j)
    (hV1 : gI v' 96 14 = gI v 96 14) (hV2 : gI v' 96 15 = gI v 96 15) (hVk : ∀ j, gI v' 107 j = gI v 107 j)
    (hVo : ∀ o, o < n → o ≠ k → (∀ j, j < 8 → gI v' (98 + j) o = gI v (98 + j) o) ∧ ∀ d, d < 100 → gI v' 106 (100 * o + d) = gI v 106 (100 * o + d))
    (h3 : oRel v' m' k ∧ wRel v' m' k ∧ aRel v' m' k)
    (hb : ∀ o' j, o' < 32 → o' ≠ k → bt (gI m' 4 j) o' = bt (gI m 4 j) o')
    (ha : ∀ j, (j < 80 * k ∨ 80 * k + 80 ≤ j) → gI m' 5 j = gI m 5 j) : eRel v' m' n := by
  refine ⟨?_, ?_, ?_, fun o ho => ?_, fun o ho ho6 => ?_, fun a b ha hb => ?_, fun a b ha hb hq => ?_⟩
  · rw [hE 1 4 (by omega) (by omega) (by omega) (by omega)]; exact he.1
  · rw [hE 1 5 (by omega) (by omega) (by omega) (by omega), hV1]; exact he.2.1
  · rw [hE 1 6 (by omega) (by omega) (by omega) (by omega), hV2]; exact he.2.2.1
  · by_cases hok2 : o = k
    · subst hok2; exact h3
    · exact off_keep (he.2.2.2.1 o ho) (hVo o ho hok2).1 (hVo o ho hok2).2 (fun j => hE _ j (by omega) (by omega) (by omega) (by omega)) (fun j => hE _ j (by omega) (by omega) (by omega) (by omega)) (fun j => hb o j (by omega) hok2) (fun j h1 h2 => ha j (by omega))
  · have hx := he.2.2.2.2.1 o ho ho6
    exact ⟨by rw [hE _ _ (by omega) (by omega) (by omega) (by omega)]; exact hx.1, by rw [hE _ _ (by omega) (by omega) (by omega) (by omega)]; exact hx.2.1, fun d hd => by rw [hE _ _ (by omega) (by omega) (by omega) (by omega)]; exact hx.2.2 d hd⟩
  · rw [hE _ _ (by omega) (by omega) (by omega) (by omega), hVk]; exact he.2.2.2.2.2.1 a b ha hb
  · rw [hE _ _ (by omega) (by omega) (by omega) (by omega)]; exact he.2.2.2.2.2.2 a b ha hb hq
