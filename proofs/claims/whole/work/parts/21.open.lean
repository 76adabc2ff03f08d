/-! ===== when an office is at work: the one function that both sides compute ===== -/
def fmI (x y : Int32) : Int32 := if 0 ≤ x ^^^ y then x - x / y * y else if x - x / y * y = 0 then x - x / y * y else x - x / y * y + y
def fdI (x y : Int32) : Int32 := if 0 ≤ x ^^^ y then x / y else if x / y * y = x then x / y else x / y - 1
theorem e_fm {fu : Nat} {x y : Int32} {m : hM} (h : ¬ y = 0) : f_J9_floorMod_7cf53 fu x y m = some (fmI x y, m) := by
  unfold f_J9_floorMod_7cf53 fmI
  rw [if_pos h]
  simp only [hLet_e]
  split
  · rfl
  · split <;> rfl
theorem e_fd {fu : Nat} {x y : Int32} {m : hM} (h : ¬ y = 0) : f_J9_floorDiv_7cf53 fu x y m = some (fdI x y, m) := by
  unfold f_J9_floorDiv_7cf53 fdI
  rw [if_pos h]
  simp only [hLet_e]
  split
  · rfl
  · split <;> rfl
theorem e_max {fu : Nat} {x y : Int32} {m : hM} : f_J9_max_7cf53 fu x y m = some (if x < y then y else x, m) := by
  unfold f_J9_max_7cf53
  split <;> rfl
theorem e_min {fu : Nat} {x y : Int32} {m : hM} : f_J9_min_7cf53 fu x y m = some (if y < x then y else x, m) := by
  unfold f_J9_min_7cf53
  split <;> rfl
/-- LOCAL of an office at an hour, the hours gone since its last begin, the day of that begin -/
def locI (v : hM) (o : Nat) (h : Int32) : Int32 := (h + gI v 98 o) + (if h < gI v 104 o then 0 else gI v 105 o)
def gonI (v : hM) (o : Nat) (h : Int32) : Int32 := fmI (locI v o h - gI v 99 o) 24
def dayI (v : hM) (o : Nat) (h : Int32) : Int32 := fdI (locI v o h - gonI v o h) 24
def opn (v : hM) (o : Nat) (h : Int32) : Int32 := if gI v 100 o ≤ gonI v o h then 0 else if hIn (dayI v o h) 100 then (if gI v 106 (100 * o + (dayI v o h).toNatClampNeg) = 0 then 1 else 0) else 1
theorem opn_01 (v : hM) (o : Nat) (h : Int32) : opn v o h = 0 ∨ opn v o h = 1 := by
  unfold opn
  split
  · exact Or.inl rfl
  · split
    · split
      · exact Or.inr rfl
      · exact Or.inl rfl
    · exact Or.inr rfl
theorem hIn_lt {o n : Nat} (h : o < n) (hn : n ≤ 2147483648) : hIn (nI o) n := (hIn_n (by omega)).mpr h
theorem fe_ix {o : Nat} {d : Int32} (ho : o < 6) (hd : hIn d 100) : hIn ((100 * nI o) + d) 600 ∧ ((100 * nI o) + d).toNatClampNeg = 100 * o + d.toNatClampNeg := by
  obtain ⟨j, hj, rfl⟩ := hIn_of hd (by omega)
  have e : (100 : Int32) * nI o + nI j = nI (100 * o + j) := by
    rw [show (100 : Int32) = nI 100 from rfl, pk_mul, nI_add]
  rw [e, nI_clamp (by omega), nI_clamp (by omega)]
  exact ⟨hIn_lt (by omega) (by omega), rfl⟩
theorem rx_isOpen (fu : Nat) {o : Nat} (ho : o < 6) (h : Int32) (m : hM) : f_X11_isOpen fu (nI o) h m = some (opn m o h, m) := by
  have h6 : hIn (nI o) 6 := hIn_lt ho (by omega)
  have hc : (nI o).toNatClampNeg = o := nI_clamp (by omega)
  have key : ∀ (s0 s1 : Int32), s0 + s1 = locI m o h → f_X11_isOpen_28 fu (nI o) s0 s1 m = some (opn m o h, m) := by
    intro s0 s1 e
    unfold f_X11_isOpen_28
    simp only [hLet_e, e, if_pos h6, hc]
    rw [e_fm (by decide), hBd_some]
    show hBd (f_J9_floorDiv_7cf53 fu (locI m o h - gonI m o h) 24 m) _ = _
    rw [e_fd (by decide), hBd_some]
    show (if gI m 100 o ≤ gonI m o h then _ else _) = _
    unfold opn
    split
    · rfl
    · rw [rx_isDay, hBd_some]
      show (if (if hIn (dayI m o h) 100 then (1 : Int32) else 0) = 0 then _ else _) = _
      by_cases hd : hIn (dayI m o h) 100
      · obtain ⟨q1, q2⟩ := fe_ix ho hd
        rw [if_pos hd, if_pos hd, if_neg (by decide)]
        show (if hIn (100 * nI o + dayI m o h) 600 then _ else _) = _
        rw [if_pos q1]
        show (if ¬ gI m 106 (100 * nI o + dayI m o h).toNatClampNeg = 0 then _ else _) = _
        rw [q2]
        by_cases hz : gI m 106 (100 * o + (dayI m o h).toNatClampNeg) = 0
        · rw [if_neg (fun q => q hz), if_pos hz]
        · rw [if_pos hz, if_neg hz]
      · rw [if_neg hd, if_neg hd, if_pos rfl]
  unfold f_X11_isOpen
  rw [if_pos h6, if_pos h6, hc]
  by_cases hq : h < gI m 104 o
  · rw [if_pos hq]
    exact key _ _ (by unfold locI; rw [if_pos hq])
  · rw [if_neg hq, if_pos h6]
    exact key _ _ (by unfold locI; rw [if_neg hq])
/-- the class's office o holds what v tells of it -/
def oRel (v m : hM) (o : Nat) : Prop := (∀ j, j < 8 → gI m (6 + 2 * o) j = gI v (98 + j) o) ∧ ∀ d, d < 100 → gI m (6 + 2 * o + 1) d = gI v 106 (100 * o + d)
theorem cx_atWork (fu : Nat) {o : Nat} (ho : o < 6) (h : Int32) {v m : hM} (r : oRel v m o) : f_X2_atWork fu (6 + 2 * o) h m = some (opn v o h, m) := by
  have e0 : gI m (6 + 2 * o) 0 = gI v 98 o := r.1 0 (by omega)
  have e1 : gI m (6 + 2 * o) 1 = gI v 99 o := r.1 1 (by omega)
  have e2 : gI m (6 + 2 * o) 2 = gI v 100 o := r.1 2 (by omega)
  have e6 : gI m (6 + 2 * o) 6 = gI v 104 o := r.1 6 (by omega)
  have e7 : gI m (6 + 2 * o) 7 = gI v 105 o := r.1 7 (by omega)
  have key : ∀ (s0 s1 : Int32), s0 + s1 = locI v o h → f_X2_atWork_22 fu (6 + 2 * o) s0 s1 m = some (opn v o h, m) := by
    intro s0 s1 e
    unfold f_X2_atWork_22
    simp only [hLet_e, e, e1]
    rw [e_fm (by decide), hBd_some]
    show (if gonI v o h < gI m (6 + 2 * o) 2 then _ else _) = _
    rw [e2]
    unfold opn
    by_cases hg : gI v 100 o ≤ gonI v o h
    · rw [if_neg (by rw [i_lt]; rw [i_le] at hg; omega), if_pos hg]
    · rw [if_pos (by rw [i_lt]; rw [i_le] at hg; omega), if_neg hg]
      show hBd (f_J9_floorDiv_7cf53 fu (locI v o h - gonI v o h) 24 m) _ = _
      rw [e_fd (by decide), hBd_some, cx_isDay, hBd_some]
      show (if (if hIn (dayI v o h) 100 then (1 : Int32) else 0) = 0 then _ else _) = _
      by_cases hd : hIn (dayI v o h) 100
      · rw [if_pos hd, if_pos hd, if_neg (by decide)]
        show (if hIn (dayI v o h) 100 then _ else _) = _
        rw [if_pos hd]
        show (if ¬ gI m (6 + 2 * o + 1) (dayI v o h).toNatClampNeg = 0 then _ else _) = _
        rw [r.2 _ (cl_lt hd)]
        by_cases hz : gI v 106 (100 * o + (dayI v o h).toNatClampNeg) = 0
        · rw [if_neg (fun q => q hz), if_pos hz]
        · rw [if_pos hz, if_neg hz]
      · rw [if_neg hd, if_neg hd, if_pos rfl]
  unfold f_X2_atWork
  rw [if_pos (of_ob o ho), e6, e0, e7]
  by_cases hq : h < gI v 104 o
  · rw [if_pos hq]
    exact key _ _ (by unfold locI; rw [if_pos hq])
  · rw [if_neg hq]
    exact key _ _ (by unfold locI; rw [if_neg hq])
