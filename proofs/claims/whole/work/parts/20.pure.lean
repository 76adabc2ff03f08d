/-! ===== Int32 by its bits: bt x i ===== -/
def bt (x : Int32) (i : Nat) : Bool := x.toBitVec.getLsbD i
theorem b_ext {x y : Int32} (h : ∀ i, i < 32 → bt x i = bt y i) : x = y := Int32.toBitVec_inj.mp (BitVec.eq_of_getLsbD_eq (fun i hi => h i hi))
theorem b_or (x y : Int32) (i : Nat) : bt (x ||| y) i = (bt x i || bt y i) := by unfold bt; rw [Int32.toBitVec_or, BitVec.getLsbD_or]
theorem b_and (x y : Int32) (i : Nat) : bt (x &&& y) i = (bt x i && bt y i) := by unfold bt; rw [Int32.toBitVec_and, BitVec.getLsbD_and]
theorem b_xor (x y : Int32) (i : Nat) : bt (x ^^^ y) i = (bt x i ^^ bt y i) := by unfold bt; rw [Int32.toBitVec_xor, BitVec.getLsbD_xor]
theorem b_big {x : Int32} {i : Nat} (h : 32 ≤ i) : bt x i = false := BitVec.getLsbD_of_ge _ _ h
theorem b_255 (i : Nat) : bt 255 i = decide (i < 8) := by
  rcases Nat.lt_or_ge i 32 with h | h
  · exact (by decide +kernel : ∀ i, i < 32 → bt 255 i = decide (i < 8)) i h
  · rw [b_big h, decide_eq_false (by omega)]
theorem b_65535 (i : Nat) : bt 65535 i = decide (i < 16) := by
  rcases Nat.lt_or_ge i 32 with h | h
  · exact (by decide +kernel : ∀ i, i < 32 → bt 65535 i = decide (i < 16)) i h
  · rw [b_big h, decide_eq_false (by omega)]
theorem b_m1 : ∀ i, i < 32 → bt (-1) i = true := by decide +kernel
theorem b_0 (i : Nat) : bt 0 i = false := BitVec.getLsbD_zero
theorem s_l : ∀ n, n < 32 → ((nI n &&& 31).toBitVec.smod 32).toNat = n := by decide +kernel
theorem s_u : ∀ n, n < 32 → (((nI n).toUInt32 &&& Int32.toUInt32 31).toBitVec % 32).toNat = n := by decide +kernel
theorem b_shl (n : Nat) (hn : n < 32) (x : Int32) {i : Nat} (hi : i < 32) : bt (x <<< (nI n &&& 31)) i = (decide (n ≤ i) && bt x (i - n)) := by
  unfold bt
  rw [Int32.toBitVec_shiftLeft]
  show (x.toBitVec <<< ((nI n &&& 31).toBitVec.smod 32).toNat).getLsbD i = _
  rw [s_l n hn, BitVec.getLsbD_shiftLeft]
  rcases Nat.lt_or_ge i n with h | h
  · simp [h, Nat.not_le.mpr h]
  · simp [hi, h, Nat.not_lt.mpr h]
theorem b_ushr (n : Nat) (hn : n < 32) (x : Int32) (i : Nat) : bt ((x.toUInt32 >>> ((nI n).toUInt32 &&& Int32.toUInt32 31)).toInt32) i = bt x (n + i) := by
  show (x.toUInt32 >>> ((nI n).toUInt32 &&& Int32.toUInt32 31)).toBitVec.getLsbD i = x.toUInt32.toBitVec.getLsbD (n + i)
  rw [UInt32.toBitVec_shiftRight]
  show (x.toUInt32.toBitVec >>> (((nI n).toUInt32 &&& Int32.toUInt32 31).toBitVec % 32).toNat).getLsbD i = _
  rw [s_u n hn, BitVec.getLsbD_ushiftRight]
theorem b_sshr (n : Nat) (hn : n < 32) (x : Int32) {i : Nat} (hi : i < 32) : bt (x >>> (nI n &&& 31)) i = if n + i < 32 then bt x (n + i) else bt x 31 := by
  unfold bt
  rw [Int32.toBitVec_shiftRight]
  show (x.toBitVec.sshiftRight ((nI n &&& 31).toBitVec.smod 32).toNat).getLsbD i = _
  rw [s_l n hn, BitVec.getLsbD_sshiftRight, BitVec.msb_eq_getLsbD_last]
  simp [hi]
theorem b_shl8 (x : Int32) {i : Nat} (hi : i < 32) : bt (x <<< ((8 : Int32) &&& 31)) i = (decide (8 ≤ i) && bt x (i - 8)) := b_shl 8 (by omega) x hi
theorem b_shl16 (x : Int32) {i : Nat} (hi : i < 32) : bt (x <<< ((16 : Int32) &&& 31)) i = (decide (16 ≤ i) && bt x (i - 16)) := b_shl 16 (by omega) x hi
theorem b_shl24 (x : Int32) {i : Nat} (hi : i < 32) : bt (x <<< ((24 : Int32) &&& 31)) i = (decide (24 ≤ i) && bt x (i - 24)) := b_shl 24 (by omega) x hi
theorem b_sshr8 (x : Int32) {i : Nat} (hi : i < 32) : bt (x >>> ((8 : Int32) &&& 31)) i = if 8 + i < 32 then bt x (8 + i) else bt x 31 := b_sshr 8 (by omega) x hi
/-! ===== more on bits ===== -/
theorem b_1 : ∀ i, i < 32 → bt 1 i = decide (i = 0) := by decide +kernel
theorem b_24 : ∀ i, i < 32 → bt 16777215 i = decide (i < 24) := by decide +kernel
theorem b_one {o i : Nat} (ho : o < 32) (hi : i < 32) : bt (1 <<< (nI o &&& 31)) i = decide (i = o) := by
  rw [b_shl o ho 1 hi]
  by_cases h : o ≤ i
  · rw [b_1 _ (by omega)]
    by_cases h2 : i = o
    · simp [h2]
    · simp [h, h2, show i - o ≠ 0 by omega]
  · simp [h, show i ≠ o by omega]
theorem b_not {x : Int32} {i : Nat} (hi : i < 32) : bt (x ^^^ (-1)) i = !bt x i := by
  rw [b_xor, b_m1 i hi]
  cases bt x i <;> rfl
/-- a bit, read as the programs read it -/
theorem b_rd {x : Int32} {o : Nat} (ho : o < 32) : (x >>> (nI o &&& 31)) &&& 1 = if bt x o then 1 else 0 := by
  apply b_ext
  intro i hi
  rw [b_and, b_sshr o ho x hi, b_1 i hi]
  by_cases h0 : i = 0
  · subst h0
    rw [if_pos (by omega)]
    simp only [Nat.add_zero, decide_true, Bool.and_true]
    cases bt x o
    · exact (b_0 0).symm
    · exact (b_1 0 (by omega)).symm
  · simp only [h0, decide_false, Bool.and_false]
    cases bt x o
    · exact (b_0 i).symm
    · simp only [if_true]
      rw [b_1 i hi]
      simp [h0]
/-! ===== numbers: Int32 and Int64 by their Int; the functions' small words ===== -/
theorem hBd_some {α β : Type} (b : β) (m : hM) (F : β → hM → Option (α × hM)) : hBd (some (b, m)) F = F b m := rfl
theorem hLet_e {α β : Type} (x : α) (f : α → β) : hLet x f = f x := rfl
theorem i_lt (a b : Int32) : a < b ↔ a.toInt < b.toInt := Int32.lt_iff_toInt_lt
theorem i_le (a b : Int32) : a ≤ b ↔ a.toInt ≤ b.toInt := Int32.le_iff_toInt_le
theorem i_eq (a b : Int32) : a = b ↔ a.toInt = b.toInt := Int32.toInt_inj.symm
theorem i_add {a b : Int32} (h1 : -2147483648 ≤ a.toInt + b.toInt) (h2 : a.toInt + b.toInt ≤ 2147483647) : (a + b).toInt = a.toInt + b.toInt := by
  rw [Int32.toInt_add]; exact Int.bmod_eq_of_le (by omega) (by omega)
theorem i_sub {a b : Int32} (h1 : -2147483648 ≤ a.toInt - b.toInt) (h2 : a.toInt - b.toInt ≤ 2147483647) : (a - b).toInt = a.toInt - b.toInt := by
  rw [Int32.toInt_sub]; exact Int.bmod_eq_of_le (by omega) (by omega)
theorem i_mul {a b : Int32} (h1 : -2147483648 ≤ a.toInt * b.toInt) (h2 : a.toInt * b.toInt ≤ 2147483647) : (a * b).toInt = a.toInt * b.toInt := by
  rw [Int32.toInt_mul]; exact Int.bmod_eq_of_le (by omega) (by omega)
theorem i_cl {a : Int32} (h : 0 ≤ a.toInt) : (a.toNatClampNeg : Int) = a.toInt := by
  obtain ⟨j, hj, rfl⟩ := nI_of (x := a) (by rw [i_lt]; simpa using h)
  rw [nI_clamp hj, nI_toInt hj]
/-- an index within n places is a number below n -/
theorem hIn_of {i : Int32} {n : Nat} (h : hIn i n) (hn : n ≤ 2147483647) : ∃ j : Nat, j < n ∧ i = nI j := by
  obtain ⟨j, hj, rfl⟩ := nI_of (x := i) (by rw [i_lt]; have := h.1; simpa using this)
  refine ⟨j, ?_, rfl⟩
  have h2 := h.2
  rw [nI_toInt hj] at h2
  omega
theorem hIn_n {j n : Nat} (hj : j < 2 ^ 31) : hIn (nI j) n ↔ j < n := by
  unfold hIn
  rw [nI_toInt hj]
  omega
theorem bI_in (o : Int32) (n : Nat) (hn : n < 2 ^ 31) : (0 ≤ o ∧ o < nI n) ↔ hIn o n := by
  unfold hIn
  rw [i_le, i_lt, nI_toInt hn]
  rfl
/-! the reference's small words -/
theorem rx_in (fu : Nat) (a lo hi : Int64) (m : hM) : f_X11_in fu a lo hi m = some (if lo ≤ a ∧ a ≤ hi then 1 else 0, m) := by
  unfold f_X11_in
  simp only [lg_cmp_lt, lg_cmp_gt, Int64.lt_iff_toInt_lt, Int64.le_iff_toInt_le]
  by_cases h1 : a.toInt < lo.toInt
  · rw [if_pos h1, if_neg (by omega)]
  · rw [if_neg h1]
    by_cases h2 : hi.toInt < a.toInt
    · rw [if_pos h2, if_neg (by omega)]
    · rw [if_neg h2, if_pos (by omega)]
theorem w_le (a b : Int32) : a.toInt64 ≤ b.toInt64 ↔ a.toInt ≤ b.toInt := by rw [Int64.le_iff_toInt_le, Int32.toInt_toInt64, Int32.toInt_toInt64]
theorem w_le0 (b : Int32) (c : Int64) : c ≤ b.toInt64 ↔ c.toInt ≤ b.toInt := by rw [Int64.le_iff_toInt_le, Int32.toInt_toInt64]
theorem w_le1 (b : Int32) (c : Int64) : b.toInt64 ≤ c ↔ b.toInt ≤ c.toInt := by rw [Int64.le_iff_toInt_le, Int32.toInt_toInt64]
/-- in(v, lo, hi) of ints -/
theorem rx_inI (fu : Nat) (a : Int32) (lo hi : Int64) (m : hM) : f_X11_in fu (Int32.toInt64 a) lo hi m = some (if lo.toInt ≤ a.toInt ∧ a.toInt ≤ hi.toInt then 1 else 0, m) := by
  rw [rx_in]
  simp only [w_le0, w_le1]
theorem rx_has (fu : Nat) (a b : Int32) (m : hM) : f_X11_has fu a b m = some (if (a >>> (b &&& 31)) &&& 1 = 1 then 1 else 0, m) := by
  unfold f_X11_has
  by_cases h : (a >>> (b &&& 31)) &&& 1 = 1
  · simp [h]
  · simp [h]
theorem rx_flag (fu : Nat) (a : Int32) (m : hM) : f_X11_flag fu a m = some (if a = 0 then 0 else 1, m) := by
  unfold f_X11_flag
  by_cases h : a = 0 <;> simp [h]
theorem rx_isHour (fu : Nat) (h : Int32) (m : hM) : f_X11_isHour fu h m = some (if hIn h 2400 then 1 else 0, m) := by
  unfold f_X11_isHour
  rw [rx_inI, hBd_some]
  have e : ((0 : Int64).toInt ≤ h.toInt ∧ h.toInt ≤ (2399 : Int64).toInt) ↔ hIn h 2400 := by
    show (0 ≤ h.toInt ∧ h.toInt ≤ 2399) ↔ _
    unfold hIn
    omega
  simp only [e]
  by_cases q : hIn h 2400
  · rw [if_pos q]; rfl
  · rw [if_neg q]; rfl
theorem rx_isDay (fu : Nat) (h : Int32) (m : hM) : f_X11_isDay fu h m = some (if hIn h 100 then 1 else 0, m) := by
  unfold f_X11_isDay
  rw [rx_inI, hBd_some]
  have e : ((0 : Int64).toInt ≤ h.toInt ∧ h.toInt ≤ (99 : Int64).toInt) ↔ hIn h 100 := by
    show (0 ≤ h.toInt ∧ h.toInt ≤ 99) ↔ _
    unfold hIn
    omega
  simp only [e]
  by_cases q : hIn h 100
  · rw [if_pos q]; rfl
  · rw [if_neg q]; rfl
theorem nI_m1 {n : Nat} (h : n < 2 ^ 31) : (nI n - 1).toInt = (n : Int) - 1 := by
  have e1 : (1 : Int32).toInt = 1 := rfl
  rw [i_sub] <;> rw [nI_toInt h, e1] <;> omega
theorem rx_isOffice (fu : Nat) (o : Int32) (m : hM) {n : Nat} (hn : n < 2 ^ 31) (h : gI m 96 3 = nI n) : f_X11_isOffice fu o m = some (if hIn o n then 1 else 0, m) := by
  unfold f_X11_isOffice
  rw [h, rx_in]
  have e : ((0 : Int64) ≤ o.toInt64 ∧ o.toInt64 ≤ (nI n - 1).toInt64) ↔ hIn o n := by
    rw [w_le0, w_le, nI_m1 hn]
    show (0 ≤ o.toInt ∧ _) ↔ _
    unfold hIn
    omega
  simp only [e, hBd_some]
  by_cases q : hIn o n
  · rw [if_pos q]; rfl
  · rw [if_neg q]; rfl
theorem rx_isPiece (fu : Nat) (o : Int32) (m : hM) {n : Nat} (hn : n < 2 ^ 31) (h : gI m 96 16 = nI n) : f_X11_isPiece fu o m = some (if hIn o n then 1 else 0, m) := by
  unfold f_X11_isPiece
  rw [h, rx_in]
  have e : ((0 : Int64) ≤ o.toInt64 ∧ o.toInt64 ≤ (nI n - 1).toInt64) ↔ hIn o n := by
    rw [w_le0, w_le, nI_m1 hn]
    show (0 ≤ o.toInt ∧ _) ↔ _
    unfold hIn
    omega
  simp only [e, hBd_some]
  by_cases q : hIn o n
  · rw [if_pos q]; rfl
  · rw [if_neg q]; rfl
/-! the class's small words -/
theorem cx_in {h : Int32} {n : Nat} {c : Int32} (hc : c.toInt = n) (m : hM) : (if h < 0 then some ((0 : Int32), m) else if c ≤ h then some (0, m) else some (1, m)) = some (if hIn h n then 1 else 0, m) := by
  have e0 : (0 : Int32).toInt = 0 := rfl
  simp only [i_lt, i_le, hc, e0]
  unfold hIn
  by_cases h1 : h.toInt < 0
  · rw [if_pos h1, if_neg (by omega)]
  · rw [if_neg h1]
    by_cases h2 : (n : Int) ≤ h.toInt
    · rw [if_pos h2, if_neg (by omega)]
    · rw [if_neg h2, if_pos (by omega)]
theorem cx_isDay (fu : Nat) (h : Int32) (m : hM) : f_X10_isDay fu h m = some (if hIn h 100 then 1 else 0, m) := by
  unfold f_X10_isDay
  exact cx_in (n := 100) (c := 100) rfl m
theorem cx_has (fu : Nat) (o : Int32) (m : hM) {n : Nat} (hn : n < 2 ^ 31) (h : gI m 1 4 = nI n) : f_X0_has fu o m = some (if hIn o n then 1 else 0, m) := by
  unfold f_X0_has
  rw [h]
  exact cx_in (nI_toInt hn) m
theorem cx_hasP (fu : Nat) (o : Int32) (m : hM) {n : Nat} (hn : n < 2 ^ 31) (h : gI m 18 6 = nI n) : f_X4_has fu o m = some (if hIn o n then 1 else 0, m) := by
  unfold f_X4_has
  rw [h]
  exact cx_in (nI_toInt hn) m
theorem cx_isHour (fu : Nat) (h : Int32) (m : hM) : f_X10_isHour fu h m = some (if hIn h 2400 then 1 else 0, m) := by
  unfold f_X10_isHour
  have e0 : (0 : Int32).toInt = 0 := rfl
  have e1 : (2399 : Int32).toInt = 2399 := rfl
  simp only [i_lt, i_le, e0, e1]
  unfold hIn
  by_cases h1 : h.toInt < 0
  · rw [if_pos h1, if_neg (by omega)]
  · rw [if_neg h1]
    by_cases h2 : 2399 < h.toInt
    · rw [if_pos h2, if_neg (by omega)]
    · rw [if_neg h2, if_pos (by omega)]
