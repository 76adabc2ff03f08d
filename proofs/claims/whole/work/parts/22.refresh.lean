/-! ===== Int64 by its bits: bl x i ===== -/
def bl (x : Int64) (i : Nat) : Bool := x.toBitVec.getLsbD i
theorem l_or (x y : Int64) (i : Nat) : bl (x ||| y) i = (bl x i || bl y i) := by unfold bl; rw [Int64.toBitVec_or, BitVec.getLsbD_or]
theorem l_and (x y : Int64) (i : Nat) : bl (x &&& y) i = (bl x i && bl y i) := by unfold bl; rw [Int64.toBitVec_and, BitVec.getLsbD_and]
theorem l_xor (x y : Int64) (i : Nat) : bl (x ^^^ y) i = (bl x i ^^ bl y i) := by unfold bl; rw [Int64.toBitVec_xor, BitVec.getLsbD_xor]
theorem l_big {x : Int64} {i : Nat} (h : 64 ≤ i) : bl x i = false := BitVec.getLsbD_of_ge _ _ h
theorem l_m1 : ∀ i, i < 64 → bl (-1) i = true := by decide +kernel
theorem l_1 : ∀ i, i < 64 → bl 1 i = decide (i = 0) := by decide +kernel
theorem l_0 (i : Nat) : bl 0 i = false := BitVec.getLsbD_zero
theorem l_not {x : Int64} {i : Nat} (hi : i < 64) : bl (x ^^^ (-1)) i = !bl x i := by
  rw [l_xor, l_m1 i hi]
  cases bl x i <;> rfl
theorem l_l : ∀ n, n < 64 → ((Int32.toInt64 (nI n) &&& 63).toBitVec.smod 64).toNat = n := by decide +kernel
theorem l_u : ∀ n, n < 64 → ((Int64.toUInt64 (Int32.toInt64 (nI n)) &&& Int64.toUInt64 63).toBitVec % 64).toNat = n := by decide +kernel
theorem l_shl (n : Nat) (hn : n < 64) (x : Int64) {i : Nat} (hi : i < 64) : bl (x <<< (Int32.toInt64 (nI n) &&& 63)) i = (decide (n ≤ i) && bl x (i - n)) := by
  unfold bl
  rw [Int64.toBitVec_shiftLeft]
  show (x.toBitVec <<< ((Int32.toInt64 (nI n) &&& 63).toBitVec.smod 64).toNat).getLsbD i = _
  rw [l_l n hn, BitVec.getLsbD_shiftLeft]
  rcases Nat.lt_or_ge i n with h | h
  · simp [h, Nat.not_le.mpr h]
  · simp [hi, h, Nat.not_lt.mpr h]
theorem l_ushr (n : Nat) (hn : n < 64) (x : Int64) (i : Nat) : bl ((Int64.toUInt64 x >>> (Int64.toUInt64 (Int32.toInt64 (nI n)) &&& Int64.toUInt64 63)).toInt64) i = bl x (n + i) := by
  show (Int64.toUInt64 x >>> (Int64.toUInt64 (Int32.toInt64 (nI n)) &&& Int64.toUInt64 63)).toBitVec.getLsbD i = (Int64.toUInt64 x).toBitVec.getLsbD (n + i)
  rw [UInt64.toBitVec_shiftRight]
  show ((Int64.toUInt64 x).toBitVec >>> ((Int64.toUInt64 (Int32.toInt64 (nI n)) &&& Int64.toUInt64 63).toBitVec % 64).toNat).getLsbD i = _
  rw [l_u n hn, BitVec.getLsbD_ushiftRight]
theorem l_one {r i : Nat} (hr : r < 64) (hi : i < 64) : bl (1 <<< (Int32.toInt64 (nI r) &&& 63)) i = decide (i = r) := by
  rw [l_shl r hr 1 hi]
  by_cases h : r ≤ i
  · rw [l_1 _ (by omega)]
    by_cases h2 : i = r
    · simp [h2]
    · simp [h, h2, show i - r ≠ 0 by omega]
  · simp [h, show i ≠ r by omega]
theorem l_int {x : Int64} {i : Nat} (hi : i < 32) : bt (Int64.toInt32 x) i = bl x i := by
  unfold bt bl
  show (x.toBitVec.signExtend 32).getLsbD i = _
  rw [BitVec.getLsbD_signExtend]
  simp [hi, show i < 64 by omega]
/-! ===== the tables of the class: who is at work in which hour, by the hour and by the office ===== -/
/-- office o's bits in the table of hours; its own longs -/
def wRel (v m : hM) (o : Nat) : Prop := ∀ h, h < 2560 → bt (gI m 4 h) o = decide (opn v o (nI h) = 1)
def aRel (v m : hM) (o : Nat) : Prop := ∀ h, h < 2560 → bl (gH m 5 (40 * o + h / 64)) (h % 64) = decide (opn v o (nI h) = 1)
/-- nothing but cell k is another -/
def only (k : Nat) (m m' : hM) : Prop := (∀ a j, a ≠ k → gI m' a j = gI m a j) ∧ (∀ a j, gL m' a j = gL m a j) ∧ ∀ a j, gR m' a j = gR m a j
theorem only.rf {k : Nat} {m : hM} : only k m m := ⟨fun _ _ _ => rfl, fun _ _ => rfl, fun _ _ => rfl⟩
theorem only.tr {k : Nat} {m m1 m2 : hM} (h : only k m m1) (g : only k m1 m2) : only k m m2 := ⟨fun a j ha => (g.1 a j ha).trans (h.1 a j ha), fun a j => (g.2.1 a j).trans (h.2.1 a j), fun a j => (g.2.2 a j).trans (h.2.2 a j)⟩
theorem only.sI {k j : Nat} {m : hM} {x : Int32} : only k m (sI m k j x) := ⟨fun a b ha => by rw [gI_sI, if_neg (fun z => ha z.1)], fun _ _ => rfl, fun _ _ => rfl⟩
/-- nothing but the two tables is another -/
def only2 (m m' : hM) : Prop := (∀ a j, a ≠ 4 → a ≠ 5 → gI m' a j = gI m a j) ∧ (∀ a j, gL m' a j = gL m a j) ∧ ∀ a j, gR m' a j = gR m a j
theorem only2.rf {m : hM} : only2 m m := ⟨fun _ _ _ _ => rfl, fun _ _ => rfl, fun _ _ => rfl⟩
theorem only2.tr {m m1 m2 : hM} (h : only2 m m1) (g : only2 m1 m2) : only2 m m2 := ⟨fun a j h4 h5 => (g.1 a j h4 h5).trans (h.1 a j h4 h5), fun a j => (g.2.1 a j).trans (h.2.1 a j), fun a j => (g.2.2 a j).trans (h.2.2 a j)⟩
theorem oRel.keep {v m m' : hM} {o : Nat} (h : oRel v m o) (h2 : ∀ j, gI m' (6 + 2 * o) j = gI m (6 + 2 * o) j) (h3 : ∀ j, gI m' (6 + 2 * o + 1) j = gI m (6 + 2 * o + 1) j) : oRel v m' o :=
  ⟨fun j hj => (h2 j).trans (h.1 j hj), fun d hd => (h3 d).trans (h.2 d hd)⟩
theorem i_n0 {h : Nat} (hh : h < 2 ^ 31) : (nI h).toInt = (h : Int) := nI_toInt hh
theorem gH_k {m m' : hM} {k j : Nat} (h0 : gI m' k (2 * j) = gI m k (2 * j)) (h1 : gI m' k (2 * j + 1) = gI m k (2 * j + 1)) : gH m' k j = gH m k j := by unfold gH; rw [h0, h1]
/-- one hour of one office is told in both tables -/
theorem tab_step {o h : Nat} (ho : o < 6) (hlt : h < 2560) {m : hM} {w : Int32} {z : Int64} {B : Bool} (hw : ∀ i, i < 32 → bt w i = if i = o then B else bt (gI m 4 h) i) (hz : ∀ i, i < 64 → bl z i = if i = h % 64 then B else bl (gH m 5 (40 * o + h / 64)) i) :
    only2 m (sH (sI m 4 h w) 5 (40 * o + h / 64) z) ∧ (∀ j i, i < 32 → bt (gI (sH (sI m 4 h w) 5 (40 * o + h / 64) z) 4 j) i = if i = o ∧ j = h then B else bt (gI m 4 j) i) ∧
    (∀ q, q < 2560 → bl (gH (sH (sI m 4 h w) 5 (40 * o + h / 64) z) 5 (40 * o + q / 64)) (q % 64) = if q = h then B else bl (gH m 5 (40 * o + q / 64)) (q % 64)) ∧
    (∀ j, (j < 80 * o ∨ 80 * o + 80 ≤ j) → gI (sH (sI m 4 h w) 5 (40 * o + h / 64) z) 5 j = gI m 5 j) := by
  refine ⟨⟨fun a j h4 h5 => ?_, fun _ _ => rfl, fun _ _ => rfl⟩, fun j i hi => ?_, fun q hq => ?_, fun j hj => ?_⟩
  · rw [gI_sH, if_neg (fun e => h5 e.1), if_neg (fun e => h5 e.1), gI_sI, if_neg (fun e => h4 e.1)]
  · rw [gI_sH, if_neg (by omega), if_neg (by omega), gI_sI]
    by_cases c : j = h
    · subst c
      rw [if_pos ⟨rfl, rfl⟩, hw i hi]
      by_cases c2 : i = o
      · rw [if_pos c2, if_pos ⟨c2, rfl⟩]
      · rw [if_neg c2, if_neg (fun e => c2 e.1)]
    · rw [if_neg (fun e => c e.2), if_neg (fun e => c e.2)]
  · rw [gH_sH]
    have e5 : gH (sI m 4 h w) 5 (40 * o + q / 64) = gH m 5 (40 * o + q / 64) := gH_k (by rw [gI_sI, if_neg (by omega)]) (by rw [gI_sI, if_neg (by omega)])
    rw [e5]
    by_cases c : q / 64 = h / 64
    · rw [if_pos (by rw [c]), hz _ (Nat.mod_lt _ (by omega)), c]
      by_cases c2 : q = h
      · rw [if_pos (by rw [c2]), if_pos c2]
      · rw [if_neg (by omega), if_neg c2]
    · rw [if_neg (by omega), if_neg (fun e => c (by rw [e]))]
  · rw [gI_sH, if_neg (by omega), if_neg (by omega), gI_sI, if_neg (by omega)]
theorem rf_loop1 (fu : Nat) {v : hM} {o : Nat} (ho : o < 6) (x3 : Int32) : ∀ (n h : Nat) (m : hM), h ≤ 2560 → 2560 - h < n → oRel v m o →
    ∃ m', f_X0_refresh_12 fu n (nI o) x3 (1 <<< (nI o &&& 31)) (nI h) m = some ((), m') ∧ only2 m m' ∧
      (∀ j i, i < 32 → bt (gI m' 4 j) i = if i = o ∧ h ≤ j ∧ j < 2560 ∧ (j : Int) < x3.toInt then decide (opn v o (nI j) = 1) else bt (gI m 4 j) i) ∧
      (∀ q, q < 2560 → bl (gH m' 5 (40 * o + q / 64)) (q % 64) = if h ≤ q ∧ (q : Int) < x3.toInt then decide (opn v o (nI q) = 1) else bl (gH m 5 (40 * o + q / 64)) (q % 64)) ∧
      (∀ j, (j < 80 * o ∨ 80 * o + 80 ≤ j) → gI m' 5 j = gI m 5 j) := by
  have h6 : hIn (nI o) 6 := hIn_lt ho (by omega)
  have hc : (nI o).toNatClampNeg = o := nI_clamp (by omega)
  have e25 : (2560 : Int32).toInt = 2560 := rfl
  intro n
  induction n with
  | zero => intro h m h1 h2; omega
  | succ n ih =>
    intro h m hh hn hr
    have eh : (nI h).toInt = (h : Int) := nI_toInt (by omega)
    rw [f_X0_refresh_12_s]
    unfold s_X0_refresh_12
    by_cases c1 : x3 ≤ nI h
    · rw [if_pos c1]
      rw [i_le, eh] at c1
      refine ⟨m, rfl, only2.rf, fun j i hi => ?_, fun q hq => ?_, fun _ _ => rfl⟩
      · rw [if_neg (by omega)]
      · rw [if_neg (by omega)]
    · rw [if_neg c1]
      rw [i_le, eh] at c1
      by_cases c2 : (2560 : Int32) ≤ nI h
      · rw [if_pos c2]
        rw [i_le, eh, e25] at c2
        refine ⟨m, rfl, only2.rf, fun j i hi => ?_, fun q hq => ?_, fun _ _ => rfl⟩
        · rw [if_neg (by omega)]
        · rw [if_neg (by omega)]
      · rw [if_neg c2]
        rw [i_le, eh, e25] at c2
        have hlt : h < 2560 := by omega
        have hin : hIn (nI h) 2560 := hIn_lt hlt (by omega)
        have hch : (nI h).toNatClampNeg = h := nI_clamp (by omega)
        have e6 : (nI o * 40) + (nI h / 64) = nI (40 * o + h / 64) := by rw [show (40 : Int32) = nI 40 from rfl, show (64 : Int32) = nI 64 from rfl, pk_mul, pk_div (by omega) (by omega) (by omega), nI_add, Nat.mul_comm]
        have e7 : nI h - nI h / 64 * 64 = nI (h % 64) := pk_rem (d := 64) (by omega) (by omega) (by omega)
        have hi6 : hIn (nI (40 * o + h / 64)) 240 := hIn_lt (by omega) (by omega)
        have hc6 : (nI (40 * o + h / 64)).toNatClampNeg = 40 * o + h / 64 := nI_clamp (by omega)
        have hrl : h % 64 < 64 := Nat.mod_lt _ (by omega)
        simp only [hLet_e]
        rw [e6, e7, if_pos h6, hc, cx_atWork fu ho _ hr, hBd_some]
        have step : ∀ (w : Int32) (z : Int64), (∀ i, i < 32 → bt w i = if i = o then decide (opn v o (nI h) = 1) else bt (gI m 4 h) i) → (∀ i, i < 64 → bl z i = if i = h % 64 then decide (opn v o (nI h) = 1) else bl (gH m 5 (40 * o + h / 64)) i) →
            ∃ m', f_X0_refresh_12 fu n (nI o) x3 (1 <<< (nI o &&& 31)) (nI (h + 1)) (sH (sI m 4 h w) 5 (40 * o + h / 64) z) = some ((), m') ∧ only2 m m' ∧
              (∀ j i, i < 32 → bt (gI m' 4 j) i = if i = o ∧ h ≤ j ∧ j < 2560 ∧ (j : Int) < x3.toInt then decide (opn v o (nI j) = 1) else bt (gI m 4 j) i) ∧
              (∀ q, q < 2560 → bl (gH m' 5 (40 * o + q / 64)) (q % 64) = if h ≤ q ∧ (q : Int) < x3.toInt then decide (opn v o (nI q) = 1) else bl (gH m 5 (40 * o + q / 64)) (q % 64)) ∧
              (∀ j, (j < 80 * o ∨ 80 * o + 80 ≤ j) → gI m' 5 j = gI m 5 j) := by
          intro w z hw hz
          obtain ⟨t1, t2, t3, t4⟩ := tab_step ho hlt hw hz
          generalize sH (sI m 4 h w) 5 (40 * o + h / 64) z = m1 at t1 t2 t3 t4 ⊢
          have hr' : oRel v m1 o := hr.keep (fun j => t1.1 _ j (by omega) (by omega)) (fun j => t1.1 _ j (by omega) (by omega))
          obtain ⟨m', f1, f2, f3, f4, f5⟩ := ih (h + 1) m1 (by omega) (by omega) hr'
          refine ⟨m', f1, t1.tr f2, fun j i hi => ?_, fun q hq => ?_, fun j hj => (f5 j hj).trans (t4 j hj)⟩
          · rw [f3 j i hi, t2 j i hi]
            by_cases hj : j = h
            · subst hj
              rw [if_neg (by omega)]
              by_cases hio : i = o
              · rw [if_pos ⟨hio, rfl⟩, if_pos ⟨hio, by omega, hlt, by omega⟩]
              · rw [if_neg (fun y => hio y.1), if_neg (fun y => hio y.1)]
            · rw [if_neg (show ¬ (i = o ∧ j = h) from fun y => hj y.2)]
              by_cases hq : i = o ∧ h + 1 ≤ j ∧ j < 2560 ∧ (j : Int) < x3.toInt
              · rw [if_pos hq, if_pos ⟨hq.1, by omega, hq.2.2⟩]
              · rw [if_neg hq, if_neg (fun y => hq ⟨y.1, by omega, y.2.2⟩)]
          · rw [f4 q hq, t3 q hq]
            by_cases hj : q = h
            · subst hj
              rw [if_neg (by omega), if_pos rfl, if_pos (by omega)]
            · rw [if_neg hj]
              by_cases hq2 : h + 1 ≤ q ∧ (q : Int) < x3.toInt
              · rw [if_pos hq2, if_pos (by omega)]
              · rw [if_neg hq2, if_neg (by omega)]
        by_cases c3 : opn v o (nI h) = 0
        · rw [if_pos c3, if_pos hin, hch]
          unfold f_X0_refresh_96 f_X0_refresh_135
          rw [if_pos hin, hch]
          simp only [hLet_e, nI_1]
          rw [if_pos c3, if_pos hi6, if_pos hi6, hc6]
          refine step _ _ (fun i hi => ?_) (fun i hi => ?_)
          · rw [b_and, b_not hi, b_one (by omega) hi, c3]
            by_cases hio : i = o
            · rw [if_pos hio]
              simp [hio]
            · rw [if_neg hio]
              simp [hio]
          · rw [l_and, l_not hi, l_one hrl hi, c3, gH_k (m := m) (by rw [gI_sI, if_neg (by omega)]) (by rw [gI_sI, if_neg (by omega)])]
            by_cases hio : i = h % 64
            · rw [if_pos hio]
              simp [hio]
            · rw [if_neg hio]
              simp [hio]
        · rw [if_neg c3, if_pos hin, hch]
          have c4 : opn v o (nI h) = 1 := (opn_01 v o (nI h)).resolve_left c3
          unfold f_X0_refresh_96 f_X0_refresh_135
          rw [if_pos hin, hch]
          simp only [hLet_e, nI_1]
          rw [if_neg c3, if_pos hi6, if_pos hi6, hc6]
          refine step _ _ (fun i hi => ?_) (fun i hi => ?_)
          · rw [b_or, b_one (by omega) hi, c4]
            by_cases hio : i = o
            · rw [if_pos hio]
              simp [hio]
            · rw [if_neg hio]
              simp [hio]
          · rw [l_or, l_one hrl hi, c4, gH_k (m := m) (by rw [gI_sI, if_neg (by omega)]) (by rw [gI_sI, if_neg (by omega)])]
            by_cases hio : i = h % 64
            · rw [if_pos hio]
              simp [hio]
            · rw [if_neg hio]
              simp [hio]
