/-! ===== how many bits: Integer.bitCount ===== -/
def cnt (f : Nat → Bool) : Nat → Nat
  | 0 => 0
  | k + 1 => cnt f k + (if f k then 1 else 0)
theorem cnt_congr {f g : Nat → Bool} {k : Nat} (h : ∀ i, i < k → f i = g i) : cnt f k = cnt g k := by
  induction k with
  | zero => rfl
  | succ k ih => unfold cnt; rw [ih (fun i hi => h i (by omega)), h k (by omega)]
theorem cnt_add (f : Nat → Bool) (a b : Nat) : cnt f (a + b) = cnt f a + cnt (fun i => f (a + i)) b := by
  induction b with
  | zero => rfl
  | succ b ih =>
    show cnt f (a + b) + (if f (a + b) then 1 else 0) = cnt f a + (cnt (fun i => f (a + i)) b + (if f (a + b) then 1 else 0))
    rw [ih]; omega
theorem land3 (x M : Nat) : x &&& M = (x % 256 &&& M % 256) + 256 * ((x / 256) % 256 &&& (M / 256) % 256) + 65536 * (x / 65536 &&& M / 65536) := by
  have h1 : (x &&& M) % 256 = x % 256 &&& M % 256 := Nat.and_mod_two_pow (n := 8)
  have h2 : (x &&& M) / 256 = x / 256 &&& M / 256 := Nat.and_div_two_pow (n := 8)
  have h3 : (x / 256 &&& M / 256) % 256 = (x / 256) % 256 &&& (M / 256) % 256 := Nat.and_mod_two_pow (n := 8)
  have h4 : (x / 256 &&& M / 256) / 256 = x / 256 / 256 &&& M / 256 / 256 := Nat.and_div_two_pow (n := 8)
  rw [Nat.div_div_eq_div_mul, Nat.div_div_eq_div_mul] at h4
  have h5 : x / (256 * 256) = x / 65536 := rfl
  have h6 : M / (256 * 256) = M / 65536 := rfl
  rw [h5, h6] at h4
  rw [← h1, ← h3, ← h4, ← h2]
  omega
/-- the steps, on a byte -/
def q1 (a : Nat) : Nat := a - (a / 2 &&& 85)
def q2 (a : Nat) : Nat := (a &&& 51) + (a / 4 &&& 51)
def q3 (a : Nat) : Nat := (a + a / 16) &&& 15
theorem q1_lt : ∀ a, a < 256 → q1 a < 171 ∧ (a / 2 &&& 85) ≤ a := by decide +kernel
theorem q1_p : ∀ a, a < 256 → ∀ p, p < 2 → (a / 2 + 128 * p) &&& 85 = a / 2 &&& 85 := by decide +kernel
theorem q2_lt : ∀ a, a < 171 → q2 a ≤ 68 ∧ (q2 a) % 16 ≤ 4 ∨ ¬ ∃ b, b < 256 ∧ q1 b = a := by decide +kernel
theorem q2_b : ∀ b, b < 256 → q2 (q1 b) ≤ 68 ∧ q2 (q1 b) % 16 ≤ 4 := by decide +kernel
theorem q2_p : ∀ a, a < 256 → ∀ p, p < 4 → (a / 4 + 64 * p) &&& 51 = a / 4 &&& 51 := by decide +kernel
theorem q3_p : ∀ a, a ≤ 68 → ∀ p, p ≤ 4 → (a + a / 16 + 16 * p) &&& 15 = q3 a := by decide +kernel
theorem q3_b : ∀ b, b < 256 → q3 (q2 (q1 b)) = cnt (fun i => b.testBit i) 8 ∧ q3 (q2 (q1 b)) ≤ 8 := by decide +kernel
def pcN (x : Nat) : Nat :=
  let y1 := x - (x / 2 &&& 1431655765)
  let y2 := (y1 &&& 858993459) + (y1 / 4 &&& 858993459)
  let y3 := (y2 + y2 / 16) &&& 252645135
  let y4 := y3 + y3 / 256
  let y5 := y4 + y4 / 65536
  y5 &&& 63
theorem pcN_b {a b c : Nat} (ha : a < 256) (hb : b < 256) (hc : c < 256) : pcN (a + 256 * b + 65536 * c) = q3 (q2 (q1 a)) + q3 (q2 (q1 b)) + q3 (q2 (q1 c)) := by
  have s1 : (a + 256 * b + 65536 * c) / 2 &&& 1431655765 = (a / 2 &&& 85) + 256 * (b / 2 &&& 85) + 65536 * (c / 2 &&& 85) := by
    rw [land3]
    have e1 : (a + 256 * b + 65536 * c) / 2 % 256 = a / 2 + 128 * (b % 2) := by omega
    have e2 : (a + 256 * b + 65536 * c) / 2 / 256 % 256 = b / 2 + 128 * (c % 2) := by omega
    have e3 : (a + 256 * b + 65536 * c) / 2 / 65536 = c / 2 := by omega
    have e4 : c / 2 &&& 1431655765 / 65536 = c / 2 &&& 85 := (by decide +kernel : ∀ c, c < 256 → c / 2 &&& 1431655765 / 65536 = c / 2 &&& 85) c hc
    rw [e1, e2, e3, e4, show 1431655765 % 256 = 85 from rfl, q1_p a ha _ (by omega), q1_p b hb _ (by omega)]
  obtain ⟨a1, a2⟩ := q1_lt a ha
  obtain ⟨b1, b2⟩ := q1_lt b hb
  obtain ⟨c1, c2⟩ := q1_lt c hc
  have t1 : a + 256 * b + 65536 * c - ((a + 256 * b + 65536 * c) / 2 &&& 1431655765) = q1 a + 256 * q1 b + 65536 * q1 c := by
    rw [s1]; unfold q1; omega
  have l2 : ∀ z, z < 171 → z &&& 858993459 / 65536 = z &&& 51 := by decide +kernel
  have l3 : ∀ z, z < 171 → z / 4 &&& 858993459 / 65536 = z / 4 &&& 51 := by decide +kernel
  obtain ⟨a3, a4⟩ := q2_b a ha
  obtain ⟨b3, b4⟩ := q2_b b hb
  obtain ⟨c3, c4⟩ := q2_b c hc
  have a5 := (q3_b a ha).2
  have b5 := (q3_b b hb).2
  have c5 := (q3_b c hc).2
  have pa : ∀ p, p ≤ 4 → (q2 (q1 a) + q2 (q1 a) / 16 + 16 * p) &&& 15 = q3 (q2 (q1 a)) := fun p hp => q3_p _ a3 p hp
  have pb : ∀ p, p ≤ 4 → (q2 (q1 b) + q2 (q1 b) / 16 + 16 * p) &&& 15 = q3 (q2 (q1 b)) := fun p hp => q3_p _ b3 p hp
  have pc : q2 (q1 c) + q2 (q1 c) / 16 &&& 252645135 / 65536 = q3 (q2 (q1 c)) := (by decide +kernel : ∀ z, z ≤ 68 → z + z / 16 &&& 252645135 / 65536 = q3 z) _ c3
  have t2 : (q1 a + 256 * q1 b + 65536 * q1 c &&& 858993459) + ((q1 a + 256 * q1 b + 65536 * q1 c) / 4 &&& 858993459) = q2 (q1 a) + 256 * q2 (q1 b) + 65536 * q2 (q1 c) := by
    rw [land3, land3 ((q1 a + 256 * q1 b + 65536 * q1 c) / 4)]
    generalize q1 a = A at *
    generalize q1 b = B at *
    generalize q1 c = C at *
    have e1 : (A + 256 * B + 65536 * C) % 256 = A := by omega
    have e2 : (A + 256 * B + 65536 * C) / 256 % 256 = B := by omega
    have e3 : (A + 256 * B + 65536 * C) / 65536 = C := by omega
    have e4 : (A + 256 * B + 65536 * C) / 4 % 256 = A / 4 + 64 * (B % 4) := by omega
    have e5 : (A + 256 * B + 65536 * C) / 4 / 256 % 256 = B / 4 + 64 * (C % 4) := by omega
    have e6 : (A + 256 * B + 65536 * C) / 4 / 65536 = C / 4 := by omega
    rw [e1, e2, e3, e4, e5, e6, show 858993459 % 256 = 51 from rfl, l2 C c1, l3 C c1, q2_p A (by omega) _ (by omega), q2_p B (by omega) _ (by omega)]
    unfold q2
    omega
  have t3 : (q2 (q1 a) + 256 * q2 (q1 b) + 65536 * q2 (q1 c) + (q2 (q1 a) + 256 * q2 (q1 b) + 65536 * q2 (q1 c)) / 16) &&& 252645135 = q3 (q2 (q1 a)) + 256 * q3 (q2 (q1 b)) + 65536 * q3 (q2 (q1 c)) := by
    rw [land3]
    generalize q2 (q1 a) = A at *
    generalize q2 (q1 b) = B at *
    generalize q2 (q1 c) = C at *
    have e1 : (A + 256 * B + 65536 * C + (A + 256 * B + 65536 * C) / 16) % 256 = A + A / 16 + 16 * (B % 16) := by omega
    have e2 : (A + 256 * B + 65536 * C + (A + 256 * B + 65536 * C) / 16) / 256 % 256 = B + B / 16 + 16 * (C % 16) := by omega
    have e3 : (A + 256 * B + 65536 * C + (A + 256 * B + 65536 * C) / 16) / 65536 = C + C / 16 := by omega
    rw [e1, e2, e3, show 252645135 % 256 = 15 from rfl, pa _ b4, pb _ c4, pc]
  unfold pcN
  simp only [t1, t2, t3]
  generalize q3 (q2 (q1 a)) = A at *
  generalize q3 (q2 (q1 b)) = B at *
  generalize q3 (q2 (q1 c)) = C at *
  have e63 : ∀ z, z &&& 63 = z % 64 := fun z => Nat.and_two_pow_sub_one_eq_mod z 6
  rw [e63]
  clear t1 t2 t3 s1 l2 l3 pa pb pc a1 a2 b1 b2 c1 c2 a3 a4 b3 b4 c3 c4 e63
  have e1 : (A + 256 * B + 65536 * C) / 256 = B + 256 * C := by omega
  rw [e1]
  have e2 : (A + 256 * B + 65536 * C + (B + 256 * C)) / 65536 = C := by omega
  rw [e2]
  omega
theorem pcN_cnt {x : Nat} (hx : x < 16777216) : pcN x = cnt (fun i => x.testBit i) 24 := by
  have hsplit : x = x % 256 + 256 * (x / 256 % 256) + 65536 * (x / 65536) := by omega
  have h1 := pcN_b (a := x % 256) (b := x / 256 % 256) (c := x / 65536) (by omega) (by omega) (by omega)
  rw [← hsplit] at h1
  rw [h1, (q3_b (x % 256) (by omega)).1, (q3_b (x / 256 % 256) (by omega)).1, (q3_b (x / 65536) (by omega)).1]
  have e : cnt (fun i => x.testBit i) 24 = cnt (fun i => x.testBit i) (8 + 8 + 8) := rfl
  rw [e, cnt_add, cnt_add]
  have p1 : cnt (fun i => (x % 256).testBit i) 8 = cnt (fun i => x.testBit i) 8 := cnt_congr (fun i hi => by
    rw [show 256 = 2 ^ 8 from rfl, Nat.testBit_mod_two_pow]; simp [hi])
  have p2 : cnt (fun i => (x / 256 % 256).testBit i) 8 = cnt (fun i => x.testBit (8 + i)) 8 := cnt_congr (fun i hi => by
    rw [show 256 = 2 ^ 8 from rfl, Nat.testBit_mod_two_pow, Nat.testBit_div_two_pow]; simp [hi, Nat.add_comm])
  have p3 : cnt (fun i => (x / 65536).testBit i) 8 = cnt (fun i => x.testBit (8 + 8 + i)) 8 := cnt_congr (fun i hi => by
    rw [show 65536 = 2 ^ 16 from rfl, Nat.testBit_div_two_pow, Nat.add_comm])
  rw [p1, p2, p3]
theorem fa_andN (a b : Nat) : nI a &&& nI b = nI (a &&& b) := by
  apply Int32.toBitVec_inj.1
  show BitVec.ofNat 32 a &&& BitVec.ofNat 32 b = BitVec.ofNat 32 (a &&& b)
  apply BitVec.eq_of_getLsbD_eq
  intro i hi
  simp [hi]
theorem ush_n {n : Nat} (hn : n < 2 ^ 32) (k : Nat) (hk : k < 32) : ((nI n).toUInt32 >>> ((nI k).toUInt32 &&& Int32.toUInt32 31)).toInt32 = nI (n / 2 ^ k) := pk_ushrN hn _ k (s_u k hk)
theorem cx_bitCount (fu : Nat) {x : Nat} (hx : x < 16777216) (m : hM) : f_J6_bitCount_0f7a4 fu (nI x) m = some (nI (cnt (fun i => x.testBit i) 24), m) := by
  rw [← pcN_cnt hx]
  unfold f_J6_bitCount_0f7a4
  simp only [hLet_e]
  have l1 : x / 2 &&& 1431655765 ≤ x := Nat.le_trans Nat.and_le_left (Nat.div_le_self _ _)
  rw [show (1 : Int32) = nI 1 from rfl, ush_n (by omega) 1 (by omega), show (1431655765 : Int32) = nI 1431655765 from rfl, fa_andN, show 2 ^ 1 = 2 from rfl, pk_sub l1]
  have b1 : x - (x / 2 &&& 1431655765) < 16777216 := by omega
  generalize hy1 : x - (x / 2 &&& 1431655765) = y1 at b1
  have b2 : (y1 &&& 858993459) + (y1 / 4 &&& 858993459) < 2 ^ 26 := by
    have h1 : y1 &&& 858993459 ≤ y1 := Nat.and_le_left
    have h2 : y1 / 4 &&& 858993459 ≤ y1 / 4 := Nat.and_le_left
    omega
  rw [show (2 : Int32) = nI 2 from rfl, ush_n (by omega) 2 (by omega), show (858993459 : Int32) = nI 858993459 from rfl, fa_andN, fa_andN, show 2 ^ 2 = 4 from rfl, nI_add]
  generalize hy2 : (y1 &&& 858993459) + (y1 / 4 &&& 858993459) = y2 at b2
  rw [show (4 : Int32) = nI 4 from rfl, ush_n (by omega) 4 (by omega), nI_add, show (252645135 : Int32) = nI 252645135 from rfl, fa_andN, show 2 ^ 4 = 16 from rfl]
  have b3 : (y2 + y2 / 16) &&& 252645135 ≤ 252645135 := Nat.and_le_right
  generalize hy3 : (y2 + y2 / 16) &&& 252645135 = y3 at b3
  rw [show (8 : Int32) = nI 8 from rfl, ush_n (by omega) 8 (by omega), nI_add, show 2 ^ 8 = 256 from rfl]
  generalize hy4 : y3 + y3 / 256 = y4
  rw [show (16 : Int32) = nI 16 from rfl, ush_n (by omega) 16 (by omega), nI_add, show (63 : Int32) = nI 63 from rfl, fa_andN, show 2 ^ 16 = 65536 from rfl]
  unfold pcN
  simp only [hy1, hy2, hy3, hy4]
/-- a row of bits below 24 is a number below 2 ^ 24 -/
theorem bt_nI (n i : Nat) (hi : i < 32) : bt (nI n) i = n.testBit i := by
  unfold bt
  show (BitVec.ofNat 32 n).getLsbD i = _
  rw [BitVec.getLsbD_ofNat, decide_eq_true hi, Bool.true_and]
theorem nI_of24 {x : Int32} (h : ∀ i, 24 ≤ i → i < 32 → bt x i = false) : ∃ n, n < 16777216 ∧ x = nI n := by
  have e : x = nI (x.toBitVec.toNat % 16777216) := by
    apply b_ext
    intro i hi
    rw [bt_nI _ _ hi, show 16777216 = 2 ^ 24 from rfl, Nat.testBit_mod_two_pow]
    by_cases c : i < 24
    · simp only [c, decide_true, Bool.true_and]
      rfl
    · simp only [c, decide_false, Bool.false_and]
      exact h i (by omega) hi
  exact ⟨_, Nat.mod_lt _ (by omega), e⟩
theorem ovl_cnt (v : hM) (a b h k : Nat) : ovl v a b h k = cnt (fun i => decide (opn v a (nI (h + i)) = 1 ∧ opn v b (nI (h + i)) = 1)) k := by
  induction k with
  | zero => rfl
  | succ k ih => unfold ovl cnt; rw [ih]; simp
theorem cx_both_cnt (fu : Nat) {v : hM} {a b h : Nat} {z : Int32} (hb0 : bothB v a b h z) (m : hM) : f_J6_bitCount_0f7a4 fu z m = some (nI (ovl v a b h 24), m) := by
  obtain ⟨x, hx, rfl⟩ := nI_of24 (x := z) (fun i h1 h2 => by rw [hb0 i h2]; simp [show ¬ i < 24 from by omega])
  rw [cx_bitCount fu hx, ovl_cnt]
  have : cnt (fun i => x.testBit i) 24 = cnt (fun i => decide (opn v a (nI (h + i)) = 1 ∧ opn v b (nI (h + i)) = 1)) 24 := cnt_congr (fun i hi => by
    have := hb0 i (by omega)
    rw [bt_nI _ _ (by omega)] at this
    rw [this]
    simp [hi])
  rw [this]
