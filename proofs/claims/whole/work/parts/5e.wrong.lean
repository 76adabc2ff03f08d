/-! ===== wrong, in the reference: of 100 to the nth cases, in how many at least k were understood otherwise ===== -/
def hit0 (j : Nat) : Int64 := if j = 0 then 1 else 0
def hitS (H : Nat → Int64) (w : Int32) (j : Nat) : Int64 := H j * (100 - w).toInt64 + (if j = 0 then 0 else H (j - 1) * w.toInt64)
def hitA (S : Nat → Int32) : Nat → Nat → Int64
  | 0 => hit0
  | i + 1 => hitS (hitA S i) (S (67 + i))
def lowA : Nat → Int64
  | 0 => 1
  | i + 1 => lowA i * 100
def upA (H : Nat → Int64) (k : Nat) : Nat → Int64
  | 0 => 0
  | d + 1 => upA H k d + H (k + d)
/-- but for the chances, m' is m -/
def frW (m m' : hM) : Prop := (∀ a j, gI m' a j = gI m a j) ∧ (∀ a j, a ≠ 132 → gL m' a j = gL m a j) ∧ ∀ a j, gR m' a j = gR m a j
theorem frW.rf {m : hM} : frW m m := ⟨fun _ _ => rfl, fun _ _ _ => rfl, fun _ _ => rfl⟩
theorem frW.tr {m m1 m2 : hM} (f : frW m m1) (g : frW m1 m2) : frW m m2 := ⟨fun a j => (g.1 a j).trans (f.1 a j), fun a j z => (g.2.1 a j z).trans (f.2.1 a j z), fun a j => (g.2.2 a j).trans (f.2.2 a j)⟩
theorem frW.s (m : hM) (j : Nat) (x : Int64) : frW m (sL m 132 j x) := ⟨fun _ _ => rfl, fun a i z => by rw [gL_sL, if_neg (fun y => z y.1)], fun _ _ => rfl⟩
theorem gL_ss (m : hM) (k j : Nat) (x : Int64) : gL (sL m k j x) k j = x := by rw [gL_sL, if_pos ⟨rfl, rfl⟩]
theorem gL_sn {m : hM} {k j a b : Nat} {x : Int64} (h : ¬ (a = k ∧ b = j)) : gL (sL m k j x) a b = gL m a b := by rw [gL_sL, if_neg h]
theorem rx_wr21 {fu : Nat} (x1 : Int32) : ∀ (t k : Nat) (m : hM), k ≤ 9 → 9 - k < t → (∀ j, j < k → gL m 132 j = hit0 j) → ∃ m', f_X11_wrong_21 fu t x1 (nI k) m = f_X11_wrong_52 fu x1 m' ∧ (∀ j, j < 9 → gL m' 132 j = hit0 j) ∧ frW m m' := by
  intro t
  induction t with
  | zero => intro k m h1 h2; exact absurd h2 (Nat.not_lt_zero _)
  | succ t ih =>
    intro k m hk ht r
    rw [f_X11_wrong_21_s]
    unfold s_X11_wrong_21 f_X11_wrong_41
    by_cases q : nI 9 ≤ nI k
    · rw [if_pos (show (9 : Int32) ≤ nI k from q)]
      rw [nI_leI (by omega) (by omega)] at q
      exact ⟨m, rfl, fun j hj => r j (by omega), frW.rf⟩
    · rw [if_neg (show ¬ (9 : Int32) ≤ nI k from q)]
      rw [nI_leI (by omega) (by omega)] at q
      have fin : ∀ y : Int64, y = hit0 k → ∃ m', f_X11_wrong_21 fu t x1 (nI (k + 1)) (sL m 132 k y) = f_X11_wrong_52 fu x1 m' ∧ (∀ j, j < 9 → gL m' 132 j = hit0 j) ∧ frW m m' := by
        intro y hy
        obtain ⟨m', r1, r2, r3⟩ := ih (k + 1) (sL m 132 k y) (by omega) (by omega) (fun j hj => by
          by_cases e : j = k
          · rw [e, gL_ss, hy]
          · rw [gL_sn (by omega)]; exact r j (by omega))
        exact ⟨m', r1, r2, (frW.s m k y).tr r3⟩
      have h9 : hIn (nI k) 9 := hIn_lt (by omega) (by omega)
      simp only [rx_flag, hBd_some, hLet_n, nI_1]
      rw [if_pos h9, if_pos h9, nI_clamp (show k < 2 ^ 31 by omega)]
      by_cases z : k = 0
      · subst z
        rw [if_neg (fun y => y rfl)]
        exact fin _ rfl
      · rw [if_pos (nI_ne (by omega) z)]
        exact fin _ (by unfold hit0; rw [if_neg z]; rfl)
theorem rx_wr93 {fu : Nat} (K : Int32 → Int64 → Int32 → Int32 → hM → Option (Int32 × hM)) {H : Nat → Int64} (x1 : Int32) (x2 : Int64) (x4 x5 w : Int32) : ∀ (t k : Nat) (m : hM), k ≤ 9 → k < t → (∀ j, j < k → gL m 132 j = H j) → (∀ j, k ≤ j → j < 9 → gL m 132 j = hitS H w j) → ∃ m', f_X11_wrong_93 fu K t x1 x2 x4 x5 w (nI k + (-1)) m = f_X11_wrong_148 fu K x1 x2 x4 x5 m' ∧ (∀ j, j < 9 → gL m' 132 j = hitS H w j) ∧ frW m m' := by
  intro t
  induction t with
  | zero => intro k m h1 h2; exact absurd h2 (Nat.not_lt_zero _)
  | succ t ih =>
    intro k m hk ht r1 r2
    rw [f_X11_wrong_93_s]
    unfold s_X11_wrong_93 f_X11_wrong_140
    simp only [hLet_n]
    cases k with
    | zero =>
      rw [if_pos (by decide)]
      exact ⟨m, rfl, fun j hj => r2 j (by omega) hj, frW.rf⟩
    | succ k =>
      have h9 : hIn (nI k) 9 := hIn_lt (by omega) (by omega)
      rw [dc_n k (by omega), if_neg (nI_pos (by omega)), if_pos h9, nI_clamp (show k < 2 ^ 31 by omega), r1 k (by omega)]
      have fin : ∀ y : Int64, y = hitS H w k → ∃ m', f_X11_wrong_93 fu K t x1 x2 x4 x5 w (nI k + (-1)) (sL m 132 k y) = f_X11_wrong_148 fu K x1 x2 x4 x5 m' ∧ (∀ j, j < 9 → gL m' 132 j = hitS H w j) ∧ frW m m' := by
        intro y hy
        obtain ⟨m', s1, s2, s3⟩ := ih k (sL m 132 k y) (by omega) (by omega) (fun j hj => by rw [gL_sn (by omega)]; exact r1 j (by omega)) (fun j h1 h2 => by
          by_cases e : j = k
          · rw [e, gL_ss, hy]
          · rw [gL_sn (by omega)]; exact r2 j (by omega) h2)
        exact ⟨m', s1, s2, (frW.s m k y).tr s3⟩
      cases k with
      | zero =>
        rw [if_pos (show nI 0 ≤ 0 by decide), if_pos h9]
        exact fin _ rfl
      | succ k =>
        have e : nI (k + 1) - 1 = nI k := by rw [show nI (k + 1) - 1 = nI (k + 1) + (-1) from Int32.sub_eq_add_neg (nI (k + 1)) 1]; exact dc_n k (by omega)
        rw [if_neg (show ¬ nI (k + 1) ≤ 0 from nI_ge (a := 0) (by omega) (by omega)), e, if_pos (hIn_lt (show k < 9 by omega) (by omega)), nI_clamp (show k < 2 ^ 31 by omega), r1 k (by omega), if_pos h9]
        exact fin _ rfl
theorem rx_wr70 {fu : Nat} (hfu : 100 ≤ fu) {S : Nat → Int32} {N : Nat} (hN : N ≤ 8) (x1 : Int32) : ∀ (t i : Nat) (m : hM), i ≤ N → N - i < t → rS S m → (∀ j, j < 9 → gL m 132 j = hitA S i j) → ∃ m', f_X11_wrong_70 fu t x1 (lowA i) (nI N) (nI i) m = f_X11_wrong_160 fu x1 (lowA N) m' ∧ (∀ j, j < 9 → gL m' 132 j = hitA S N j) ∧ frW m m' := by
  intro t
  induction t with
  | zero => intro i m h1 h2; exact absurd h2 (Nat.not_lt_zero _)
  | succ t ih =>
    intro i m hi ht hS r
    rw [f_X11_wrong_70_s]
    unfold s_X11_wrong_70
    by_cases q : nI N ≤ nI i
    · rw [if_pos q]
      rw [nI_leI (by omega) (by omega)] at q
      have : i = N := by omega
      subst this
      exact ⟨m, rfl, r, frW.rf⟩
    · rw [if_neg q]
      rw [nI_leI (by omega) (by omega)] at q
      rw [q_67, if_pos (hIn_lt (show 67 + i < 127 by omega) (by omega)), hLet_n, nI_clamp (show 67 + i < 2 ^ 31 by omega), hS _ (by omega)]
      obtain ⟨m1, a1, a2, a3⟩ := rx_wr93 (fu := fu) (f_X11_wrong_70 fu t) (H := hitA S i) x1 (lowA i) (nI N) (nI i) (S (67 + i)) fu 9 m (by omega) (by omega) r (fun j h1 h2 => by omega)
      rw [show nI 9 + (-1) = 8 by decide] at a1
      rw [a1]
      unfold f_X11_wrong_148
      rw [hLet_n, hLet_n, nI_1]
      obtain ⟨m', b1, b2, b3⟩ := ih (i + 1) m1 (by omega) (by omega) (fun j hj => (a3.1 _ _).trans (hS j hj)) a2
      exact ⟨m', b1, b2, a3.tr b3⟩
theorem rx_wr166 {fu : Nat} {H : Nat → Int64} {m : hM} (hH : ∀ j, j < 9 → gL m 132 j = H j) {k : Nat} (hk : k ≤ 8) (x2 : Int64) : ∀ (t d : Nat), k + d ≤ 9 → 9 - (k + d) < t → f_X11_wrong_166 fu t x2 (upA H k d) (nI (k + d)) m = f_X11_wrong_191 fu x2 (upA H k (9 - k)) m := by
  intro t
  induction t with
  | zero => intro d h1 h2; exact absurd h2 (Nat.not_lt_zero _)
  | succ t ih =>
    intro d hd ht
    rw [f_X11_wrong_166_s]
    unfold s_X11_wrong_166
    by_cases q : nI 9 ≤ nI (k + d)
    · rw [if_pos (show (9 : Int32) ≤ nI (k + d) from q)]
      rw [nI_leI (by omega) (by omega)] at q
      rw [show 9 - k = d by omega]
    · rw [if_neg (show ¬ (9 : Int32) ≤ nI (k + d) from q)]
      rw [nI_leI (by omega) (by omega)] at q
      rw [if_pos (hIn_lt (show k + d < 9 by omega) (by omega)), hLet_n, hLet_n, nI_1, nI_clamp (show k + d < 2 ^ 31 by omega), hH _ (by omega)]
      exact ih (d + 1) (by omega) (by omega)
theorem lowA_ok : ∀ N, N < 9 → (lowA N).toInt.natAbs ≤ 10000000000000000 ∧ lowA N ≠ 0 := by decide
/-- what wrong tells -/
def wrR (S : Nat → Int32) (N k : Nat) : List Int64 := frq (upA (hitA S N) k (9 - k)) (lowA N)
theorem rx_wrong {fu : Nat} (hfu : 300 ≤ fu) {S : Nat → Int32} {M : hM} {w : Nat} (hS : rS S M) (h2 : S 2 = nI w) (hw : w ≤ 60) (x1 : Int32) :
    (¬ hIn x1 9 → f_X11_wrong fu x1 M = some (-1, sI M 96 0 0)) ∧ (hIn x1 9 → ∃ M', frW (sI M 96 0 0) M' ∧ f_X11_wrong fu x1 M = some (0, setRow M' 97 96 1 (wrR S (min w 8) x1.toNatClampNeg))) := by
  have q0 : (0 : Int64).toInt = 0 := rfl
  have q8 : (8 : Int64).toInt = 8 := rfl
  unfold f_X11_wrong
  rw [hLet_n, rx_inI, hBd_some]
  constructor
  · intro z
    rw [if_neg (show ¬ ((0 : Int64).toInt ≤ x1.toInt ∧ x1.toInt ≤ (8 : Int64).toInt) from fun y => z ⟨by rw [q0] at y; exact y.1, by rw [q8] at y; omega⟩), if_neg (by decide)]
  · intro z
    rw [if_pos (show (0 : Int64).toInt ≤ x1.toInt ∧ x1.toInt ≤ (8 : Int64).toInt from ⟨by rw [q0]; exact z.1, by rw [q8]; have := z.2; omega⟩), if_pos (by decide)]
    obtain ⟨k, hk, rfl⟩ := hIn_of z (by omega)
    rw [nI_clamp (show k < 2 ^ 31 by omega)]
    obtain ⟨m1, a1, a2, a3⟩ := rx_wr21 (fu := fu) (nI k) fu 0 (sI M 96 0 0) (by omega) (by omega) (fun j hj => absurd hj (Nat.not_lt_zero _))
    have s0 : rS S m1 := fun j hj => by rw [a3.1, gI_sn (by omega)]; exact hS j hj
    rw [show f_X11_wrong_21 fu fu (nI k) 0 (sI M 96 0 0) = _ from a1]
    unfold f_X11_wrong_52
    rw [s0 2 (by omega), h2, e_min, hBd_some]
    have em : (if nI w < 8 then nI w else 8) = nI (min w 8) := by
      by_cases q : w < 8
      · rw [if_pos (show nI w < 8 from nI_lt (b := 8) q (by omega)), show min w 8 = w by omega]
      · rw [if_neg (show ¬ nI w < 8 from nI_nlt (a := w) (b := 8) (by omega) (by omega)), show min w 8 = 8 by omega]; rfl
    rw [em]
    obtain ⟨m2, b1, b2, b3⟩ := rx_wr70 (show 100 ≤ fu by omega) (S := S) (N := min w 8) (by omega) (nI k) fu 0 m1 (by omega) (by omega) s0 a2
    rw [show f_X11_wrong_70 fu fu (nI k) 1 (nI (min w 8)) 0 m1 = _ from b1]
    unfold f_X11_wrong_160
    rw [show f_X11_wrong_166 fu fu (lowA (min w 8)) 0 (nI k) m2 = _ from rx_wr166 (H := hitA S (min w 8)) b2 (show k ≤ 8 by omega) (lowA (min w 8)) fu 0 (by omega) (by omega)]
    unfold f_X11_wrong_191
    obtain ⟨l1, l2⟩ := lowA_ok (min w 8) (by omega)
    rw [hLet_n, sr_nil m2 97, rx_frac (show 200 ≤ fu by omega) m2 _ _ l1 l2, hBd_some]
    exact ⟨m2, a3.tr b3, rfl⟩
