/-! ===== OVERLAP and LOST on both sides ===== -/
/-- in how many of the k hours from h on both offices are at work -/
def ovl (v : hM) (a b h : Nat) : Nat → Nat
  | 0 => 0
  | k + 1 => ovl v a b h k + (if opn v a (nI (h + k)) = 1 ∧ opn v b (nI (h + k)) = 1 then 1 else 0)
theorem ovl_le (v : hM) (a b h k : Nat) : ovl v a b h k ≤ k := by
  induction k with
  | zero => exact Nat.le_refl _
  | succ k ih => unfold ovl; split <;> omega
theorem ovl_0 (v : hM) (a b h k : Nat) : ovl v a b h k = 0 ↔ ∀ i, i < k → ¬ (opn v a (nI (h + i)) = 1 ∧ opn v b (nI (h + i)) = 1) := by
  induction k with
  | zero => exact ⟨fun _ i hi => absurd hi (by omega), fun _ => rfl⟩
  | succ k ih =>
    unfold ovl
    by_cases c : opn v a (nI (h + k)) = 1 ∧ opn v b (nI (h + k)) = 1
    · rw [if_pos c]
      exact ⟨fun q => by omega, fun q => absurd c (q k (by omega))⟩
    · rw [if_neg c, Nat.add_zero, ih]
      refine ⟨fun q i hi => ?_, fun q i hi => q i (by omega)⟩
      by_cases e : i = k
      · subst e; exact c
      · exact q i (by omega)
theorem opn_n1 {v : hM} {o : Nat} {h : Int32} (c : ¬ opn v o h = 0) : opn v o h = 1 := (opn_01 v o h).resolve_left c
theorem nI_ne {a : Nat} (h : a < 2 ^ 31) (h0 : a ≠ 0) : ¬ nI a = 0 := nI_ne0 (by omega) h
theorem rx_ovl_loop (fu : Nat) {a b h : Nat} (ha : a < 6) (hb : b < 6) (hh : h ≤ 100000) (m : hM) : ∀ (n k : Nat), k ≤ 24 → 24 - k < n →
    f_X11_overlapOf_6 fu n (nI a) (nI b) (nI h) (nI (ovl m a b h k)) (nI (h + k)) m = some (nI (ovl m a b h 24), m) := by
  intro n
  induction n with
  | zero => intro k h1 h2; omega
  | succ n ih =>
    intro k hk hn
    rw [f_X11_overlapOf_6_s]
    unfold s_X11_overlapOf_6
    have e24 : nI h + 24 = nI (h + 24) := nI_add h 24
    rw [e24]
    by_cases c : nI (h + 24) ≤ nI (h + k)
    · rw [if_pos c]
      rw [nI_leI (by omega) (by omega)] at c
      have : k = 24 := by omega
      subst this
      rfl
    · rw [if_neg c]
      rw [nI_leI (by omega) (by omega)] at c
      rw [rx_isOpen fu ha, hBd_some]
      have next : ∀ (z : Nat), z = (if opn m a (nI (h + k)) = 1 ∧ opn m b (nI (h + k)) = 1 then 1 else 0) → f_X11_overlapOf_42 fu (f_X11_overlapOf_6 fu n) (nI a) (nI b) (nI h) (nI (h + k)) (nI (ovl m a b h k)) (nI z) m = some (nI (ovl m a b h 24), m) := by
        intro z hz
        unfold f_X11_overlapOf_42
        have hz1 : z ≤ 1 := by rw [hz]; split <;> omega
        rw [rx_flag, hBd_some]
        have ez : (if nI z = 0 then (0 : Int32) else 1) = nI z := by
          rcases Nat.le_one_iff_eq_zero_or_eq_one.mp hz1 with h0 | h0 <;> subst h0 <;> rfl
        rw [ez]
        simp only [hLet_e]
        rw [nI_add, nI_1]
        have e := ih (k + 1) (by omega) (by omega)
        have e2 : ovl m a b h (k + 1) = ovl m a b h k + z := by rw [hz]; rfl
        rw [e2] at e
        exact e
      by_cases c1 : opn m a (nI (h + k)) = 0
      · rw [if_pos c1]
        unfold f_X11_overlapOf_41
        refine next 0 ?_
        rw [if_neg (fun q => by rw [c1] at q; exact absurd q.1 (by decide))]
      · rw [if_neg c1, rx_isOpen fu hb, hBd_some]
        by_cases c2 : opn m b (nI (h + k)) = 0
        · rw [if_pos c2]
          unfold f_X11_overlapOf_41
          refine next 0 ?_
          rw [if_neg (fun q => by rw [c2] at q; exact absurd q.2 (by decide))]
        · rw [if_neg c2]
          refine next 1 ?_
          rw [if_pos ⟨opn_n1 c1, opn_n1 c2⟩]
theorem rx_overlapOf {fu : Nat} (hfu : 30 ≤ fu) {a b h : Nat} (ha : a < 6) (hb : b < 6) (hh : h ≤ 100000) (m : hM) : f_X11_overlapOf fu (nI a) (nI b) (nI h) m = some (nI (ovl m a b h 24), m) := by
  unfold f_X11_overlapOf
  exact rx_ovl_loop fu ha hb hh m fu 0 (by omega) (by omega)
/-- LOST -/
def lst (v : hM) (a b h : Nat) : Int32 := if a = b then 0 else (if 0 < gI v 96 14 - gI v 107 (6 * a + b) then gI v 96 14 - gI v 107 (6 * a + b) else 0) + (if ovl v a b h 24 = 0 then 2 else 0)
theorem kn_ix {a b : Nat} (ha : a < 6) (hb : b < 6) : nI a * 6 + nI b = nI (6 * a + b) ∧ 6 * nI a + nI b = nI (6 * a + b) ∧ hIn (nI (6 * a + b)) 36 ∧ (nI (6 * a + b)).toNatClampNeg = 6 * a + b := by
  refine ⟨?_, ?_, hIn_lt (by omega) (by omega), nI_clamp (by omega)⟩
  · rw [show (6 : Int32) = nI 6 from rfl, pk_mul, nI_add, Nat.mul_comm]
  · rw [show (6 : Int32) = nI 6 from rfl, pk_mul, nI_add]
theorem rx_lostOf {fu : Nat} (hfu : 30 ≤ fu) {a b h : Nat} (ha : a < 6) (hb : b < 6) (hh : h ≤ 100000) (m : hM) : f_X11_lostOf fu (nI a) (nI b) (nI h) m = some (lst m a b h, m) := by
  unfold f_X11_lostOf lst
  obtain ⟨-, k2, k3, k4⟩ := kn_ix ha hb
  by_cases c : a = b
  · subst c
    rw [if_neg (fun q => q rfl), if_pos rfl]
  · rw [if_pos (fun q => c ((nI_eq (by omega) (by omega)).mp q)), if_neg c, k2, if_pos k3, k4, e_max, hBd_some, rx_overlapOf hfu ha hb hh, hBd_some]
    have hl := ovl_le m a b h 24
    by_cases c2 : ovl m a b h 24 = 0
    · rw [if_neg (fun q => q (by rw [c2]; rfl)), if_pos c2]
    · rw [if_pos (nI_ne (by omega) c2), if_neg c2]
theorem ah_ix {o h : Nat} (ho : o < 6) (hh : h < 2560) : nI o * 40 + nI (h / 64) = nI (40 * o + h / 64) ∧ hIn (nI (40 * o + h / 64)) 240 ∧ (nI (40 * o + h / 64)).toNatClampNeg = 40 * o + h / 64 := by
  refine ⟨?_, hIn_lt (by omega) (by omega), nI_clamp (by omega)⟩
  rw [show (40 : Int32) = nI 40 from rfl, pk_mul, nI_add, Nat.mul_comm]
/-- the 24 hours from one on in which both offices are at work, as bits -/
def bothB (v : hM) (a b h : Nat) (z : Int32) : Prop := ∀ i, i < 32 → bt z i = (decide (i < 24) && decide (opn v a (nI (h + i)) = 1 ∧ opn v b (nI (h + i)) = 1))
theorem aRel.at {v m : hM} {a b : Nat} (ra : aRel v m a) (rb : aRel v m b) {q j i : Nat} (hq : q < 2560) (hj : q / 64 = j) (hi : q % 64 = i) : bl (gH m 5 (40 * a + j) &&& gH m 5 (40 * b + j)) i = decide (opn v a (nI q) = 1 ∧ opn v b (nI q) = 1) := by
  subst hj hi
  rw [l_and, ra q hq, rb q hq]
  by_cases c1 : opn v a (nI q) = 1 <;> by_cases c2 : opn v b (nI q) = 1 <;> simp [c1, c2]
theorem cx_bothFrom (fu : Nat) {v m : hM} {a b h : Nat} (ha : a < 6) (hb : b < 6) (hh : h + 24 ≤ 2500) (ra : aRel v m a) (rb : aRel v m b) : ∃ z, f_X0_bothFrom fu (nI a) (nI b) (nI h) m = some (z, m) ∧ bothB v a b h z := by
  obtain ⟨p1, p2, p3⟩ := ah_ix ha (show h < 2560 by omega)
  obtain ⟨q1, q2, q3⟩ := ah_ix hb (show h < 2560 by omega)
  have e1 : nI h / 64 = nI (h / 64) := pk_div (d := 64) (by omega) (by omega) (by omega)
  have e2 : nI h - nI h / 64 * 64 = nI (h % 64) := pk_rem (d := 64) (by omega) (by omega) (by omega)
  have hg : h % 64 < 64 := Nat.mod_lt _ (by omega)
  unfold f_X0_bothFrom f_X0_bothFrom_96
  simp only [hLet_e]
  rw [e2, e1, p1, q1, if_pos p2, if_pos q2, p3, q3]
  by_cases c : nI (h % 64) ≤ 40
  · rw [if_pos c]
    have c' : h % 64 ≤ 40 := by
      rw [show (40 : Int32) = nI 40 from rfl, nI_leI (by omega) (by omega)] at c
      exact c
    refine ⟨_, rfl, fun i hi => ?_⟩
    rw [b_and, b_24 i hi, l_int hi, l_ushr _ hg]
    by_cases c2 : i < 24
    · rw [ra.at rb (q := h + i) (by omega) (by omega) (by omega)]
      simp [c2]
    · simp [c2]
  · rw [if_neg c]
    have c' : ¬ h % 64 ≤ 40 := by
      rw [show (40 : Int32) = nI 40 from rfl, nI_leI (by omega) (by omega)] at c
      exact c
    have e4 : (64 : Int32) - nI (h % 64) = nI (64 - h % 64) := pk_sub (a := 64) (by omega)
    rw [nI_1, nI_1, nI_1, if_neg (by rw [show (40 : Int32) = nI 40 from rfl, nI_leI (by omega) (by omega)]; omega), if_pos (hIn_lt (by omega) (by omega)), if_pos (hIn_lt (by omega) (by omega)), nI_clamp (by omega), nI_clamp (by omega), e4]
    refine ⟨_, rfl, fun i hi => ?_⟩
    rw [b_and, b_24 i hi, l_int hi, l_or, l_ushr _ hg, l_shl (64 - h % 64) (by omega) _ (by omega)]
    by_cases c2 : i < 24
    · by_cases c3 : h % 64 + i < 64
      · rw [ra.at rb (q := h + i) (by omega) (by omega) (by omega)]
        simp [c2, show ¬ 64 - h % 64 ≤ i by omega]
      · rw [l_big (by omega), show 40 * a + h / 64 + 1 = 40 * a + (h / 64 + 1) by omega, show 40 * b + h / 64 + 1 = 40 * b + (h / 64 + 1) by omega, ra.at rb (q := h + i) (by omega) (by omega) (by omega)]
        simp [c2, show 64 - h % 64 ≤ i by omega]
    · simp [c2]
/-- there is no such hour just where the overlap is none -/
theorem bothB.z0 {v : hM} {a b h : Nat} {z : Int32} (hz : bothB v a b h z) : z = 0 ↔ ovl v a b h 24 = 0 := by
  rw [ovl_0]
  constructor
  · intro e i hi q
    have h1 := hz i (by omega)
    rw [e, b_0, decide_eq_true q, decide_eq_true hi] at h1
    cases h1
  · intro q
    apply b_ext
    intro i hi
    rw [hz i hi, b_0]
    by_cases c : i < 24
    · rw [decide_eq_false (q i c), Bool.and_false]
    · simp [c]
theorem mx0 (z : Int32) : (if z < 0 then (0 : Int32) else z) = if 0 < z then z else 0 := by
  have e0 : (0 : Int32).toInt = 0 := rfl
  by_cases c : z < 0
  · rw [if_pos c, if_neg (by rw [i_lt, e0] at c ⊢; omega)]
  · rw [if_neg c]
    by_cases c2 : 0 < z
    · rw [if_pos c2]
    · rw [if_neg c2, i_eq, e0]
      rw [i_lt, e0] at c c2
      omega
theorem cx_lostBy (fu : Nat) {v m : hM} {a b h : Nat} {z : Int32} (ha : a < 6) (hb : b < 6) (hz : bothB v a b h z) (hl : gI m 1 5 = gI v 96 14) (hk : gI m 3 (6 * a + b) = gI v 107 (6 * a + b)) : f_X0_lostBy fu (nI a) (nI b) z m = some (lst v a b h, m) := by
  unfold f_X0_lostBy lst
  obtain ⟨k1, -, k3, k4⟩ := kn_ix ha hb
  by_cases c : a = b
  · subst c
    rw [if_neg (fun q => q rfl), if_pos rfl]
  · rw [if_pos (fun q => c ((nI_eq (by omega) (by omega)).mp q)), if_neg c, k1, if_pos k3, k4, hl, hk, e_max, hBd_some, mx0]
    by_cases y : ovl v a b h 24 = 0
    · rw [if_neg (fun q => q (hz.z0.mpr y)), if_pos y]
    · rw [if_pos (fun q => y (hz.z0.mp q)), if_neg y, Int32.add_zero]
