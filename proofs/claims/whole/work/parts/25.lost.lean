/-! ===== OVERLAP and LOST on both sides ===== -/
/-- in how many of the k hours from h on both offices are at work -/
def ovl (v : hM) (a b h : Nat) : Nat → Nat
  | 0 => 0
  | k + 1 => ovl v a b h k + (if opn v a (nI (h + k)) = 1 ∧ opn v b (nI (h + k)) = 1 then 1 else 0)
theorem ovl_le (v : hM) (a b h k : Nat) : ovl v a b h k ≤ k := by
  induction k with
  | zero => exact Nat.le_refl _
  | succ k ih => unfold ovl; split <;> omega
theorem ovl_0 (v : hM) (a b h k : Nat) : ovl v a b h k = 0 ↔ ∀ i, i < k → ¬ (opn v a (nI (h + i)) = 1 ∧ opn v b (nI (h + i)) = 1) := by
  induction k with
  | zero => exact ⟨fun _ i hi => absurd hi (by omega), fun _ => rfl⟩
  | succ k ih =>
    unfold ovl
    by_cases c : opn v a (nI (h + k)) = 1 ∧ opn v b (nI (h + k)) = 1
    · rw [if_pos c]
      exact ⟨fun q => by omega, fun q => absurd c (q k (by omega))⟩
    · rw [if_neg c, Nat.add_zero, ih]
      refine ⟨fun q i hi => ?_, fun q i hi => q i (by omega)⟩
      by_cases e : i = k
      · subst e; exact c
      · exact q i (by omega)
theorem opn_n1 {v : hM} {o : Nat} {h : Int32} (c : ¬ opn v o h = 0) : opn v o h = 1 := (opn_01 v o h).resolve_left c
theorem nI_ne {a : Nat} (h : a < 2 ^ 31) (h0 : a ≠ 0) : ¬ nI a = 0 := nI_ne0 (by omega) h
theorem rx_ovl_loop (fu : Nat) {a b h : Nat} (ha : a < 6) (hb : b < 6) (hh : h ≤ 100000) (m : hM) : ∀ (n k : Nat), k ≤ 24 → 24 - k < n →
    f_X11_overlapOf_6 fu n (nI a) (nI b) (nI h) (nI (ovl m a b h k)) (nI (h + k)) m = some (nI (ovl m a b h 24), m) := by
  intro n
  induction n with
  | zero => intro k h1 h2; omega
  | succ n ih =>
    intro k hk hn
    rw [f_X11_overlapOf_6_s]
    unfold s_X11_overlapOf_6
    have e24 : nI h + 24 = nI (h + 24) := nI_add h 24
    rw [e24]
    by_cases c : nI (h + 24) ≤ nI (h + k)
    · rw [if_pos c]
      rw [nI_leI (by omega) (by omega)] at c
      have : k = 24 := by omega
      subst this
      rfl
    · rw [if_neg c]
      rw [nI_leI (by omega) (by omega)] at c
      rw [rx_isOpen fu ha, hBd_some]
      have next : ∀ (z : Nat), z = (if opn m a (nI (h + k)) = 1 ∧ opn m b (nI (h + k)) = 1 then 1 else 0) → f_X11_overlapOf_42 fu (f_X11_overlapOf_6 fu n) (nI a) (nI b) (nI h) (nI (h + k)) (nI (ovl m a b h k)) (nI z) m = some (nI (ovl m a b h 24), m) := by
        intro z hz
        unfold f_X11_overlapOf_42
        have hz1 : z ≤ 1 := by rw [hz]; split <;> omega
        rw [rx_flag, hBd_some]
        have ez : (if nI z = 0 then (0 : Int32) else 1) = nI z := by
          rcases Nat.le_one_iff_eq_zero_or_eq_one.mp hz1 with h0 | h0 <;> subst h0 <;> rfl
        rw [ez]
        simp only [hLet_e]
        rw [nI_add, nI_1]
        have e := ih (k + 1) (by omega) (by omega)
        have e2 : ovl m a b h (k + 1) = ovl m a b h k + z := by rw [hz]; rfl
        rw [e2] at e
        exact e
      by_cases c1 : opn m a (nI (h + k)) = 0
      · rw [if_pos c1]
        unfold f_X11_overlapOf_41
        refine next 0 ?_
        rw [if_neg (fun q => by rw [c1] at q; exact absurd q.1 (by decide))]
      · rw [if_neg c1, rx_isOpen fu hb, hBd_some]
        by_cases c2 : opn m b (nI (h + k)) = 0
        · rw [if_pos c2]
          unfold f_X11_overlapOf_41
          refine next 0 ?_
          rw [if_neg (fun q => by rw [c2] at q; exact absurd q.2 (by decide))]
        · rw [if_neg c2]
          refine next 1 ?_
          rw [if_pos ⟨opn_n1 c1, opn_n1 c2⟩]
theorem rx_overlapOf {fu : Nat} (hfu : 30 ≤ fu) {a b h : Nat} (ha : a < 6) (hb : b < 6) (hh : h ≤ 100000) (m : hM) : f_X11_overlapOf fu (nI a) (nI b) (nI h) m = some (nI (ovl m a b h 24), m) := by
  unfold f_X11_overlapOf
  exact rx_ovl_loop fu ha hb hh m fu 0 (by omega) (by omega)
/-- LOST -/
def lst (v : hM) (a b h : Nat) : Int32 := if a = b then 0 else (if 0 < gI v 96 14 - gI v 107 (6 * a + b) then gI v 96 14 - gI v 107 (6 * a + b) else 0) + (if ovl v a b h 24 = 0 then 2 else 0)
theorem kn_ix {a b : Nat} (ha : a < 6) (hb : b < 6) : nI a * 6 + nI b = nI (6 * a + b) ∧ 6 * nI a + nI b = nI (6 * a + b) ∧ hIn (nI (6 * a + b)) 36 ∧ (nI (6 * a + b)).toNatClampNeg = 6 * a + b := by
  refine ⟨?_, ?_, hIn_lt (by omega) (by omega), nI_clamp (by omega)⟩
  · rw [show (6 : Int32) = nI 6 from rfl, pk_mul, nI_add, Nat.mul_comm]
  · rw [show (6 : Int32) = nI 6 from rfl, pk_mul, nI_add]
theorem rx_lostOf {fu : Nat} (hfu : 30 ≤ fu) {a b h : Nat} (ha : a < 6) (hb : b < 6) (hh : h ≤ 100000) (m : hM) : f_X11_lostOf fu (nI a) (nI b) (nI h) m = some (lst m a b h, m) := by
  unfold f_X11_lostOf lst
  obtain ⟨-, k2, k3, k4⟩ := kn_ix ha hb
  by_cases c : a = b
  · subst c
    rw [if_neg (fun q => q rfl), if_pos rfl]
  · rw [if_pos (fun q => c ((nI_eq (by omega) (by omega)).mp q)), if_neg c, k2, if_pos k3, k4, e_max, hBd_some, rx_overlapOf hfu ha hb hh, hBd_some]
    have hl := ovl_le m a b h 24
    by_cases c2 : ovl m a b h 24 = 0
    · rw [if_neg (fun q => q (by rw [c2]; rfl)), if_pos c2]
    · rw [if_pos (nI_ne (by omega) c2), if_neg c2]
theorem ah_ix {o h : Nat} (ho : o < 6) (hh : h < 2500) : nI o * 2500 + nI h = nI (2500 * o + h) ∧ hIn (nI (2500 * o + h)) 15000 ∧ (nI (2500 * o + h)).toNatClampNeg = 2500 * o + h := by
  refine ⟨?_, hIn_lt (by omega) (by omega), nI_clamp (by omega)⟩
  rw [show (2500 : Int32) = nI 2500 from rfl, pk_mul, nI_add, Nat.mul_comm]
/-- the two rows of hours ahead have no hour in common just where the overlap is none -/
theorem ah_both {v m : hM} {a b h : Nat} (hh : h + 24 ≤ 2500) (ra : aAt v m a h) (rb : aAt v m b h) : (gI m 5 (2500 * a + h) &&& gI m 5 (2500 * b + h)) = 0 ↔ ovl v a b h 24 = 0 := by
  rw [ovl_0]
  constructor
  · intro e i hi ⟨q1, q2⟩
    have h1 : bt (gI m 5 (2500 * a + h) &&& gI m 5 (2500 * b + h)) i = true := by
      rw [b_and, ra i (by omega), rb i (by omega), q1, q2]
      simp [hi, show h + i < 2500 by omega]
    rw [e, b_0] at h1
    cases h1
  · intro q
    apply b_ext
    intro i hi
    rw [b_and, ra i hi, rb i hi, b_0]
    by_cases c : i < 24
    · have := q i c
      by_cases c1 : opn v a (nI (h + i)) = 1
      · by_cases c2 : opn v b (nI (h + i)) = 1
        · exact absurd ⟨c1, c2⟩ this
        · simp [c2]
      · simp [c1]
    · simp [c]
theorem cx_lostFrom (fu : Nat) {v m : hM} {a b h : Nat} (ha : a < 6) (hb : b < 6) (hh : h + 24 ≤ 2500) (ra : aAt v m a h) (rb : aAt v m b h) (hl : gI m 1 5 = gI v 96 14) (hk : gI m 3 (6 * a + b) = gI v 107 (6 * a + b)) : f_X0_lostFrom fu (nI a) (nI b) (nI h) m = some (lst v a b h, m) := by
  unfold f_X0_lostFrom lst
  obtain ⟨k1, -, k3, k4⟩ := kn_ix ha hb
  obtain ⟨p1, p2, p3⟩ := ah_ix ha (show h < 2500 by omega)
  obtain ⟨q1, q2, q3⟩ := ah_ix hb (show h < 2500 by omega)
  by_cases c : a = b
  · subst c
    rw [if_neg (fun q => q rfl), if_pos rfl]
  · rw [if_pos (fun q => c ((nI_eq (by omega) (by omega)).mp q)), if_neg c, k1, if_pos k3, k4, hl, hk]
    simp only [hLet_e]
    have key : ∀ s0 : Int32, f_X0_lostFrom_36 fu (nI a) (nI b) (nI h) s0 m = some (s0 + (if ovl v a b h 24 = 0 then 2 else 0), m) := by
      intro s0
      unfold f_X0_lostFrom_36
      rw [p1, q1, if_pos p2, if_pos q2, p3, q3]
      simp only [hLet_e]
      by_cases z : ovl v a b h 24 = 0
      · rw [if_neg (fun q => q ((ah_both hh ra rb).mpr z)), if_pos z]
      · rw [if_pos (fun q => z ((ah_both hh ra rb).mp q)), if_neg z, Int32.add_zero]
    generalize gI v 96 14 - gI v 107 (6 * a + b) = z
    by_cases c2 : z ≤ 0
    · have hn : ¬ 0 < z := by rw [i_lt]; rw [i_le] at c2; omega
      rw [if_pos c2, key, if_neg hn]
    · have hn : 0 < z := by rw [i_lt]; rw [i_le] at c2; omega
      rw [if_neg c2, key, if_pos hn]
