/-! what is lost between all offices, in the class: with another LOSE it may be -/
def lsL (v : hM) (L : Int32) (a b h : Nat) : Int32 := (if 0 < L - gI v 107 (6 * a + b) then L - gI v 107 (6 * a + b) else 0) + (if ovl v a b h 24 = 0 then 2 else 0)
theorem ovl_sym (v : hM) (a b h : Nat) : ∀ k, ovl v a b h k = ovl v b a h k
  | 0 => rfl
  | k + 1 => by
    rw [ovl, ovl, ovl_sym v a b h k]
    by_cases c : opn v a (nI (h + k)) = 1 ∧ opn v b (nI (h + k)) = 1
    · rw [if_pos c, if_pos ⟨c.2, c.1⟩]
    · rw [if_neg c, if_neg (fun z => c ⟨z.2, z.1⟩)]
theorem lsL_lst {v : hM} {a b h : Nat} (hab : a ≠ b) : lsL v (gI v 96 14) a b h = lst v a b h := by
  unfold lsL lst
  rw [if_neg hab]
theorem lsL_sym {v : hM} {n a b h : Nat} {L : Int32} (hv : vRel v n) (ha : a < n) (hb : b < n) : lsL v L a b h = lsL v L b a h := by
  unfold lsL
  rw [ovl_sym v a b h 24, (hv.2.2.2.1 a b ha hb).2.2]
theorem cx_loseFrom {fu : Nat} (hfu : 100 ≤ fu) {v m : hM} {n h : Nat} {L : Int32} (hn : n ≤ 6) (he : eRel v m n) (hh : h ≤ 2400) :
    ∃ m', f_X9_loseFrom fu (nI h) L m = some ((), m') ∧ (∀ a b, a < b → b < n → gI m' 40 (6 * a + b) = lsL v L a b h ∧ gI m' 40 (6 * b + a) = lsL v L a b h) ∧ fr (fun a _ => a = 40) m m' := by
  have c1 : ∀ m1 : hM, fr (fun a _ => a = 40) m m1 → gI m1 1 4 = nI n := fun m1 f => by rw [f.1 _ _ (by omega)]; exact he.1
  have inner : ∀ (K : Int32 → Int32 → Int32 → hM → Option (Unit × hM)) (a : Nat), a < n → ∀ (t k : Nat) (m1 : hM), a < k → k ≤ n → n - k < t → fr (fun a _ => a = 40) m m1 → (∀ a' b, a' < a → a' < b → b < n → gI m1 40 (6 * a' + b) = lsL v L a' b h ∧ gI m1 40 (6 * b + a') = lsL v L a' b h) → (∀ b, a < b → b < k → gI m1 40 (6 * a + b) = lsL v L a b h ∧ gI m1 40 (6 * b + a) = lsL v L a b h) →
      ∃ m2, f_X9_loseFrom_29 fu K t (nI h) L (nI a) (nI k) m1 = K (nI h) L (nI (a + 1)) m2 ∧ fr (fun a _ => a = 40) m m2 ∧ (∀ a' b, a' < a + 1 → a' < b → b < n → gI m2 40 (6 * a' + b) = lsL v L a' b h ∧ gI m2 40 (6 * b + a') = lsL v L a' b h) := by
    intro K a ha t
    induction t with
    | zero => intro k m1 h0 h1 h2; exact absurd h2 (Nat.not_lt_zero _)
    | succ t ih =>
      intro k m1 hak hk ht f r1 r2
      rw [f_X9_loseFrom_29_s]
      unfold s_X9_loseFrom_29 f_X9_loseFrom_143 f_X9_loseFrom_105 f_X9_loseFrom_115
      simp only [hLet_n, nI_1]
      rw [c1 m1 f]
      by_cases q : nI n ≤ nI k
      · rw [if_pos q]
        rw [nI_leI (by omega) (by omega)] at q
        refine ⟨m1, rfl, f, fun a' b z1 z2 z3 => ?_⟩
        by_cases e : a' = a
        · subst e; exact r2 b z2 (by omega)
        · exact r1 a' b (by omega) z2 z3
      rw [if_neg q]
      rw [nI_leI (by omega) (by omega)] at q
      have kn : k < n := by omega
      obtain ⟨k1, -, k3, k4⟩ := kn_ix (show a < 6 by omega) (show k < 6 by omega)
      obtain ⟨l1, -, l3, l4⟩ := kn_ix (show k < 6 by omega) (show a < 6 by omega)
      obtain ⟨p1, p2, p3⟩ := ah_ix (show a < 6 by omega) (show h < 2500 by omega)
      obtain ⟨s1, s2, s3⟩ := ah_ix (show k < 6 by omega) (show h < 2500 by omega)
      have g5 : ∀ j, gI m1 5 j = gI m 5 j := fun j => f.1 _ _ (by omega)
      have g3 : gI m1 3 (6 * a + k) = gI v 107 (6 * a + k) := by rw [f.1 _ _ (by omega)]; exact he.2.2.2.2.2.1 a k ha kn
      have B := ah_both (v := v) (m := m) (a := a) (b := k) (h := h) (by omega) ((he.2.2.2.1 a ha).2.2 h (by omega)) ((he.2.2.2.1 k kn).2.2 h (by omega))
      have fin : ∀ y : Int32, y = lsL v L a k h → ∃ m2, f_X9_loseFrom_29 fu K t (nI h) L (nI a) (nI (k + 1)) (sI (sI m1 40 (6 * a + k) y) 40 (6 * k + a) y) = K (nI h) L (nI (a + 1)) m2 ∧ fr (fun a _ => a = 40) m m2 ∧ (∀ a' b, a' < a + 1 → a' < b → b < n → gI m2 40 (6 * a' + b) = lsL v L a' b h ∧ gI m2 40 (6 * b + a') = lsL v L a' b h) := by
        intro y hy
        refine ih (k + 1) _ (by omega) (by omega) (by omega) ((f.si rfl).si rfl) (fun a' b z1 z2 z3 => ?_) (fun b z1 z2 => ?_)
        · rw [gI_sn (by omega), gI_sn (by omega), gI_sn (by omega), gI_sn (by omega)]; exact r1 a' b z1 z2 z3
        · by_cases e : b = k
          · subst e; rw [gI_ss, gI_sn (by omega), gI_ss]; exact ⟨hy, hy⟩
          · rw [gI_sn (by omega), gI_sn (by omega), gI_sn (by omega), gI_sn (by omega)]; exact r2 b z1 (by omega)
      rw [k1, l1, p1, s1, if_pos p2, if_pos s2, if_pos k3, p3, s3, k4, l4, g5, g5, g3]
      simp only [if_pos k3, if_pos l3, gI_ss]
      have e0 : (0 : Int32).toInt = 0 := rfl
      by_cases y : L - gI v 107 (6 * a + k) ≤ 0
      · rw [if_pos y]
        by_cases z : ovl v a k h 24 = 0
        · rw [if_neg (fun u => u (B.mpr z))]
          exact fin _ (by unfold lsL; rw [if_neg (by rw [i_lt]; rw [i_le] at y; omega), if_pos z])
        · rw [if_pos (fun u => z (B.mp u))]
          exact fin _ (by unfold lsL; rw [if_neg (by rw [i_lt]; rw [i_le] at y; omega), if_neg z])
      · rw [if_neg y]
        by_cases z : ovl v a k h 24 = 0
        · rw [if_neg (fun u => u (B.mpr z))]
          exact fin _ (by unfold lsL; rw [if_pos (by rw [i_lt]; rw [i_le] at y; omega), if_pos z])
        · rw [if_pos (fun u => z (B.mp u))]
          exact fin _ (by unfold lsL; rw [if_pos (by rw [i_lt]; rw [i_le] at y; omega), if_neg z])
  have outer : ∀ (t a : Nat) (m1 : hM), a ≤ n → n - a < t → fr (fun a _ => a = 40) m m1 → (∀ a' b, a' < a → a' < b → b < n → gI m1 40 (6 * a' + b) = lsL v L a' b h ∧ gI m1 40 (6 * b + a') = lsL v L a' b h) → ∃ m', f_X9_loseFrom_11 fu t (nI h) L (nI a) m1 = some ((), m') ∧ (∀ a b, a < b → b < n → gI m' 40 (6 * a + b) = lsL v L a b h ∧ gI m' 40 (6 * b + a) = lsL v L a b h) ∧ fr (fun a _ => a = 40) m m' := by
    intro t
    induction t with
    | zero => intro a m1 h1 h2; exact absurd h2 (Nat.not_lt_zero _)
    | succ t ih =>
      intro a m1 ha ht f r
      rw [f_X9_loseFrom_11_s]
      unfold s_X9_loseFrom_11
      rw [c1 m1 f]
      by_cases q : nI n ≤ nI a
      · rw [if_pos q]
        rw [nI_leI (by omega) (by omega)] at q
        exact ⟨m1, rfl, fun a' b z1 z2 => r a' b (by omega) z1 z2, f⟩
      · rw [if_neg q, hLet_n, nI_1]
        rw [nI_leI (by omega) (by omega)] at q
        obtain ⟨m2, s1, s2, s3⟩ := inner (f_X9_loseFrom_11 fu t) a (by omega) fu (a + 1) m1 (by omega) (by omega) (by omega) f r (fun b z1 z2 => by omega)
        rw [s1]
        exact ih (a + 1) m2 (by omega) (by omega) s2 s3
  unfold f_X9_loseFrom
  exact outer fu 0 m (by omega) (by omega) fr.rf (fun a' b z => absurd z (Nat.not_lt_zero _))
