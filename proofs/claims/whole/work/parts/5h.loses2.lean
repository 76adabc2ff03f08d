/-! what is lost between all offices, in the class: with another LOSE it may be -/
def lsL (v : hM) (L : Int32) (a b h : Nat) : Int32 := (if 0 < L - gI v 107 (6 * a + b) then L - gI v 107 (6 * a + b) else 0) + (if ovl v a b h 24 = 0 then 2 else 0)
theorem ovl_sym (v : hM) (a b h : Nat) : ∀ k, ovl v a b h k = ovl v b a h k
  | 0 => rfl
  | k + 1 => by
    rw [ovl, ovl, ovl_sym v a b h k]
    by_cases c : opn v a (nI (h + k)) = 1 ∧ opn v b (nI (h + k)) = 1
    · rw [if_pos c, if_pos ⟨c.2, c.1⟩]
    · rw [if_neg c, if_neg (fun z => c ⟨z.2, z.1⟩)]
theorem lsL_lst {v : hM} {a b h : Nat} (hab : a ≠ b) : lsL v (gI v 96 14) a b h = lst v a b h := by
  unfold lsL lst
  rw [if_neg hab]
theorem lsL_sym {v : hM} {n a b h : Nat} {L : Int32} (hv : vRel v n) (ha : a < n) (hb : b < n) : lsL v L a b h = lsL v L b a h := by
  unfold lsL
  rw [ovl_sym v a b h 24, (hv.2.2.2.1 a b ha hb).2.2]
theorem ix6 {a b c d : Nat} (hb : b < 6) (hd : d < 6) (h : 6 * a + b = 6 * c + d) : a = c ∧ b = d := by omega
theorem gI_s6 {m : hM} {a b c d : Nat} {x : Int32} (hb : b < 6) (hd : d < 6) (h : ¬ (a = c ∧ b = d)) : gI (sI m 40 (6 * c + d) x) 40 (6 * a + b) = gI m 40 (6 * a + b) := gI_sn (fun w => h (ix6 hb hd w.2))
theorem cx_loseFrom {fu : Nat} (hfu : 100 ≤ fu) {v m : hM} {n h : Nat} {L : Int32} (hv : vRel v n) (hLv : gI v 96 14 = L) (he : eRel v m n) (hh : h ≤ 2400) :
    ∃ m', f_X9_loseFrom fu (nI h) m = some ((), m') ∧ (∀ a b, a < b → b < n → gI m' 40 (6 * a + b) = lsL v L a b h ∧ gI m' 40 (6 * b + a) = lsL v L a b h) ∧ fr (fun a _ => a = 40) m m' := by
  have hn := hv.1
  have c1 : ∀ m1 : hM, fr (fun a _ => a = 40) m m1 → gI m1 1 4 = nI n := fun m1 f => by rw [f.1 _ _ (by omega)]; exact he.1
  have inner : ∀ (K : Int32 → Int32 → hM → Option (Unit × hM)) (A : Nat), A < n → ∀ (t k : Nat) (m1 : hM), k ≤ A → A - k < t → fr (fun a _ => a = 40) m m1 → (∀ a b, a < b → b < A → gI m1 40 (6 * a + b) = lsL v L a b h ∧ gI m1 40 (6 * b + a) = lsL v L a b h) → (∀ a, a < k → gI m1 40 (6 * a + A) = lsL v L a A h ∧ gI m1 40 (6 * A + a) = lsL v L a A h) →
      ∃ m2, f_X9_loseFrom_15 fu K t (nI h) (nI A) (nI k) m1 = K (nI h) (nI (A + 1)) m2 ∧ fr (fun a _ => a = 40) m m2 ∧ (∀ a b, a < b → b < A + 1 → gI m2 40 (6 * a + b) = lsL v L a b h ∧ gI m2 40 (6 * b + a) = lsL v L a b h) := by
    intro K A hA t
    induction t with
    | zero => intro k m1 h1 h2; exact absurd h2 (Nat.not_lt_zero _)
    | succ t ih =>
      intro k m1 hk ht f r1 r2
      rw [f_X9_loseFrom_15_s]
      unfold s_X9_loseFrom_15 f_X9_loseFrom_78
      simp only [hLet_n, nI_1]
      by_cases q : nI A ≤ nI k
      · rw [if_pos q]
        rw [nI_leI (by omega) (by omega)] at q
        refine ⟨m1, rfl, f, fun a b z1 z2 => ?_⟩
        by_cases e : b = A
        · subst e; exact r2 a (by omega)
        · exact r1 a b z1 (by omega)
      rw [if_neg q]
      rw [nI_leI (by omega) (by omega)] at q
      have kA : k < A := by omega
      obtain ⟨k1, -, k3, k4⟩ := kn_ix (show A < 6 by omega) (show k < 6 by omega)
      obtain ⟨l1, -, l3, l4⟩ := kn_ix (show k < 6 by omega) (show A < 6 by omega)
      have he1 : eRel v m1 n := eRel_fr he hn (fun a j z1 z2 => f.1 a j (by omega))
      obtain ⟨z, z1, z2⟩ := cx_bothFrom fu (show A < 6 by omega) (show k < 6 by omega) (show h + 24 ≤ 2500 by omega) (he1.2.2.2.1 A hA).2.2 (he1.2.2.2.1 k (by omega)).2.2
      rw [z1, hBd_some, cx_lostBy fu (by omega) (by omega) z2 he1.2.1 (he1.2.2.2.2.2.1 A k hA (by omega)), hBd_some, k1, l1]
      simp only [if_pos k3, if_pos l3, k4, l4, gI_ss]
      have ey : lst v A k h = lsL v L k A h := by
        rw [← lsL_lst (show A ≠ k by omega), hLv]
        exact lsL_sym hv hA (by omega)
      rw [ey]
      refine ih (k + 1) _ (by omega) (by omega) ((f.si rfl).si rfl) (fun a b z1 z2 => ?_) (fun a z1 => ?_)
      · rw [gI_s6 (by omega) (by omega) (by omega), gI_s6 (by omega) (by omega) (by omega), gI_s6 (by omega) (by omega) (by omega), gI_s6 (by omega) (by omega) (by omega)]; exact r1 a b z1 z2
      · by_cases e : a = k
        · subst e; rw [gI_ss, gI_s6 (by omega) (by omega) (by omega), gI_ss]; exact ⟨rfl, rfl⟩
        · rw [gI_s6 (by omega) (by omega) (by omega), gI_s6 (by omega) (by omega) (by omega), gI_s6 (by omega) (by omega) (by omega), gI_s6 (by omega) (by omega) (by omega)]; exact r2 a (by omega)
  have outer : ∀ (t A : Nat) (m1 : hM), A ≤ n → n - A < t → fr (fun a _ => a = 40) m m1 → (∀ a b, a < b → b < A → gI m1 40 (6 * a + b) = lsL v L a b h ∧ gI m1 40 (6 * b + a) = lsL v L a b h) → ∃ m', f_X9_loseFrom_2 fu t (nI h) (nI A) m1 = some ((), m') ∧ (∀ a b, a < b → b < n → gI m' 40 (6 * a + b) = lsL v L a b h ∧ gI m' 40 (6 * b + a) = lsL v L a b h) ∧ fr (fun a _ => a = 40) m m' := by
    intro t
    induction t with
    | zero => intro a m1 h1 h2; exact absurd h2 (Nat.not_lt_zero _)
    | succ t ih =>
      intro A m1 hA ht f r
      rw [f_X9_loseFrom_2_s]
      unfold s_X9_loseFrom_2
      rw [c1 m1 f]
      by_cases q : nI n ≤ nI A
      · rw [if_pos q]
        rw [nI_leI (by omega) (by omega)] at q
        exact ⟨m1, rfl, fun a b z1 z2 => r a b z1 (by omega), f⟩
      · rw [if_neg q]
        rw [nI_leI (by omega) (by omega)] at q
        obtain ⟨m2, s1, s2, s3⟩ := inner (f_X9_loseFrom_2 fu t) A (by omega) fu 0 m1 (by omega) (by omega) f r (fun a z1 => absurd z1 (Nat.not_lt_zero _))
        rw [show (0 : Int32) = nI 0 from rfl, s1]
        exact ih (A + 1) m2 (by omega) (by omega) s2 s3
  unfold f_X9_loseFrom
  exact outer fu 0 m (by omega) (by omega) fr.rf (fun a b z1 z2 => absurd z2 (Nat.not_lt_zero _))
