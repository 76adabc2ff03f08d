/-! ===== pair, count, dark ===== -/
def tl (v : hM) (a b : Int32) (i : Nat) : Prop := (gI v 128 i = a ∧ gI v 129 i = b) ∨ (gI v 128 i = b ∧ gI v 129 i = a)
theorem cx_told2 (fu : Nat) {v m : hM} {n k : Nat} (h : prR v m n k) (a b : Int32) : ∀ (t i : Nat), i ≤ k → k - i < t → ((∃ i', i ≤ i' ∧ i' < k ∧ tl v a b i') → f_X3_told_2 fu t a b (nI i) m = some (1, m)) ∧ ((¬ ∃ i', i ≤ i' ∧ i' < k ∧ tl v a b i') → f_X3_told_2 fu t a b (nI i) m = some (0, m)) := by
  have hk9 := h.1
  intro t
  induction t with
  | zero => intro i h1 h2; omega
  | succ t ih =>
    intro i hi ht
    rw [f_X3_told_2_s]
    unfold s_X3_told_2 f_X3_told_30 f_X3_told_52
    rw [h.2.1]
    by_cases q : nI k ≤ nI i
    · rw [if_pos q]
      rw [nI_leI (by omega) (by omega)] at q
      exact ⟨fun ⟨i', z1, z2, _⟩ => by omega, fun _ => rfl⟩
    · rw [if_neg q]
      rw [nI_leI (by omega) (by omega)] at q
      have h9 : hIn (nI i) 9 := hIn_lt (show i < 9 by omega) (by omega)
      obtain ⟨d1, d2, _⟩ := h.2.2.2.1 i (by omega)
      have e := ih (i + 1) (by omega) (by omega)
      rw [if_pos h9, if_pos h9, if_pos h9, if_pos h9, hLet_n, nI_1, nI_clamp (show i < 2 ^ 31 by omega), d1, d2]
      have nx : ¬ tl v a b i → ((∃ i', i ≤ i' ∧ i' < k ∧ tl v a b i') ↔ ∃ i', i + 1 ≤ i' ∧ i' < k ∧ tl v a b i') := fun z => ⟨fun ⟨i', y1, y2, y3⟩ => ⟨i', by
        rcases Nat.lt_or_ge i i' with w | w
        · omega
        · have : i' = i := by omega
          subst this; exact absurd y3 z, y2, y3⟩, fun ⟨i', y1, y2, y3⟩ => ⟨i', by omega, y2, y3⟩⟩
      have ys : tl v a b i → ∃ i', i ≤ i' ∧ i' < k ∧ tl v a b i' := fun z => ⟨i, Nat.le_refl i, by omega, z⟩
      by_cases z1 : gI v 128 i = a
      · rw [if_neg (fun y => y z1)]
        by_cases z2 : gI v 129 i = b
        · rw [if_pos z2]
          exact ⟨fun _ => rfl, fun y => absurd (ys (Or.inl ⟨z1, z2⟩)) y⟩
        · rw [if_neg z2]
          by_cases z3 : gI v 128 i = b
          · rw [if_neg (fun y => y z3)]
            by_cases z4 : gI v 129 i = a
            · rw [if_neg (fun y => y z4)]
              exact ⟨fun _ => rfl, fun y => absurd (ys (Or.inr ⟨z3, z4⟩)) y⟩
            · rw [if_pos z4, nx (fun y => y.elim (fun w => z2 w.2) (fun w => z4 w.2))]; exact e
          · rw [if_pos z3, nx (fun y => y.elim (fun w => z2 w.2) (fun w => z3 w.1))]; exact e
      · rw [if_pos z1]
        by_cases z3 : gI v 128 i = b
        · rw [if_neg (fun y => y z3)]
          by_cases z4 : gI v 129 i = a
          · rw [if_neg (fun y => y z4)]
            exact ⟨fun _ => rfl, fun y => absurd (ys (Or.inr ⟨z3, z4⟩)) y⟩
          · rw [if_pos z4, nx (fun y => y.elim (fun w => z1 w.1) (fun w => z4 w.2))]; exact e
        · rw [if_pos z3, nx (fun y => y.elim (fun w => z1 w.1) (fun w => z3 w.1))]; exact e
theorem rx_pair52 (fu : Nat) {v m m0 : hM} {n k : Nat} (h : prR v m0 n k) (hm : prM v m) (a b x3 : Int32) : ∀ (t i : Nat), i ≤ k → k - i < t → ((∃ i', i ≤ i' ∧ i' < k ∧ tl v a b i') → f_X11_pair_52 fu t a b x3 (nI i) m = some (-1, m)) ∧ ((¬ ∃ i', i ≤ i' ∧ i' < k ∧ tl v a b i') → f_X11_pair_52 fu t a b x3 (nI i) m = f_X11_pair_113 fu a b x3 m) := by
  have hk9 := h.1
  intro t
  induction t with
  | zero => intro i h1 h2; omega
  | succ t ih =>
    intro i hi ht
    rw [f_X11_pair_52_s]
    unfold s_X11_pair_52 f_X11_pair_83 f_X11_pair_107
    rw [hm.1, h.2.2.1]
    by_cases q : nI k ≤ nI i
    · rw [if_pos q]
      rw [nI_leI (by omega) (by omega)] at q
      exact ⟨fun ⟨i', z1, z2, _⟩ => by omega, fun _ => rfl⟩
    · rw [if_neg q]
      rw [nI_leI (by omega) (by omega)] at q
      have h9 : hIn (nI i) 9 := hIn_lt (show i < 9 by omega) (by omega)
      have e := ih (i + 1) (by omega) (by omega)
      rw [if_pos h9, if_pos h9, if_pos h9, if_pos h9, hLet_n, nI_1, nI_clamp (show i < 2 ^ 31 by omega), hm.2 128 i (by omega) (by omega), hm.2 129 i (by omega) (by omega)]
      have nx : ¬ tl v a b i → ((∃ i', i ≤ i' ∧ i' < k ∧ tl v a b i') ↔ ∃ i', i + 1 ≤ i' ∧ i' < k ∧ tl v a b i') := fun z => ⟨fun ⟨i', y1, y2, y3⟩ => ⟨i', by
        rcases Nat.lt_or_ge i i' with w | w
        · omega
        · have : i' = i := by omega
          subst this; exact absurd y3 z, y2, y3⟩, fun ⟨i', y1, y2, y3⟩ => ⟨i', by omega, y2, y3⟩⟩
      have ys : tl v a b i → ∃ i', i ≤ i' ∧ i' < k ∧ tl v a b i' := fun z => ⟨i, Nat.le_refl i, by omega, z⟩
      by_cases z1 : gI v 128 i = a
      · rw [if_neg (fun y => y z1)]
        by_cases z2 : gI v 129 i = b
        · rw [if_pos z2]
          exact ⟨fun _ => rfl, fun y => absurd (ys (Or.inl ⟨z1, z2⟩)) y⟩
        · rw [if_neg z2]
          by_cases z3 : gI v 128 i = b
          · rw [if_neg (fun y => y z3)]
            by_cases z4 : gI v 129 i = a
            · rw [if_neg (fun y => y z4)]
              exact ⟨fun _ => rfl, fun y => absurd (ys (Or.inr ⟨z3, z4⟩)) y⟩
            · rw [if_pos z4, nx (fun y => y.elim (fun w => z2 w.2) (fun w => z4 w.2))]; exact e
          · rw [if_pos z3, nx (fun y => y.elim (fun w => z2 w.2) (fun w => z3 w.1))]; exact e
      · rw [if_pos z1]
        by_cases z3 : gI v 128 i = b
        · rw [if_neg (fun y => y z3)]
          by_cases z4 : gI v 129 i = a
          · rw [if_neg (fun y => y z4)]
            exact ⟨fun _ => rfl, fun y => absurd (ys (Or.inr ⟨z3, z4⟩)) y⟩
          · rw [if_pos z4, nx (fun y => y.elim (fun w => z1 w.1) (fun w => z4 w.2))]; exact e
        · rw [if_pos z3, nx (fun y => y.elim (fun w => z1 w.1) (fun w => z3 w.1))]; exact e
theorem ok_pair {fu : Nat} (hfu : 100 ≤ fu) {m : hM} (h : IV m) (x1 x2 x3 : Int32) : okC (f_X10_pair fu x1 x2 x3) (f_X11_pair fu x1 x2 x3) m := by
  obtain ⟨n, c, k, t, h⟩ := h
  have hn := h.1.1.1
  have hc := h.2.1.1.1
  have hpr := h.2.2.2.2.2.2.2.1
  have hk9 := hpr.1
  have e1 : (1 : Int32).toInt = 1 := rfl
  have e99 : (99 : Int32).toInt = 99 := rfl
  have h3 : ∀ M : hM, (∀ a j, 96 ≤ a → gI M a j = gI m a j) → gI (sI M 96 0 0) 96 3 = nI n := fun M z => by rw [gI_sn (by omega), z _ _ (by omega)]; exact h.1.1.2.1
  have h50 : ∀ M : hM, (∀ a j, 96 ≤ a → gI M a j = gI m a j) → gI (sI M 96 0 0) 96 50 = nI k := fun M z => by rw [gI_sn (by omega), z _ _ (by omega)]; exact hpr.2.2.1
  have id1 : ∀ a j, 96 ≤ a → gI m a j = gI m a j := fun _ _ _ => rfl
  unfold okC f_X10_pair f_X11_pair
  by_cases c1 : hIn x1 n
  rotate_left
  · refine ⟨-1, m, sI m 96 0 0, ?_, ?_, h.th rfl rfl⟩
    · rw [cx_has fu x1 m (by omega) h.1.2.1, hBd_some, if_neg c1, if_pos rfl]
    · rw [hLet_n, rx_isOffice fu x1 _ (by omega) (h3 m id1), hBd_some, if_neg c1, if_pos rfl]
  by_cases c2 : hIn x2 n
  rotate_left
  · refine ⟨-1, m, sI m 96 0 0, ?_, ?_, h.th rfl rfl⟩
    · rw [cx_has fu x1 m (by omega) h.1.2.1, hBd_some, if_pos c1, if_neg (by decide), cx_has fu x2 m (by omega) h.1.2.1, hBd_some, if_neg c2, if_pos rfl]
    · rw [hLet_n, rx_isOffice fu x1 _ (by omega) (h3 m id1), hBd_some, if_pos c1, if_neg (by decide), rx_isOffice fu x2 _ (by omega) (h3 m id1), hBd_some, if_neg c2, if_pos rfl]
  by_cases c3 : x1 = x2
  · refine ⟨-1, m, sI m 96 0 0, ?_, ?_, h.th rfl rfl⟩
    · rw [cx_has fu x1 m (by omega) h.1.2.1, hBd_some, if_pos c1, if_neg (by decide), cx_has fu x2 m (by omega) h.1.2.1, hBd_some, if_pos c2, if_neg (by decide), if_pos c3]
    · rw [hLet_n, rx_isOffice fu x1 _ (by omega) (h3 m id1), hBd_some, if_pos c1, if_neg (by decide), rx_isOffice fu x2 _ (by omega) (h3 m id1), hBd_some, if_pos c2, if_neg (by decide), if_pos c3]
  by_cases c4 : 1 ≤ x3.toInt ∧ x3.toInt ≤ 99
  rotate_left
  · refine ⟨-1, m, sI m 96 0 0, ?_, ?_, h.th rfl rfl⟩
    · rw [cx_has fu x1 m (by omega) h.1.2.1, hBd_some, if_pos c1, if_neg (by decide), cx_has fu x2 m (by omega) h.1.2.1, hBd_some, if_pos c2, if_neg (by decide), if_neg c3]
      by_cases y : x3 < 1
      · rw [if_pos y]
      · rw [if_neg y, if_neg (by rw [i_lt, e1] at y; rw [i_le, e99]; omega)]
    · rw [hLet_n, rx_isOffice fu x1 _ (by omega) (h3 m id1), hBd_some, if_pos c1, if_neg (by decide), rx_isOffice fu x2 _ (by omega) (h3 m id1), hBd_some, if_pos c2, if_neg (by decide), if_neg c3, rx_inI, hBd_some, if_neg (show ¬ ((1 : Int64).toInt ≤ x3.toInt ∧ x3.toInt ≤ (99 : Int64).toInt) from c4), if_pos rfl]
  have d1 : ¬ x3 < 1 := by rw [i_lt, e1]; omega
  have d2 : x3 ≤ 99 := by rw [i_le, e99]; omega
  by_cases c5 : k = 9
  · refine ⟨-1, m, sI m 96 0 0, ?_, ?_, h.th rfl rfl⟩
    · rw [cx_has fu x1 m (by omega) h.1.2.1, hBd_some, if_pos c1, if_neg (by decide), cx_has fu x2 m (by omega) h.1.2.1, hBd_some, if_pos c2, if_neg (by decide), if_neg c3, if_neg d1, if_pos d2, hpr.2.1, if_pos (show (9 : Int32) ≤ nI k by rw [c5]; decide)]
    · rw [hLet_n, rx_isOffice fu x1 _ (by omega) (h3 m id1), hBd_some, if_pos c1, if_neg (by decide), rx_isOffice fu x2 _ (by omega) (h3 m id1), hBd_some, if_pos c2, if_neg (by decide), if_neg c3, rx_inI, hBd_some, if_pos (show ((1 : Int64).toInt ≤ x3.toInt ∧ x3.toInt ≤ (99 : Int64).toInt) from c4), if_neg (by decide), h50 m id1, if_neg (fun z => z (by rw [c5]; rfl))]
  have k9 : k < 9 := by omega
  have nk9 : ¬ nI k = 9 := fun y => c5 ((nI_eq (a := k) (b := 9) (by omega) (by omega)).mp y)
  have T := cx_told2 fu hpr x1 x2 fu 0 (by omega) (by omega)
  have h9 : hIn (nI k) 9 := hIn_lt k9 (by omega)
  have ck : (nI k).toNatClampNeg = k := nI_clamp (by omega)
  by_cases c6 : ∃ i', 0 ≤ i' ∧ i' < k ∧ tl m x1 x2 i'
  · have T1 : f_X3_told_2 fu fu x1 x2 0 m = some (1, m) := T.1 c6
    have R1 : f_X11_pair_52 fu fu x1 x2 x3 0 (sI m 96 0 0) = some (-1, sI m 96 0 0) := (rx_pair52 fu hpr (h.prm id1) x1 x2 x3 fu 0 (by omega) (by omega)).1 c6
    refine ⟨-1, m, sI m 96 0 0, ?_, ?_, h.th rfl rfl⟩
    · unfold f_X3_told
      rw [cx_has fu x1 m (by omega) h.1.2.1, hBd_some, if_pos c1, if_neg (by decide), cx_has fu x2 m (by omega) h.1.2.1, hBd_some, if_pos c2, if_neg (by decide), if_neg c3, if_neg d1, if_pos d2, hpr.2.1, if_neg (show ¬ (9 : Int32) ≤ nI k from nI_ge (b := 9) k9 (by omega)), T1, hBd_some, if_neg (by decide)]
    · rw [hLet_n, rx_isOffice fu x1 _ (by omega) (h3 m id1), hBd_some, if_pos c1, if_neg (by decide), rx_isOffice fu x2 _ (by omega) (h3 m id1), hBd_some, if_pos c2, if_neg (by decide), if_neg c3, rx_inI, hBd_some, if_pos (show ((1 : Int64).toInt ≤ x3.toInt ∧ x3.toInt ≤ (99 : Int64).toInt) from c4), if_neg (by decide), h50 m id1, if_pos nk9, R1]
  · have T1 : f_X3_told_2 fu fu x1 x2 0 m = some (0, m) := T.2 c6
    generalize hM1 : sI (sI (sI (sI m 42 k x1) 43 k x2) 44 k x3) 41 4 (nI (k + 1)) = m1
    have g1 : ∀ a j, ¬ (42 ≤ a ∧ a ≤ 44 ∧ j = k) → ¬ (a = 41 ∧ j = 4) → gI m1 a j = gI m a j := fun a j z1 z2 => by rw [← hM1]; simp (disch := omega) only [gI_sn]
    have k1 : ∀ a j, 96 ≤ a → gI m1 a j = gI m a j := fun a j z => g1 a j (by omega) (by omega)
    have R1 : f_X11_pair_52 fu fu x1 x2 x3 0 (sI m1 96 0 0) = f_X11_pair_113 fu x1 x2 x3 (sI m1 96 0 0) := (rx_pair52 fu hpr (h.prm k1) x1 x2 x3 fu 0 (by omega) (by omega)).2 c6
    generalize hM2 : sI (sI (sI (sI (sI m1 96 0 0) 128 k x1) 129 k x2) 130 k x3) 96 50 (nI (k + 1)) = m2
    have g2 : ∀ a j, ¬ (128 ≤ a ∧ a ≤ 130 ∧ j = k) → ¬ (a = 96 ∧ (j = 0 ∨ j = 50)) → gI m2 a j = gI m1 a j := fun a j z1 z2 => by rw [← hM2]; simp (disch := omega) only [gI_sn]
    have gm : ∀ a j, ¬ (42 ≤ a ∧ a ≤ 44 ∧ j = k) → ¬ (a = 41 ∧ j = 4) → ¬ (128 ≤ a ∧ a ≤ 130 ∧ j = k) → ¬ (a = 96 ∧ (j = 0 ∨ j = 50)) → gI m2 a j = gI m a j := fun a j z1 z2 z3 z4 => by rw [g2 a j z3 z4, g1 a j z1 z2]
    have l1 : ∀ a j, gL m2 a j = gL m a j := fun a j => by rw [← hM2, ← hM1]; rfl
    have r1 : ∀ a j, gR m2 a j = gR m a j := fun a j => by rw [← hM2, ← hM1]; rfl
    have s1 : gI m2 42 k = x1 ∧ gI m2 43 k = x2 ∧ gI m2 44 k = x3 := by
      rw [g2 42 k (by omega) (by omega), g2 43 k (by omega) (by omega), g2 44 k (by omega) (by omega), ← hM1]
      refine ⟨?_, ?_, ?_⟩ <;> simp (disch := omega) only [gI_ss, gI_sn]
    have s2 : gI m2 128 k = x1 ∧ gI m2 129 k = x2 ∧ gI m2 130 k = x3 := by
      rw [← hM2]
      refine ⟨?_, ?_, ?_⟩ <;> simp (disch := omega) only [gI_ss, gI_sn]
    refine ⟨nI (k + 1), m1, m2, ?_, ?_, n, c, k + 1, t, h.gen (fun a j z1 z2 => gm a j (by unfold rI at z1; omega) (by unfold rI at z1; omega) (by omega) (by unfold rI at z1; omega)) (fun j => l1 _ _) (fun j => r1 _ _) (fun a j z1 z2 => gm a j (by omega) (by omega) (by unfold cI at z1; omega) (by unfold cI at z1; omega)) (fun j => l1 _ _) ⟨by omega, ?_, ?_, fun i hi => ?_, fun i j hij hj => ?_⟩ (fun i hi => kpR_cg hc (h.2.2.2.2.2.2.2.2.1 i hi) hi (Nat.le_refl n) (Nat.le_refl c) (gm _ _ (by omega) (by omega) (by omega) (by omega)) (gm _ _ (by omega) (by omega) (by omega) (by omega)) (fun j => gm _ _ (by omega) (by omega) (by omega) (by omega)) (fun a j z1 z2 => gm _ _ (by omega) (by omega) (by omega) (by omega)) (fun p hp => gm _ _ (by omega) (by omega) (by omega) (by omega))) (txR_cg h.2.2.2.2.2.2.2.2.2.1 (gm _ _ (by omega) (by omega) (by omega) (by omega)) (fun j => gm _ _ (by omega) (by omega) (by omega) (by omega)) (gm _ _ (by omega) (by omega) (by omega) (by omega)) (fun j => gm _ _ (by omega) (by omega) (by omega) (by omega)))⟩
    · have e41 : ∀ (M : hM), gI M 41 4 = nI k → ∀ a j x, a ≠ 41 → gI (sI M a j x) 41 4 = nI k := fun M z a j x z2 => by rw [gI_sn (fun y => z2 y.1.symm)]; exact z
      unfold f_X3_told
      rw [cx_has fu x1 m (by omega) h.1.2.1, hBd_some, if_pos c1, if_neg (by decide), cx_has fu x2 m (by omega) h.1.2.1, hBd_some, if_pos c2, if_neg (by decide), if_neg c3, if_neg d1, if_pos d2, hpr.2.1, if_neg (show ¬ (9 : Int32) ≤ nI k from nI_ge (b := 9) k9 (by omega)), T1, hBd_some, if_pos rfl, hpr.2.1, if_pos h9, hLet_n, ck, e41 _ hpr.2.1 42 k _ (by omega), if_pos h9, hLet_n, ck, e41 _ (e41 _ hpr.2.1 42 k _ (by omega)) 43 k _ (by omega), if_pos h9, hLet_n, ck, e41 _ (e41 _ (e41 _ hpr.2.1 42 k _ (by omega)) 43 k _ (by omega)) 44 k _ (by omega), nI_1, hLet_n, gI_ss, hM1]
    · have e50 : ∀ (M : hM), gI M 96 50 = nI k → ∀ a j x, a ≠ 96 → gI (sI M a j x) 96 50 = nI k := fun M z a j x z2 => by rw [gI_sn (fun y => z2 y.1.symm)]; exact z
      have z0 := h50 m1 k1
      rw [hLet_n, rx_isOffice fu x1 _ (by omega) (h3 m1 k1), hBd_some, if_pos c1, if_neg (by decide), rx_isOffice fu x2 _ (by omega) (h3 m1 k1), hBd_some, if_pos c2, if_neg (by decide), if_neg c3, rx_inI, hBd_some, if_pos (show ((1 : Int64).toInt ≤ x3.toInt ∧ x3.toInt ≤ (99 : Int64).toInt) from c4), if_neg (by decide), z0, if_pos nk9, R1]
      unfold f_X11_pair_113
      rw [z0, if_pos h9, hLet_n, ck, e50 _ z0 128 k _ (by omega), if_pos h9, hLet_n, ck, e50 _ (e50 _ z0 128 k _ (by omega)) 129 k _ (by omega), if_pos h9, hLet_n, ck, e50 _ (e50 _ (e50 _ z0 128 k _ (by omega)) 129 k _ (by omega)) 130 k _ (by omega), nI_1, hLet_n, gI_ss, hM2]
    · rw [g2 _ _ (by omega) (by omega), ← hM1, gI_ss]
    · rw [← hM2, gI_ss]
    · by_cases e : i = k
      · subst e
        rw [s1.1, s1.2.1, s1.2.2, s2.1, s2.2.1, s2.2.2]
        exact ⟨rfl, rfl, rfl, c1, c2, c3, c4.1, c4.2⟩
      · rw [gm 42 i (by omega) (by omega) (by omega) (by omega), gm 43 i (by omega) (by omega) (by omega) (by omega), gm 44 i (by omega) (by omega) (by omega) (by omega), gm 128 i (by omega) (by omega) (by omega) (by omega), gm 129 i (by omega) (by omega) (by omega) (by omega), gm 130 i (by omega) (by omega) (by omega) (by omega)]
        exact hpr.2.2.2.1 i (by omega)
    · rw [gm 128 i (by omega) (by omega) (by omega) (by omega), gm 129 i (by omega) (by omega) (by omega) (by omega)]
      by_cases e : j = k
      · subst e
        rw [s2.1, s2.2.1]
        exact ⟨fun z => c6 ⟨i, by omega, hij, Or.inl z⟩, fun z => c6 ⟨i, by omega, hij, Or.inr z⟩⟩
      · rw [gm 128 j (by omega) (by omega) (by omega) (by omega), gm 129 j (by omega) (by omega) (by omega) (by omega)]
        exact hpr.2.2.2.2 i j hij (by omega)
theorem rx_doneBits {fu : Nat} (hfu : 100 ≤ fu) {v m : hM} {S : Nat → Int32} {n c : Nat} (hp : pRng v n c) (h16 : gI m 96 16 = nI c) (hS : rS S m) : ∃ z, f_X11_doneBits fu m = some (z, m) ∧ ∀ i, i < 32 → bt z i = (decide (i < c) && decide (0 ≤ (S (35 + i)).toInt)) := by
  have hc := hp.1
  have key : ∀ (t k : Nat) (z : Int32), k ≤ c → c - k < t → (∀ i, i < 32 → bt z i = (decide (i < k) && decide (0 ≤ (S (35 + i)).toInt))) → ∃ z', f_X11_doneBits_4 fu t z (nI k) m = some (z', m) ∧ ∀ i, i < 32 → bt z' i = (decide (i < c) && decide (0 ≤ (S (35 + i)).toInt)) := by
    intro t
    induction t with
    | zero => intro k z h1 h2; omega
    | succ t ih =>
      intro k z hk ht hz
      rw [f_X11_doneBits_4_s]
      unfold s_X11_doneBits_4 f_X11_doneBits_28
      rw [h16]
      by_cases q : nI c ≤ nI k
      · rw [if_pos q]
        rw [nI_leI (by omega) (by omega)] at q
        have : k = c := by omega
        subst this
        exact ⟨z, rfl, hz⟩
      · rw [if_neg q]
        rw [nI_leI (by omega) (by omega)] at q
        rw [rx_isDone fu hS (show k < 8 by omega), hBd_some, hLet_n, hLet_n, hLet_n, hLet_n, nI_1]
        by_cases d : 0 ≤ (S (35 + k)).toInt
        · rw [if_pos d, if_neg (by decide)]
          refine ih (k + 1) _ (by omega) (by omega) (fun i hi => ?_)
          rw [b_set (by omega) hi, hz i hi]
          by_cases e : i = k
          · subst e; simp [d]
          · simp [e, show i < k + 1 ↔ i < k by omega]
        · rw [if_neg d, if_pos rfl, or_0]
          refine ih (k + 1) _ (by omega) (by omega) (fun i hi => ?_)
          rw [hz i hi]
          by_cases e : i = k
          · subst e; simp [d]
          · simp [show i < k + 1 ↔ i < k by omega]
  unfold f_X11_doneBits
  exact key fu 0 0 (by omega) (by omega) (fun i hi => by rw [b_0]; simp)
theorem ok_count {fu : Nat} (hfu : 100 ≤ fu) {m : hM} (h : IV m) (x1 : Int32) : okC (f_X10_count fu x1) (f_X11_count fu x1) m := by
  obtain ⟨n, c, k, t, h⟩ := h
  have hp := h.2.1.1
  have hst := h.2.2.2.2.1
  have hpr := h.2.2.2.2.2.2.2.1
  obtain ⟨xs, n1, n2, n3, _⟩ := h.2.2.2.2.2.2.1
  have hx := h.2.2.2.2.2.2.2.2.2.1
  have hS : rS (sFn m) (sI m 96 0 0) := fun j hj => by rw [gI_sn (by omega)]; rfl
  have g16 : gI (sI m 96 0 0) 96 16 = nI c := by rw [gI_sn (by omega)]; exact hp.2.1
  have key : ∃ r, f_X10_count fu x1 m = some (r, m) ∧ f_X11_count fu x1 m = some (r, sI m 96 0 0) := by
    unfold f_X10_count f_X11_count
    rw [hLet_n]
    by_cases c0 : x1 = 0
    · rw [if_pos c0, if_pos c0]; exact ⟨_, rfl, by rw [gI_sn (by omega), h.1.1.2.1, h.1.2.1]⟩
    rw [if_neg c0, if_neg c0]
    by_cases c1 : x1 = 1
    · rw [if_pos c1, if_pos c1]; exact ⟨_, rfl, by rw [g16, h.2.1.2.1.1]⟩
    rw [if_neg c1, if_neg c1]
    by_cases c2 : x1 = 2
    · rw [if_pos c2, if_pos c2]; exact ⟨_, rfl, by rw [gI_sn (by omega), hst.2.2.1]; rfl⟩
    rw [if_neg c2, if_neg c2]
    by_cases c3 : x1 = 3
    · rw [if_pos c3, if_pos c3]
      obtain ⟨z, z1, z2⟩ := rx_doneBits hfu hp g16 hS
      refine ⟨_, rfl, ?_⟩
      rw [z1, hBd_some]
      have : z = gI m 46 1 := b_ext (fun i hi => by
        rw [z2 i hi]
        by_cases e : i < c
        · rw [(hst.2.2.2.2.2.1 i e).2.2.2.2.2.2.2.2]; simp [e]
        · rw [(hst.2.2.2.2.2.2.2.1 i (by omega) hi).1]; simp [e])
      rw [this]
    rw [if_neg c3, if_neg c3]
    by_cases c4 : x1 = 4
    · rw [if_pos c4, if_pos c4]; exact ⟨_, rfl, by rw [gI_sn (by omega), hpr.2.1, hpr.2.2.1]⟩
    rw [if_neg c4, if_neg c4]
    by_cases c5 : x1 = 5
    · rw [if_pos c5, if_pos c5, cx_allHandings hfu (by decide) hst.2, hBd_some, show (51 : Int32) = nI 51 from rfl, rx_sumOf hfu hp (by omega) g16 hS, hBd_some]; exact ⟨_, rfl, rfl⟩
    rw [if_neg c5, if_neg c5]
    by_cases c6 : x1 = 6
    · rw [if_pos c6, if_pos c6, cx_allLost hfu (by decide) hst.2, hBd_some, show (59 : Int32) = nI 59 from rfl, rx_sumOf hfu hp (by omega) g16 hS, hBd_some]; exact ⟨_, rfl, rfl⟩
    rw [if_neg c6, if_neg c6]
    by_cases c7 : x1 = 7
    · rw [if_pos c7, if_pos c7]; exact ⟨_, rfl, by rw [gI_sn (by omega), hst.2.2.2.1]; rfl⟩
    rw [if_neg c7, if_neg c7]
    by_cases c8 : x1 = 8
    · rw [if_pos c8, if_pos c8]; exact ⟨_, rfl, by rw [gI_sn (by omega), n2, n3]⟩
    rw [if_neg c8, if_neg c8]
    by_cases c9 : x1 = 9
    · rw [if_pos c9, if_pos c9]; exact ⟨_, rfl, by rw [gI_sn (by omega), hx.2.1, hx.2.2.1]⟩
    rw [if_neg c9, if_neg c9]
    exact ⟨_, rfl, rfl⟩
  obtain ⟨r, a1, a2⟩ := key
  exact ⟨r, m, sI m 96 0 0, a1, a2, h.th rfl rfl⟩
