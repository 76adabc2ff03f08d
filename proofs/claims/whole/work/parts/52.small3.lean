/-! ===== keep, again, pair, count ===== -/
theorem rx_keep31 {fu : Nat} {i : Nat} (hi : i < 3) : ∀ (t k : Nat) (m : hM), k ≤ 127 → 127 - k < t → ∃ m', f_X11_keep_31 fu t (nI i) (nI k) m = some (1, m') ∧ (∀ j, k ≤ j → j < 127 → gI m' 134 (127 * i + j) = gI m 114 j) ∧ fr (fun a j => a = 134 ∧ 127 * i + k ≤ j ∧ j < 127 * i + 127) m m' := by
  intro t
  induction t with
  | zero => intro k m h1 h2; omega
  | succ t ih =>
    intro k m hk ht
    rw [f_X11_keep_31_s]
    unfold s_X11_keep_31
    by_cases q : nI 127 ≤ nI k
    · rw [if_pos (show (127 : Int32) ≤ nI k from q)]
      rw [nI_leI (by omega) (by omega)] at q
      exact ⟨m, rfl, fun j h1 h2 => by omega, fr.rf⟩
    · rw [if_neg (show ¬ (127 : Int32) ≤ nI k from q)]
      rw [nI_leI (by omega) (by omega)] at q
      have e : (127 : Int32) * nI i + nI k = nI (127 * i + k) := by rw [show (127 : Int32) = nI 127 from rfl, pk_mul, nI_add]
      rw [e, if_pos (hIn_lt (show k < 127 by omega) (by omega)), if_pos (hIn_lt (show 127 * i + k < 381 by omega) (by omega)), hLet_n, hLet_n, nI_1, nI_clamp (show k < 2 ^ 31 by omega), nI_clamp (show 127 * i + k < 2 ^ 31 by omega)]
      obtain ⟨m', r1, r2, r3⟩ := ih (k + 1) (sI m 134 (127 * i + k) (gI m 114 k)) (by omega) (by omega)
      refine ⟨m', r1, fun j h1 h2 => ?_, (fr.rf.si ⟨rfl, by omega, by omega⟩).tr (r3.mono (fun a j z => ⟨z.1, by omega, z.2.2⟩))⟩
      by_cases e2 : j = k
      · rw [e2, r3.1 _ _ (by omega), gI_ss]
      · rw [r2 j (by omega) h2, gI_sn (by omega)]
theorem rx_again34 {fu : Nat} {i : Nat} (hi : i < 3) : ∀ (t k : Nat) (m : hM), k ≤ 127 → 127 - k < t → ∃ m', f_X11_again_34 fu t (nI i) (nI k) m = some (1, m') ∧ (∀ j, k ≤ j → j < 127 → gI m' 114 j = gI m 134 (127 * i + j)) ∧ fr (fun a j => a = 114 ∧ k ≤ j ∧ j < 127) m m' := by
  intro t
  induction t with
  | zero => intro k m h1 h2; omega
  | succ t ih =>
    intro k m hk ht
    rw [f_X11_again_34_s]
    unfold s_X11_again_34
    by_cases q : nI 127 ≤ nI k
    · rw [if_pos (show (127 : Int32) ≤ nI k from q)]
      rw [nI_leI (by omega) (by omega)] at q
      exact ⟨m, rfl, fun j h1 h2 => by omega, fr.rf⟩
    · rw [if_neg (show ¬ (127 : Int32) ≤ nI k from q)]
      rw [nI_leI (by omega) (by omega)] at q
      have e : (127 : Int32) * nI i + nI k = nI (127 * i + k) := by rw [show (127 : Int32) = nI 127 from rfl, pk_mul, nI_add]
      rw [e, if_pos (hIn_lt (show 127 * i + k < 381 by omega) (by omega)), if_pos (hIn_lt (show k < 127 by omega) (by omega)), hLet_n, hLet_n, nI_1, nI_clamp (show k < 2 ^ 31 by omega), nI_clamp (show 127 * i + k < 2 ^ 31 by omega)]
      obtain ⟨m', r1, r2, r3⟩ := ih (k + 1) (sI m 114 k (gI m 134 (127 * i + k))) (by omega) (by omega)
      refine ⟨m', r1, fun j h1 h2 => ?_, (fr.rf.si ⟨rfl, by omega, by omega⟩).tr (r3.mono (fun a j z => ⟨z.1, by omega, z.2.2⟩))⟩
      by_cases e2 : j = k
      · rw [e2, r3.1 _ _ (by omega), gI_ss]
      · rw [r2 j (by omega) h2, gI_sn (by omega)]
theorem st_kept {i : Nat} (hi : i < 3) : 69 + 9 * i ∈ stL := by
  rcases (by omega : i = 0 ∨ i = 1 ∨ i = 2) with rfl | rfl | rfl <;> decide
theorem in3 (x : Int32) : ((0 : Int64).toInt ≤ x.toInt ∧ x.toInt ≤ (2 : Int64).toInt) ↔ hIn x 3 := by
  show (0 ≤ x.toInt ∧ x.toInt ≤ 2) ↔ (0 ≤ x.toInt ∧ x.toInt < 3)
  omega
theorem ok_keep {fu : Nat} (hfu : 200 ≤ fu) {m : hM} (h : IV m) (x1 : Int32) : okC (f_X10_keep fu x1) (f_X11_keep fu x1) m := by
  obtain ⟨n, c, k, t, h⟩ := h
  have hc := h.2.1.1.1
  have hst := h.2.2.2.2.1
  have e0 : (0 : Int32).toInt = 0 := rfl
  have e3 : (3 : Int32).toInt = 3 := rfl
  unfold okC f_X10_keep f_X11_keep
  by_cases q : hIn x1 3
  · obtain ⟨i, hi, rfl⟩ := hIn_of q (by omega)
    obtain ⟨m1, a1, a2, a3⟩ := cx_copyFrom fu (m := m) (st_kept hi) (show 46 ∈ stL by decide) (by omega)
    obtain ⟨kk, hk, hke⟩ := wr_num hst.1
    have R1 := a3 (sFn m) c hst.2 (by rw [hke, nI_clamp (show kk < 2 ^ 31 by omega)]; exact hk)
    have e18 : gI m1 18 6 = nI c := by rw [a2.1 _ _ (by omega)]; exact h.2.1.2.1.1
    have g1 : ∀ a j, ¬ (69 + 9 * i ≤ a ∧ a ≤ 69 + 9 * i + 8) → ¬ (a = 65 ∧ j = i) → gI (sI m1 65 i (nI c)) a j = gI m a j := fun a j z1 z2 => by rw [gI_sn z2, a2.1 a j z1]
    have g16 : gI (sI (sI m1 65 i (nI c)) 96 0 0) 96 16 = nI c := by rw [gI_sn (by omega), g1 _ _ (by omega) (by omega)]; exact h.2.1.1.2.1
    obtain ⟨m3, b1, b2, b3⟩ := rx_keep31 (fu := fu) hi fu 0 (sI (sI (sI m1 65 i (nI c)) 96 0 0) 133 i (nI c)) (by omega) (by omega)
    have b1' : f_X11_keep_31 fu fu (nI i) 0 (sI (sI (sI m1 65 i (nI c)) 96 0 0) 133 i (nI c)) = _ := b1
    have gm : ∀ a j, ¬ (69 + 9 * i ≤ a ∧ a ≤ 69 + 9 * i + 8) → ¬ (a = 65 ∧ j = i) → ¬ (a = 96 ∧ j = 0) → ¬ (a = 133 ∧ j = i) → ¬ (a = 134 ∧ 127 * i ≤ j ∧ j < 127 * i + 127) → gI m3 a j = gI m a j := fun a j z1 z2 z3 z4 z5 => by rw [b3.1 a j (by omega), gI_sn z4, gI_sn z3, g1 a j z1 z2]
    have gc : ∀ a j, a ≤ 95 → gI m3 a j = gI (sI m1 65 i (nI c)) a j := fun a j z => by rw [b3.1 a j (by omega), gI_sn (by omega), gI_sn (by omega)]
    have l1 : ∀ a j, gL m3 a j = gL m a j := fun a j => by rw [b3.2.1]; exact a2.2.1 a j
    have r1 : ∀ a j, gR m3 a j = gR m a j := fun a j => by rw [b3.2.2]; exact a2.2.2 a j
    refine ⟨1, sI m1 65 i (nI c), m3, ?_, ?_, n, c, k, t, h.gen (fun a j z1 z2 => gm a j (by unfold rI at z1; omega) (by unfold rI at z1; omega) (by unfold rI at z1; omega) (by omega) (by omega)) (fun j => l1 _ _) (fun j => r1 _ _) (fun a j z1 z2 => gm a j (by omega) (by omega) (by unfold cI at z1; omega) (by unfold cI at z1; omega) (by unfold cI at z1; omega)) (fun j => l1 _ _) (prR_cg h.2.2.2.2.2.2.2.1 (Nat.le_refl n) (gm _ _ (by omega) (by omega) (by omega) (by omega) (by omega)) (gm _ _ (by omega) (by omega) (by omega) (by omega) (by omega)) (fun a j z1 z2 => gm _ _ (by omega) (by omega) (by omega) (by omega) (by omega)) (fun a j z1 z2 => gm _ _ (by omega) (by omega) (by omega) (by omega) (by omega))) (fun i' hi' => ?_) (txR_cg h.2.2.2.2.2.2.2.2.2.1 (gm _ _ (by omega) (by omega) (by omega) (by omega) (by omega)) (fun j => gm _ _ (by omega) (by omega) (by omega) (by omega) (by omega)) (gm _ _ (by omega) (by omega) (by omega) (by omega) (by omega)) (fun j => gm _ _ (by omega) (by omega) (by omega) (by omega) (by omega)))⟩
    · rw [if_neg (nI_pos (by omega)), if_pos (show nI i < 3 from nI_lt (b := 3) hi (by omega)), if_pos q, nI_clamp (show i < 2 ^ 31 by omega), a1, hBd_some, if_pos q, e18, hLet_n]
    · rw [hLet_n, rx_inI, hBd_some, if_pos ((in3 _).mpr q), if_pos (by decide), if_pos q, g16, hLet_n, nI_clamp (show i < 2 ^ 31 by omega)]
      exact b1'
    · by_cases e : i' = i
      · subst e
        have k1 : gI m3 133 i' = nI c := by rw [b3.1 _ _ (by omega), gI_ss]
        have kf : ∀ j, j < 127 → kFn m3 i' j = sFn m j := fun j hj => by
          show gI m3 134 (127 * i' + j) = gI m 114 j
          rw [b2 j (by omega) hj, gI_sn (by omega), gI_sn (by omega), g1 _ _ (by omega) (by omega)]
        refine ⟨?_, Or.inr ⟨c, Nat.le_refl c, k1, ?_, ?_⟩⟩
        · rw [k1, gc _ _ (by omega), gI_ss]
        · exact sInv_cg hc hst.1 (fun j hj => kf j (by omega)) (fun p hp => gm _ _ (by omega) (by omega) (by omega) (by omega) (by omega))
        · refine sRel_cg (sRel_fr R1 (fun a j z1 z2 => by rw [gc a j (by omega), gI_sn (by omega)])) (fun j hj => kf j ?_)
          rw [hke, nI_clamp (show kk < 2 ^ 31 by omega)] at hj; omega
      · obtain ⟨p1, p2⟩ := h.2.2.2.2.2.2.2.2.1 i' hi'
        have k3 : gI m3 133 i' = gI m 133 i' := gm _ _ (by omega) (by omega) (by omega) (by omega) (by omega)
        refine ⟨by rw [k3, gm _ _ (by omega) (by omega) (by omega) (by omega) (by omega)]; exact p1, ?_⟩
        rw [k3]
        rcases p2 with z | ⟨ci, z1, z2, z3, z4⟩
        · exact Or.inl z
        · have kf : ∀ j, j < 127 → kFn m3 i' j = kFn m i' j := fun j hj => by
            show gI m3 134 (127 * i' + j) = gI m 134 (127 * i' + j)
            exact gm _ _ (by omega) (by omega) (by omega) (by omega) (by omega)
          obtain ⟨k2, hk2, hke2⟩ := wr_num z3
          refine Or.inr ⟨ci, z1, z2, sInv_cg (by omega) z3 (fun j hj => kf j (by omega)) (fun p hp => gm _ _ (by omega) (by omega) (by omega) (by omega) (by omega)), sRel_cg (sRel_fr z4 (fun a j y1 y2 => gm _ _ (by omega) (by omega) (by omega) (by omega) (by omega))) (fun j hj => kf j ?_)⟩
          rw [hke2, nI_clamp (show k2 < 2 ^ 31 by omega)] at hj; omega
  · refine ⟨0, m, sI m 96 0 0, ?_, ?_, h.th rfl rfl⟩
    · by_cases c1 : x1 < 0
      · rw [if_pos c1]
      · rw [if_neg c1, if_neg (fun z => q ⟨by rw [i_lt, e0] at c1; omega, by rw [i_lt, e3] at z; exact z⟩)]
    · rw [hLet_n, rx_inI, hBd_some, if_neg (fun z => q ((in3 _).mp z)), if_neg (by decide)]
theorem ok_again {fu : Nat} (hfu : 200 ≤ fu) {m : hM} (h : IV m) (x1 : Int32) : okC (f_X10_again fu x1) (f_X11_again fu x1) m := by
  obtain ⟨n, c, k, t, h⟩ := h
  have hc := h.2.1.1.1
  have e0 : (0 : Int32).toInt = 0 := rfl
  have e3 : (3 : Int32).toInt = 3 := rfl
  unfold okC f_X10_again f_X11_again
  by_cases q : hIn x1 3
  rotate_left
  · refine ⟨0, m, sI m 96 0 0, ?_, ?_, h.th rfl rfl⟩
    · by_cases c1 : x1 < 0
      · rw [if_pos c1]
      · rw [if_neg c1, if_pos (by
          rw [i_lt, e0] at c1; rw [i_le, e3]
          rcases Int.lt_or_le x1.toInt 3 with z | z
          · exact absurd ⟨by omega, z⟩ q
          · exact z)]
    · rw [hLet_n, rx_inI, hBd_some, if_neg (fun z => q ((in3 _).mp z)), if_pos rfl]
  obtain ⟨i, hi, rfl⟩ := hIn_of q (by omega)
  obtain ⟨p1, p2⟩ := h.2.2.2.2.2.2.2.2.1 i hi
  have ci : (nI i).toNatClampNeg = i := nI_clamp (by omega)
  have g16 : ∀ M : hM, (∀ a j, 96 ≤ a → gI M a j = gI m a j) → gI (sI M 96 0 0) 96 16 = nI c := fun M z => by rw [gI_sn (by omega), z _ _ (by omega)]; exact h.2.1.1.2.1
  have g133 : ∀ M : hM, (∀ a j, 96 ≤ a → gI M a j = gI m a j) → gI (sI M 96 0 0) 133 i = gI m 133 i := fun M z => by rw [gI_sn (by omega), z _ _ (by omega)]
  by_cases e : gI m 133 i = nI c
  rotate_left
  · refine ⟨0, m, sI m 96 0 0, ?_, ?_, h.th rfl rfl⟩
    · rw [if_neg (nI_pos (by omega)), if_neg (show ¬ (3 : Int32) ≤ nI i from nI_ge (b := 3) hi (by omega)), if_pos q, ci, p1, h.2.1.2.1.1, if_neg e]
    · rw [hLet_n, rx_inI, hBd_some, if_pos ((in3 _).mpr q), if_neg (by decide), if_pos q, ci, g133 m (fun _ _ _ => rfl), g16 m (fun _ _ _ => rfl), if_neg e]
  have p3 : ∃ ci, ci = c ∧ sInv m (kFn m i) n ci ∧ sRel (kFn m i) m (69 + 9 * i) ci := by
    rcases p2 with z | ⟨ci', z1, z2, z3, z4⟩
    · rw [e] at z
      exact absurd z (by rw [i_eq, nI_toInt (by omega)]; show ¬ (c : Int) = -1; omega)
    · exact ⟨ci', (nI_eq (by omega) (by omega)).mp (z2.symm.trans e), z3, z4⟩
  obtain ⟨_, rfl, z3, z4⟩ := p3
  obtain ⟨kk, hk, hke⟩ := wr_num z3
  obtain ⟨m1, a1, a2, a3⟩ := cx_copyFrom fu (m := m) (show 46 ∈ stL by decide) (st_kept hi) (by omega)
  have R1 := a3 _ _ z4 (by rw [hke, nI_clamp (show kk < 2 ^ 31 by omega)]; exact hk)
  have f1 : fr (PC 46) m m1 := a2.mono (fun a j z => Or.inl z)
  have k1 := PC_hi (by decide) f1
  obtain ⟨m3, b1, b2, b3⟩ := rx_again34 (fu := fu) hi fu 0 (sI m1 96 0 0) (by omega) (by omega)
  have b1' : f_X11_again_34 fu fu (nI i) 0 (sI m1 96 0 0) = _ := b1
  refine ⟨1, m1, m3, ?_, ?_, h.sc z3 f1 R1 (P := fun a j => (a = 114 ∧ j < 127) ∨ (a = 96 ∧ j = 0)) ((fr.rf.si (Or.inr ⟨rfl, rfl⟩)).tr (b3.mono (fun a j z => Or.inl ⟨z.1, z.2.2⟩))) (fun a j z => ⟨by omega, fun y => by unfold rI at y; omega⟩) (fun j hj => ?_)⟩
  · rw [if_neg (nI_pos (by omega)), if_neg (show ¬ (3 : Int32) ≤ nI i from nI_ge (b := 3) hi (by omega)), if_pos q, ci, p1, h.2.1.2.1.1, if_pos e, if_pos q, a1, hBd_some]
  · rw [hLet_n, rx_inI, hBd_some, if_pos ((in3 _).mpr q), if_neg (by decide), if_pos q, ci, g133 m1 k1, g16 m1 k1, if_pos e]
    exact b1'
  · rw [b2 j (by omega) hj, gI_sn (by omega), k1 _ _ (by omega)]; rfl
