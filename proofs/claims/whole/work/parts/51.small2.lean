/-! ===== end, sign, keep, again, pair ===== -/
theorem IW.gen {v v' m m' : hM} {n c k t k' t' : Nat} (h : IW v m n c k t) (g : ∀ a j, rI a j → ¬ (a = 119 ∨ (a = 96 ∧ (j = 29 ∨ j = 50)) ∨ (128 ≤ a ∧ a ≤ 130) ∨ a = 133 ∨ a = 134) → gI v' a j = gI v a j) (gl : ∀ j, gL v' 97 j = gL v 97 j) (gr : ∀ j, gR v' 96 j = gR v 96 j) (f : ∀ a j, cI a j ∨ (55 ≤ a ∧ a ≤ 63) → ¬ (a = 68 ∨ (a = 0 ∧ j = 13) ∨ (41 ≤ a ∧ a ≤ 44) ∨ a = 65 ∨ (69 ≤ a ∧ a ≤ 95)) → gI m' a j = gI m a j) (fl : ∀ j, gL m' 67 j = gL m 67 j) (hp : prR v' m' n k') (hk : ∀ i, i < 3 → kpR v' m' n c i) (ht : txR v' m' t') : IW v' m' n c k' t' := by
  obtain ⟨h1, h2, h3, h4, h5, h6, h7, h8, h9, h10, h11⟩ := h
  have hc := h2.1.1
  exact ⟨erR_cg h1 (fun a j z => g _ _ (by unfold erV at z; unfold rI; omega) (by unfold erV at z; omega)) (fun a j z1 z2 => f _ _ (by unfold cI; omega) (by omega)), pcR_cg h2 (fun a j z => g _ _ (by unfold rI; omega) (by omega)) (fun a j z1 z2 => f _ _ (by unfold cI; omega) (by omega)), flR_cg h3 (g _ _ (by unfold rI; omega) (by omega)) (f _ _ (by unfold cI; omega) (by omega)) (f _ _ (by unfold cI; omega) (by omega)), rlR_cg h4 (fun a j z => g _ _ (by unfold rI; omega) (by omega)) (f _ _ (by unfold cI; omega) (by omega)) (fun j => f _ _ (by unfold cI; omega) (by omega)), stR_cg hc h5 (fun j hj => g _ _ (by unfold rI; omega) (by omega)) (fun p hp => g _ _ (by unfold rI; omega) (by omega)) (fun a j z1 z2 => f _ _ (by unfold cI; omega) (by omega)), jk_cg h6 (fun a j z1 z2 => f _ _ (by omega) (by omega)), nRel_cg h7 (f _ _ (by unfold cI; omega) (by omega)) (g _ _ (by unfold rI; omega) (by omega)) fl gl, hp, hk, ht, rfOk_cg h11 gr⟩
theorem ok_end {fu : Nat} {m : hM} (h : IV m) (x1 : Int32) : okC (f_X10_end fu x1) (f_X11_end fu x1) m := by
  obtain ⟨n, c, k, t, h⟩ := h
  have hc := h.2.1.1.1
  have hx := h.2.2.2.2.2.2.2.2.2.1
  have ht := hx.1
  have e0 : (0 : Int32).toInt = 0 := rfl
  unfold okC f_X10_end f_X11_end
  have g29 : ∀ M : hM, (∀ a j, 96 ≤ a → gI M a j = gI m a j) → gI (sI M 96 0 0) 96 29 = nI t := fun M z => by rw [gI_sn (by omega), z _ _ (by omega)]; exact hx.2.2.1
  by_cases q : 0 ≤ x1.toInt ∧ x1.toInt ≤ t
  · obtain ⟨x, hxx, rfl⟩ := nI_of (x := x1) (by rw [i_lt, e0]; omega)
    rw [nI_toInt hxx] at q
    have k1 : ∀ a j, 96 ≤ a → gI (sI m 0 13 (nI x)) a j = gI m a j := fun a j z => gI_sn (by omega)
    refine ⟨1, sI m 0 13 (nI x), sI (sI (sI m 0 13 (nI x)) 96 0 0) 96 29 (nI x), ?_, ?_, n, c, k, x, ?_⟩
    · rw [if_neg (nI_pos hxx), hx.2.1, if_pos (nI_le (by omega) (by omega)), hLet_n]
    · rw [hLet_n, g29 _ k1, rx_inI, hBd_some, Int32.toInt_toInt64, if_pos (show (0 : Int64).toInt ≤ (nI x).toInt ∧ (nI x).toInt ≤ (nI t).toInt by rw [nI_toInt hxx, nI_toInt (by omega)]; exact ⟨q.1, by omega⟩), if_pos (by decide), hLet_n]
    · refine h.gen (fun a j z1 z2 => ?_) (fun _ => rfl) (fun _ => rfl) (fun a j z1 z2 => ?_) (fun _ => rfl) (prR_cg h.2.2.2.2.2.2.2.1 (Nat.le_refl n) ?_ ?_ (fun a j z1 z2 => ?_) (fun a j z1 z2 => ?_)) (fun i hi => kpR_cg hc (h.2.2.2.2.2.2.2.2.1 i hi) hi (Nat.le_refl n) (Nat.le_refl c) ?_ ?_ (fun j => ?_) (fun a j z1 z2 => ?_) (fun p hp => ?_)) ⟨by omega, ?_, gI_ss _ _ _ _, fun j hj => ?_⟩
      · rw [gI_sn (by omega), gI_sn (by unfold rI at z1; omega), gI_sn (by unfold rI at z1; omega)]
      · rw [gI_sn (by unfold cI at z1; omega), gI_sn (by unfold cI at z1; omega), gI_sn (by omega)]
      · simp (disch := omega) only [gI_sn]
      · simp (disch := omega) only [gI_sn]
      · simp (disch := omega) only [gI_sn]
      · simp (disch := omega) only [gI_sn]
      · simp (disch := omega) only [gI_sn]
      · simp (disch := omega) only [gI_sn]
      · simp (disch := omega) only [gI_sn]
      · simp (disch := omega) only [gI_sn]
      · simp (disch := omega) only [gI_sn]
      · simp (disch := omega) only [gI_sn, gI_ss]
      · simp (disch := omega) only [gI_sn]; exact hx.2.2.2 j (by omega)
  · refine ⟨0, m, sI m 96 0 0, ?_, ?_, h.th rfl rfl⟩
    · by_cases c1 : x1 < 0
      · rw [if_pos c1]
      · rw [if_neg c1, hx.2.1, if_neg (by rw [i_lt, e0] at c1; rw [i_le, nI_toInt (by omega)]; omega)]
    · rw [hLet_n, g29 m (fun _ _ _ => rfl), rx_inI, hBd_some, Int32.toInt_toInt64, if_neg (show ¬ ((0 : Int64).toInt ≤ x1.toInt ∧ x1.toInt ≤ (nI t).toInt) by rw [nI_toInt (by omega)]; exact q), if_neg (by decide)]
/-- a sign of the four -/
def sgn (x : Int32) (k : Nat) : Int32 := (x >>> (nI (24 - 8 * k) &&& 31)) &&& 255
theorem sgn_b {x : Int32} {k i : Nat} (hk : k < 4) (hi : i < 32) : bt (sgn x k) i = (decide (i < 8) && bt x (24 - 8 * k + i)) := by
  unfold sgn
  rw [b_and, b_sshr _ (by omega) x hi, b_255]
  by_cases h : i < 8
  · rw [if_pos (by omega)]; simp [h]
  · simp [h]
theorem sgn_n (x : Int32) {k : Nat} (hk : k < 4) : ∃ q, q < 256 ∧ sgn x k = nI q := by
  obtain ⟨q, hq, e⟩ := nI_of24 (x := sgn x k) (fun i h1 h2 => by rw [sgn_b hk h2]; simp [show ¬ i < 8 by omega])
  refine ⟨q, ?_, e⟩
  rcases Nat.lt_or_ge q 256 with h | h
  · exact h
  · exfalso
    obtain ⟨i, hi1, hi2⟩ : ∃ i, 8 ≤ i ∧ q.testBit i = true := Nat.exists_ge_and_testBit_of_ge_two_pow (n := 8) h
    have hi32 : i < 32 := by
      rcases Nat.lt_or_ge i 32 with z | z
      · exact z
      · rw [Nat.testBit_lt_two_pow (Nat.lt_of_lt_of_le hq (Nat.pow_le_pow_right (n := 2) (by omega) (show 24 ≤ i by omega)))] at hi2
        cases hi2
    have := sgn_b (x := x) hk hi32
    rw [e, bt_nI _ _ hi32, hi2] at this
    simp [show ¬ i < 8 by omega] at this
theorem sgn_c (x : Int32) {k : Nat} (hk : k < 4) : vp_nar .char ((Int32.toUInt32 (((Int32.toUInt32 x >>> (Int32.toUInt32 (nI (24 - 8 * k)) &&& Int32.toUInt32 31)).toInt32) &&& 255) % 65536).toInt32) = sgn x k := by
  have e : ((Int32.toUInt32 x >>> (Int32.toUInt32 (nI (24 - 8 * k)) &&& Int32.toUInt32 31)).toInt32) &&& 255 = sgn x k := by
    apply b_ext
    intro i hi
    rw [sgn_b hk hi, b_and, b_ushr _ (by omega), b_255, Bool.and_comm]
  obtain ⟨q, hq, hqe⟩ := sgn_n x hk
  rw [e, pk_vc, pk_char, hqe, pk_tn (by omega), Nat.mod_eq_of_lt (by omega)]
theorem cx_sign4 {fu : Nat} (hfu : 100 ≤ fu) {m : hM} {t : Nat} (ht : t + 4 ≤ 60) (h : gI m 0 13 = nI t) (x : Int32) : f_X10_sign fu x m = some (nI (t + 4), sI (sI (sI (sI (sI (sI (sI (sI m 68 t (sgn x 0)) 0 13 (nI (t + 1))) 68 (t + 1) (sgn x 1)) 0 13 (nI (t + 2))) 68 (t + 2) (sgn x 2)) 0 13 (nI (t + 3))) 68 (t + 3) (sgn x 3)) 0 13 (nI (t + 4))) := by
  obtain ⟨f, rfl⟩ : ∃ f, fu = f + 5 := ⟨fu - 5, by omega⟩
  have step : ∀ (fu f k : Nat) (M : hM) (s : Nat), k < 4 → s < 60 → gI M 0 13 = nI s → f_X10_sign_16 fu (f + 1) x (nI (24 - 8 * k)) M = f_X10_sign_16 fu f x (nI (24 - 8 * k) + (-8)) (sI (sI M 68 s (sgn x k)) 0 13 (nI (s + 1))) := by
    intro fu f k M s hk hs hM'
    rw [f_X10_sign_16_s]
    unfold s_X10_sign_16
    rw [if_neg (nI_pos (by omega)), hM', if_pos (hIn_lt hs (by omega)), nI_clamp (show s < 2 ^ 31 by omega), sgn_c x hk, hLet_n, gI_sn (by omega), hM', nI_1, hLet_n, hLet_n]
  have e8 : ∀ k, k < 3 → nI (24 - 8 * k) + (-8) = nI (24 - 8 * (k + 1)) := by decide
  unfold f_X10_sign
  rw [h, show nI t + 4 = nI (t + 4) from nI_add t 4, if_pos (show nI (t + 4) ≤ 60 from nI_le (b := 60) ht (by omega))]
  show f_X10_sign_16 (f + 5) (f + 4 + 1) x (nI (24 - 8 * 0)) m = _
  rw [step (f + 5) (f + 4) 0 m t (by omega) (by omega) h, e8 0 (by omega)]
  show f_X10_sign_16 (f + 5) (f + 3 + 1) x (nI (24 - 8 * 1)) _ = _
  rw [step (f + 5) (f + 3) 1 _ (t + 1) (by omega) (by omega) (gI_ss _ _ _ _), e8 1 (by omega)]
  show f_X10_sign_16 (f + 5) (f + 2 + 1) x (nI (24 - 8 * 2)) _ = _
  rw [step (f + 5) (f + 2) 2 _ (t + 2) (by omega) (by omega) (gI_ss _ _ _ _), e8 2 (by omega)]
  show f_X10_sign_16 (f + 5) (f + 1 + 1) x (nI (24 - 8 * 3)) _ = _
  rw [step (f + 5) (f + 1) 3 _ (t + 3) (by omega) (by omega) (gI_ss _ _ _ _), f_X10_sign_16_s]
  unfold s_X10_sign_16
  rw [if_pos (by decide), gI_ss]
theorem rx_sign4 {fu : Nat} (hfu : 100 ≤ fu) {m : hM} {t : Nat} (ht : t + 4 ≤ 60) (h : gI m 96 29 = nI t) (x : Int32) : f_X11_sign fu x m = some (nI (t + 4), sI (sI (sI (sI (sI (sI m 96 0 0) 119 t (sgn x 0)) 119 (t + 1) (sgn x 1)) 119 (t + 2) (sgn x 2)) 119 (t + 3) (sgn x 3)) 96 29 (nI (t + 4))) := by
  obtain ⟨f, rfl⟩ : ∃ f, fu = f + 5 := ⟨fu - 5, by omega⟩
  have e24 : ∀ k, k < 4 → (24 : Int32) - 8 * nI k = nI (24 - 8 * k) := by decide
  have step : ∀ (fu f k : Nat) (M : hM), k < 4 → gI M 96 29 = nI t → f_X11_sign_18 fu (f + 1) x (nI k) M = f_X11_sign_18 fu f x (nI (k + 1)) (sI M 119 (t + k) (sgn x k)) := by
    intro fu f k M hk hM'
    rw [f_X11_sign_18_s]
    unfold s_X11_sign_18
    rw [if_neg (show ¬ (4 : Int32) ≤ nI k from nI_ge (b := 4) hk (by omega)), hM', nI_add, if_pos (hIn_lt (show t + k < 60 by omega) (by omega)), nI_clamp (show t + k < 2 ^ 31 by omega), e24 k hk, hLet_n, hLet_n, nI_1]
    rfl
  have g0 : gI (sI m 96 0 0) 96 29 = nI t := by rw [gI_sn (by omega)]; exact h
  unfold f_X11_sign
  rw [hLet_n, g0, if_pos (show nI t ≤ 56 from nI_le (b := 56) (by omega) (by omega))]
  show f_X11_sign_18 (f + 5) (f + 4 + 1) x (nI 0) _ = _
  rw [step (f + 5) (f + 4) 0 _ (by omega) g0]
  show f_X11_sign_18 (f + 5) (f + 3 + 1) x (nI 1) _ = _
  rw [step (f + 5) (f + 3) 1 _ (by omega) (by rw [gI_sn (by omega)]; exact g0)]
  show f_X11_sign_18 (f + 5) (f + 2 + 1) x (nI 2) _ = _
  rw [step (f + 5) (f + 2) 2 _ (by omega) (by rw [gI_sn (by omega), gI_sn (by omega)]; exact g0)]
  show f_X11_sign_18 (f + 5) (f + 1 + 1) x (nI 3) _ = _
  rw [step (f + 5) (f + 1) 3 _ (by omega) (by rw [gI_sn (by omega), gI_sn (by omega), gI_sn (by omega)]; exact g0), f_X11_sign_18_s]
  unfold s_X11_sign_18 f_X11_sign_53
  rw [if_pos (by decide), hLet_n, gI_ss, gI_sn (by omega), gI_sn (by omega), gI_sn (by omega), gI_sn (by omega), g0, show nI t + 4 = nI (t + 4) from nI_add t 4]
  rfl
theorem ok_sign {fu : Nat} (hfu : 100 ≤ fu) {m : hM} (h : IV m) (x : Int32) : okC (f_X10_sign fu x) (f_X11_sign fu x) m := by
  obtain ⟨n, c, k, t, h⟩ := h
  have hc := h.2.1.1.1
  have hx := h.2.2.2.2.2.2.2.2.2.1
  have ht := hx.1
  by_cases q : t + 4 ≤ 60
  · have A := cx_sign4 hfu q hx.2.1 x
    generalize hM1 : sI (sI (sI (sI (sI (sI (sI (sI m 68 t (sgn x 0)) 0 13 (nI (t + 1))) 68 (t + 1) (sgn x 1)) 0 13 (nI (t + 2))) 68 (t + 2) (sgn x 2)) 0 13 (nI (t + 3))) 68 (t + 3) (sgn x 3)) 0 13 (nI (t + 4)) = m1 at A
    have g1 : ∀ a j, ¬ (a = 68 ∧ t ≤ j ∧ j ≤ t + 3) → ¬ (a = 0 ∧ j = 13) → gI m1 a j = gI m a j := fun a j z1 z2 => by
      rw [← hM1]; simp (disch := omega) only [gI_sn]
    have B := rx_sign4 (m := m1) hfu q (by rw [g1 _ _ (by omega) (by omega)]; exact hx.2.2.1) x
    generalize hM2 : sI (sI (sI (sI (sI (sI m1 96 0 0) 119 t (sgn x 0)) 119 (t + 1) (sgn x 1)) 119 (t + 2) (sgn x 2)) 119 (t + 3) (sgn x 3)) 96 29 (nI (t + 4)) = m2 at B
    have g2 : ∀ a j, ¬ (a = 119 ∧ t ≤ j ∧ j ≤ t + 3) → ¬ (a = 96 ∧ (j = 0 ∨ j = 29)) → gI m2 a j = gI m1 a j := fun a j z1 z2 => by
      rw [← hM2]; simp (disch := omega) only [gI_sn]
    have l1 : ∀ a j, gL m2 a j = gL m a j := fun a j => by rw [← hM2, ← hM1]; rfl
    have r1 : ∀ a j, gR m2 a j = gR m a j := fun a j => by rw [← hM2, ← hM1]; rfl
    have s1 : ∀ i, i < 4 → gI m1 68 (t + i) = sgn x i := fun i hi => by
      rw [← hM1]
      rcases (by omega : i = 0 ∨ i = 1 ∨ i = 2 ∨ i = 3) with rfl | rfl | rfl | rfl <;> simp (disch := omega) only [gI_ss, gI_sn, Nat.add_zero]
    have s2 : ∀ i, i < 4 → gI m2 119 (t + i) = sgn x i := fun i hi => by
      rw [← hM2]
      rcases (by omega : i = 0 ∨ i = 1 ∨ i = 2 ∨ i = 3) with rfl | rfl | rfl | rfl <;> simp (disch := omega) only [gI_ss, gI_sn, Nat.add_zero]
    have gm : ∀ a j, ¬ (a = 68 ∧ t ≤ j ∧ j ≤ t + 3) → ¬ (a = 0 ∧ j = 13) → ¬ (a = 119 ∧ t ≤ j ∧ j ≤ t + 3) → ¬ (a = 96 ∧ (j = 0 ∨ j = 29)) → gI m2 a j = gI m a j := fun a j z1 z2 z3 z4 => by rw [g2 a j z3 z4, g1 a j z1 z2]
    refine ⟨_, m1, m2, A, B, n, c, k, t + 4, h.gen (fun a j z1 z2 => gm a j (by unfold rI at z1; omega) (by unfold rI at z1; omega) (by omega) (by unfold rI at z1; omega)) (fun j => l1 _ _) (fun j => r1 _ _) (fun a j z1 z2 => gm a j (by omega) (by omega) (by unfold cI at z1; omega) (by unfold cI at z1; omega)) (fun j => l1 _ _) (prR_cg h.2.2.2.2.2.2.2.1 (Nat.le_refl n) (gm _ _ (by omega) (by omega) (by omega) (by omega)) (gm _ _ (by omega) (by omega) (by omega) (by omega)) (fun a j z1 z2 => gm _ _ (by omega) (by omega) (by omega) (by omega)) (fun a j z1 z2 => gm _ _ (by omega) (by omega) (by omega) (by omega))) (fun i hi => kpR_cg hc (h.2.2.2.2.2.2.2.2.1 i hi) hi (Nat.le_refl n) (Nat.le_refl c) (gm _ _ (by omega) (by omega) (by omega) (by omega)) (gm _ _ (by omega) (by omega) (by omega) (by omega)) (fun j => gm _ _ (by omega) (by omega) (by omega) (by omega)) (fun a j z1 z2 => gm _ _ (by omega) (by omega) (by omega) (by omega)) (fun p hp => gm _ _ (by omega) (by omega) (by omega) (by omega))) ⟨q, ?_, ?_, fun j hj => ?_⟩⟩
    · rw [g2 _ _ (by omega) (by omega), ← hM1, gI_ss]
    · rw [← hM2, gI_ss]
    · by_cases e : j < t
      · rw [gm _ _ (by omega) (by omega) (by omega) (by omega), gm _ _ (by omega) (by omega) (by omega) (by omega)]; exact hx.2.2.2 j e
      · obtain ⟨i, rfl⟩ : ∃ i, j = t + i := ⟨j - t, by omega⟩
        rw [g2 68 _ (by omega) (by omega), s1 i (by omega), s2 i (by omega)]
        obtain ⟨w, hw, hwe⟩ := sgn_n x (show i < 4 by omega)
        rw [hwe]; exact ⟨rfl, hIn_lt hw (by omega)⟩
  · refine ⟨-1, m, sI m 96 0 0, ?_, ?_, h.th rfl rfl⟩
    · unfold f_X10_sign
      rw [hx.2.1, show nI t + 4 = nI (t + 4) from nI_add t 4, if_neg (show ¬ nI (t + 4) ≤ 60 from nI_ge (a := 60) (by omega) (by omega))]
    · unfold f_X11_sign
      rw [hLet_n, gI_sn (by omega), hx.2.2.1, if_neg (show ¬ nI t ≤ 56 from nI_ge (a := 56) (by omega) (by omega))]
