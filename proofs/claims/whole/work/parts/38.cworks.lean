/-! ===== an hour's work: the class ===== -/
theorem fill_loop (fu : Nat) {n0 a0 : Nat} (x : Int32) (hn : n0 < 2 ^ 31) : ∀ (t k : Nat) (m : hM), k ≤ n0 → n0 - k < t →
    ∃ m', f_J7_fill_53178_5 fu t n0 a0 x (nI k) (nI n0) m = some ((), m') ∧ (∀ j, k ≤ j → j < n0 → gI m' a0 j = x) ∧ fr (fun a j => a = a0 ∧ k ≤ j ∧ j < n0) m m' := by
  intro t
  induction t with
  | zero => intro k m h1 h2; omega
  | succ t ih =>
    intro k m hk ht
    rw [f_J7_fill_53178_5_s]
    unfold s_J7_fill_53178_5
    by_cases q : nI n0 ≤ nI k
    · rw [if_pos q]
      rw [nI_leI hn (by omega)] at q
      exact ⟨m, rfl, fun j h1 h2 => by omega, fr.rf⟩
    · rw [if_neg q]
      rw [nI_leI hn (by omega)] at q
      rw [if_pos (hIn_lt (show k < n0 by omega) (by omega)), hLet_n, hLet_n, nI_1, nI_clamp (show k < 2 ^ 31 by omega)]
      obtain ⟨m', r1, r2, r3⟩ := ih (k + 1) (sI m a0 k x) (by omega) (by omega)
      refine ⟨m', r1, fun j h1 h2 => ?_, (fr.rf.si ⟨rfl, by omega, by omega⟩).tr (r3.mono (fun a j z => ⟨z.1, by omega, z.2.2⟩))⟩
      by_cases e : j = k
      · rw [e, r3.1 _ _ (by omega), gI_ss]
      · exact r2 j (by omega) h2
theorem cx_fill {fu n0 a0 : Nat} (x : Int32) (hn : n0 < fu) (hn2 : n0 < 2 ^ 31) (hl : hAr LY[a0]? 0 n0 = true) (m : hM) :
    ∃ m', f_J7_fill_53178 fu a0 n0 x m = some ((), m') ∧ (∀ j, j < n0 → gI m' a0 j = x) ∧ fr (fun a j => a = a0 ∧ j < n0) m m' := by
  unfold f_J7_fill_53178
  rw [if_pos hl, hLet_n]
  obtain ⟨m', r1, r2, r3⟩ := fill_loop fu (a0 := a0) x hn2 fu 0 m (by omega) (by omega)
  exact ⟨m', r1, fun j hj => r2 j (by omega) hj, r3.mono (fun a j z => ⟨z.1, z.2.2⟩)⟩
theorem cx_workOn (fu : Nat) {v m : hM} {n c s : Nat} (hs : s ∈ stL) (he : cEnv v m n c) {S H : Nat → Int32} {W : Int32} {h p o : Nat} (hpc : p < c) (ho : o < n) (hh : h < 2400) (h0 : S 0 = nI h) (h3 : S (3 + p) = nI o)
    (hR : sRel S m s c) (hH : ∀ o, o < n → gI m 33 o = H o) (hW : gI m 32 5 = W) :
    ∃ m', f_X8_workOn fu s (nI p) m = some ((), m') ∧ sRel (wkS v h p o S) m' s c ∧ (∀ o', o' < n → gI m' 33 o' = up H o (H o + 1) o') ∧ gI m' 32 5 = W ||| bit1 p ∧ fr (PC s) m m' := by
  obtain ⟨hv, hee, hr, hpr, hro, hfl⟩ := he
  have hn := hv.1
  have hc := hr.1
  have hsr := st_rng hs
  have h8 : hIn (nI p) 8 := hIn_lt (show p < 8 by omega) (by omega)
  have h6 : hIn (nI o) 6 := hIn_lt (show o < 6 by omega) (by omega)
  have co : (nI o).toNatClampNeg = o := nI_clamp (by omega)
  have cp : (nI p).toNatClampNeg = p := nI_clamp (by omega)
  have pc0 := hR.2.2.2.2.1 p hpc
  have e1 : gI m (s + 1) p = nI o := by rw [pc0.1, h3]
  unfold f_X8_workOn
  rw [if_pos hs, if_pos h8, hLet_n, cp, e1, co, if_pos h6, if_pos h6, hH o ho, hLet_n, hLet_n, gI_sn (show ¬ (32 = 33 ∧ 5 = o) by omega), hW]
  have f6 : fr (PC s) m (sI (sI m 33 o (H o + 1)) 32 5 (W ||| (1 <<< (nI p &&& 31)))) := (fr.rf.si (Or.inr (Or.inr (Or.inl rfl)))).si (Or.inr (Or.inr (Or.inr (Or.inr ⟨rfl, Or.inl rfl⟩))))
  have a1 : sRel S (sI (sI m 33 o (H o + 1)) 32 5 (W ||| (1 <<< (nI p &&& 31)))) s c := sRel_fr hR (fun a j z1 z2 => by rw [gI_sn (by omega), gI_sn (by omega)])
  have w6 : gI (sI (sI m 33 o (H o + 1)) 32 5 (W ||| (1 <<< (nI p &&& 31)))) 32 5 = W ||| bit1 p := gI_ss _ _ _ _
  have k6 : ∀ o', o' < n → gI (sI (sI m 33 o (H o + 1)) 32 5 (W ||| (1 <<< (nI p &&& 31)))) 33 o' = up H o (H o + 1) o' := fun o' ho' => by
    rw [gI_sn (by omega), up_e]
    by_cases e : o' = o
    · rw [e, gI_ss, if_pos rfl]
    · rw [gI_sn (by omega), if_neg e]; exact hH o' ho'
  have g6 : ∀ a j, ¬ (a = 33) → ¬ (a = 32 ∧ j = 5) → gI (sI (sI m 33 o (H o + 1)) 32 5 (W ||| (1 <<< (nI p &&& 31)))) a j = gI m a j := fun a j z1 z2 => by rw [gI_sn z2, gI_sn (fun z => z1 z.1)]
  generalize sI (sI m 33 o (H o + 1)) 32 5 (W ||| (1 <<< (nI p &&& 31))) = m6 at *
  rw [if_pos h8, if_pos h8, (a1.2.2.2.2.1 p hpc).2.2.2.2.1, hLet_n]
  have a2 := sRel_u5 a1 hpc (S (43 + p) + 1)
  have f9 : fr (PC s) m (sI m6 (s + 5) p (S (43 + p) + 1)) := f6.si (Or.inl ⟨by omega, by omega⟩)
  have g9 : ∀ a j, ¬ (a = s + 5) → gI (sI m6 (s + 5) p (S (43 + p) + 1)) a j = gI m6 a j := fun a j z1 => gI_sn (fun z => z1 z.1)
  generalize sI m6 (s + 5) p (S (43 + p) + 1) = m9 at *
  have ep : gI m9 (6 + 2 * o) 3 = gI v 101 o := by rw [g9 _ _ (by omega), g6 _ _ (by omega) (by omega)]; exact (hee.2.2.2.1 o ho).1.1 3 (by omega)
  rw [if_pos h6, ep, a2.2.2.1, up_n (show 1 ≠ 43 + p by omega), hLet_n, if_pos h8, if_pos h8]
  have a3 := sRel_pay a2 (S 1 + gI v 101 o)
  have f11 : fr (PC s) m (sI m9 s 10 (S 1 + gI v 101 o)) := f9.si (Or.inl ⟨by omega, by omega⟩)
  have g11 : ∀ a j, ¬ (a = s) → gI (sI m9 s 10 (S 1 + gI v 101 o)) a j = gI m9 a j := fun a j z1 => gI_sn (fun z => z1 z.1)
  generalize sI m9 s 10 (S 1 + gI v 101 o) = m11 at *
  rw [(a3.2.2.2.2.1 p hpc).2.1, up_n (show 11 + p ≠ 1 by omega), up_n (show 11 + p ≠ 43 + p by omega), hLet_n, if_pos h8, if_pos h8]
  have a4 := sRel_u2 a3 hpc (S (11 + p) - 1)
  have f14 : fr (PC s) m (sI m11 (s + 2) p (S (11 + p) - 1)) := f11.si (Or.inl ⟨by omega, by omega⟩)
  have g14 : ∀ a j, ¬ (a = s + 2) → gI (sI m11 (s + 2) p (S (11 + p) - 1)) a j = gI m11 a j := fun a j z1 => gI_sn (fun z => z1 z.1)
  generalize sI m11 (s + 2) p (S (11 + p) - 1) = m14 at *
  rw [(a4.2.2.2.2.1 p hpc).2.2.1, up_n (show 19 + p ≠ 11 + p by omega), up_n (show 19 + p ≠ 1 by omega), up_n (show 19 + p ≠ 43 + p by omega), hLet_n, if_pos h8]
  have a5 : sRel (wkS4 v p o S) (sI m14 (s + 3) p (S (19 + p) + 1)) s c := sRel_u3 a4 hpc (S (19 + p) + 1)
  have f17 : fr (PC s) m (sI m14 (s + 3) p (S (19 + p) + 1)) := f14.si (Or.inl ⟨by omega, by omega⟩)
  have g17 : ∀ a j, ¬ (a = s + 3) → gI (sI m14 (s + 3) p (S (19 + p) + 1)) a j = gI m14 a j := fun a j z1 => gI_sn (fun z => z1 z.1)
  generalize sI m14 (s + 3) p (S (19 + p) + 1) = m17 at *
  have gk : ∀ a j, ¬ (s ≤ a ∧ a ≤ s + 8) → gI m17 a j = gI m6 a j := fun a j z => by rw [g17 _ _ (by omega), g14 _ _ (by omega), g11 _ _ (by omega), g9 _ _ (by omega)]
  have b11 : gI m17 (s + 2) p = S (11 + p) - 1 := by rw [(a5.2.2.2.2.1 p hpc).2.1]; unfold wkS4; rw [up_n (by omega), up_s]
  have b19 : gI m17 (s + 3) p = S (19 + p) + 1 := by rw [(a5.2.2.2.2.1 p hpc).2.2.1]; unfold wkS4; rw [up_s]
  have b4 : gI m17 32 4 = gI m 32 4 := by rw [gk _ _ (by omega), g6 _ _ (by omega) (by omega)]
  have b24 : gI m17 24 p = gI v 112 p := by rw [gk _ _ (by omega), g6 _ _ (by omega) (by omega), (hpr.2 p hpc).2.2.2.2]
  have b20 : gI m17 20 p = gI v 113 p := by rw [gk _ _ (by omega), g6 _ _ (by omega) (by omega), (hpr.2 p hpc).2.1]
  have fin : ∀ (S' : Nat → Int32) (m' : hM), sRel S' m' s c → fr (fun a _ => s ≤ a ∧ a ≤ s + 8) m17 m' → wkS v h p o S = S' → sRel (wkS v h p o S) m' s c ∧ (∀ o', o' < n → gI m' 33 o' = up H o (H o + 1) o') ∧ gI m' 32 5 = W ||| bit1 p ∧ fr (PC s) m m' := fun S' m' z1 z2 z3 => by
    rw [z3]
    refine ⟨z1, fun o' ho' => ?_, ?_, f17.tr (z2.mono (fun a j z => Or.inl z))⟩
    · rw [z2.1 _ _ (by omega), gk _ _ (by omega)]; exact k6 o' ho'
    · rw [z2.1 _ _ (by omega), gk _ _ (by omega)]; exact w6
  rw [b11, b4, b24, b20, b19]
  by_cases z0 : S (11 + p) - 1 = 0
  · have e00 : gI (sI m17 s 1 (gI m17 s 1 ||| (1 <<< (nI p &&& 31)))) s 0 = nI h := by
      rw [gI_sn (by omega), a5.2.1, wkS4_k (by omega) (by omega) (by omega) (by omega), h0]
    rw [if_neg (fun z => z z0), hLet_n, if_pos h8, e00, hLet_n, nI_1]
    refine ⟨_, rfl, fin _ _ (sRel_d1 a5 hpc (x := nI (h + 1)) (by rw [nI_toInt (by omega)]; omega)) ((fr.rf.si ⟨by omega, by omega⟩).si ⟨by omega, by omega⟩) ?_⟩
    unfold wkS; rw [if_pos z0]
  · rw [if_pos z0]
    have hal := ask_lt hr hpc
    by_cases z4 : gI m 32 4 = 0
    · rw [if_pos z4]
      have z1 : askP v p < 0 := hal.1.mpr (fun q => by rcases hfl with y | y; exact absurd (z4.symm.trans y.1) (by decide); exact absurd (q.symm.trans y.2) (by decide))
      refine ⟨_, rfl, fin _ _ a5 fr.rf ?_⟩
      unfold wkS; rw [if_neg z0, if_pos z1]
    · rw [if_neg z4, if_pos h8]
      have z37 : gI v 96 37 = 0 := by rcases hfl with y | y; exact y.2; exact absurd y.1 z4
      by_cases z5 : gI v 112 p = -1
      · rw [if_pos z5]
        refine ⟨_, rfl, fin _ _ a5 fr.rf ?_⟩
        unfold wkS; rw [if_neg z0, if_pos (hal.1.mpr (fun _ => z5))]
      · rw [if_neg z5, if_pos h8, if_pos h8]
        have z1 : ¬ askP v p < 0 := fun q => z5 (hal.1.mp q z37)
        by_cases z2 : S (19 + p) + 1 = gI v 113 p
        · rw [if_neg (fun z => z z2), hLet_n, if_pos h8, hLet_n]
          refine ⟨_, rfl, fin _ _ (sRel_u3 (sRel_w1 a5 hpc) hpc 0) ((fr.rf.si ⟨by omega, by omega⟩).si ⟨by omega, by omega⟩) ?_⟩
          unfold wkS; rw [if_neg z0, if_neg z1, if_pos z2]
        · rw [if_pos z2]
          refine ⟨_, rfl, fin _ _ a5 fr.rf ?_⟩
          unfold wkS; rw [if_neg z0, if_neg z1, if_neg z2]
def cT (T : wT) (m : hM) (s n c : Nat) : Prop := sRel T.1 m s c ∧ (∀ o, o < n → gI m 33 o = T.2.1 o) ∧ gI m 32 5 = T.2.2.1
theorem cx_work1 (fu : Nat) {v m : hM} {n c s : Nat} (hs : s ∈ stL) (he : cEnv v m n c) {T : wT} {R X : Int32} {h p : Nat} (hpc : p < c) (hh : h < 2400) (h0 : T.1 0 = nI h) (hI : sInv v T.1 n c) (hX : ∀ o, o < n → bt X o = decide (opn v o (nI h) = 1)) (r : cT T m s n c) (ih : Nat → Int32 → Int32 → Int32 → hM → Option (Unit × hM)) :
    ∃ m', s_X8_workReady_16 fu ih s R X (nI p) m = ih s R X (nI (p + 1)) m' ∧ cT (wk1 v R h p T) m' s n c ∧ fr (PC s) m m' := by
  obtain ⟨S, H, W, Q⟩ := T
  obtain ⟨rs, rh, rwk⟩ := r
  replace rs : sRel S m s c := rs
  replace rh : ∀ o, o < n → gI m 33 o = H o := rh
  replace rwk : gI m 32 5 = W := rwk
  replace hI : sInv v S n c := hI
  replace h0 : S 0 = nI h := h0
  have hv := he.1
  have hr := he.2.2.1
  have hpr := he.2.2.2.1
  have hn := hv.1
  have hc := hr.1
  obtain ⟨o, ho, hoe⟩ := hIn_of (hI.1 p hpc).1 (by omega)
  obtain ⟨ct, hct, hcte⟩ := hIn_of (hr.2.2 p hpc).1 (by omega)
  have pc0 := rs.2.2.2.2.1 p hpc
  have co : (nI o).toNatClampNeg = o := nI_clamp (by omega)
  have cct : (nI ct).toNatClampNeg = ct := nI_clamp (by omega)
  have cp : (nI p).toNatClampNeg = p := nI_clamp (by omega)
  have h8 : hIn (nI p) 8 := hIn_lt (show p < 8 by omega) (by omega)
  have h6 : hIn (nI o) 6 := hIn_lt (show o < 6 by omega) (by omega)
  have skip : ∀ m1, f_X8_workReady_158 fu ih s R X (nI p) m1 = ih s R X (nI (p + 1)) m1 := fun m1 => by unfold f_X8_workReady_158; rw [nI_1, hLet_n]
  have skip2 : ∀ m1, f_X8_workReady_114 fu ih s R X (nI p) m1 = ih s R X (nI (p + 1)) m1 := fun m1 => by unfold f_X8_workReady_114; exact skip m1
  have idt : cT (S, H, W, Q) m s n c := ⟨rs, rh, rwk⟩
  unfold s_X8_workReady_16
  rw [hpr.1, if_neg (nI_ge hpc (by omega)), if_pos h8, hLet_n, cp, pc0.1, hoe, b_rd (show p < 32 by omega), b_rd (show o < 32 by omega), hX o ho, b_rd (show p < 32 by omega), pc0.2.2.2.2.2.2.2.1, skip]
  cases hb : bt R p
  · rw [if_pos (by decide)]
    refine ⟨m, rfl, ?_, fr.rf⟩
    unfold wk1
    rw [if_neg (by rw [hb]; decide)]
    exact idt
  rw [if_neg (by decide)]
  have hwk1 : S (27 + p) = 1 → ∀ a, gI v 112 p = nI a → a < 6 → wk1 v R h p (S, H, W, Q) = if opn v o (nI h) = 1 ∧ opn v a (nI h) = 1 then (up S (27 + p) 0, H, W, Q ||| bit1 p) else (S, H, W, Q ||| bit1 p) := fun hw a hae ha => by
    unfold wk1
    rw [if_pos hb, if_pos hw]
    simp only [hoe, hae, co, nI_clamp (show a < 2 ^ 31 by omega)]
  have hwk0 : ¬ S (27 + p) = 1 → wk1 v R h p (S, H, W, Q) = if opn v o (nI h) = 1 ∧ bt (gI v 103 o) ct = true ∧ H o < gI v 102 o then (wkS v h p o S, up H o (H o + 1), W ||| bit1 p, Q) else (S, H, W, Q) := fun hw => by
    unfold wk1
    rw [if_pos hb, if_neg hw]
    simp only [hoe, hcte, co, cct]
  rcases opn_01 v o (nI h) with q | q
  · rw [q, if_neg (by decide)]
    refine ⟨m, rfl, ?_, fr.rf⟩
    by_cases hw : S (27 + p) = 1
    · have hin := ((hI.1 p hpc).2.resolve_left (by rw [hw]; decide)).2
      obtain ⟨a, ha, hae⟩ := hIn_of hin (by omega)
      rw [hwk1 hw a hae (by omega), if_neg (by rw [q]; exact fun z => absurd z.1 (by decide))]
      exact ⟨rs, rh, rwk⟩
    · rw [hwk0 hw, if_neg (by rw [q]; exact fun z => absurd z.1 (by decide))]
      exact idt
  rw [q, if_pos (by decide)]
  by_cases hw : S (27 + p) = 1
  · rw [decide_eq_true hw, if_neg (fun z => z (by decide)), if_pos h8, hLet_n, (hpr.2 p hpc).2.2.2.2]
    have hin := ((hI.1 p hpc).2.resolve_left (by rw [hw]; decide)).2
    obtain ⟨a, ha, hae⟩ := hIn_of hin (by omega)
    rw [hae, if_neg (by rw [i_eq, nI_toInt (by omega)]; show ¬ (a : Int) = -1; omega), b_rd (show a < 32 by omega), hX a ha, skip2]
    rcases opn_01 v a (nI h) with q2 | q2
    · rw [q2, if_pos (by decide)]
      refine ⟨m, rfl, ?_, fr.rf⟩
      rw [hwk1 hw a hae (by omega), if_neg (by rw [q2]; exact fun z => absurd z.2 (by decide))]
      exact ⟨rs, rh, rwk⟩
    · rw [q2, if_neg (fun z => z (by decide)), hLet_n, skip2]
      refine ⟨_, rfl, ?_, fr.rf.si (Or.inl ⟨by omega, by omega⟩)⟩
      have hsr := st_rng hs
      rw [hwk1 hw a hae (by omega), if_pos ⟨q, q2⟩]
      exact ⟨sRel_w0 rs hpc, fun o' ho' => by rw [gI_sn (by omega)]; exact rh o' ho', by rw [gI_sn (by omega)]; exact rwk⟩
  · rw [decide_eq_false hw, if_pos (by decide), cx_canWork fu hn he.2.1 hr hpr hpc ho, hBd_some, hcte, cct, hwk0 hw]
    cases hk : bt (gI v 103 o) ct
    · rw [if_pos (by decide), if_neg (fun z => absurd z.2.1 (by decide))]
      exact ⟨m, skip m, idt, fr.rf⟩
    have e4 : gI m (6 + 2 * o) 4 = gI v 102 o := (he.2.1.2.2.2.1 o ho).1.1 4 (by omega)
    rw [if_neg (by decide), if_pos h6, if_pos h6, co, e4, rh o ho]
    by_cases hl : H o < gI v 102 o
    · rw [if_neg (by rw [i_le]; rw [i_lt] at hl; omega), if_pos ⟨q, rfl, hl⟩]
      obtain ⟨m', r1, r2, r3, r4, r5⟩ := cx_workOn fu hs he hpc ho hh h0 hoe rs rh rwk
      rw [r1, hBd_some, skip]
      exact ⟨m', rfl, ⟨r2, r3, r4⟩, r5⟩
    · rw [if_pos (by rw [i_le]; rw [i_lt] at hl; omega), if_neg (fun z => hl z.2.2)]
      exact ⟨m, skip m, idt, fr.rf⟩
theorem cx_work_16 (fu : Nat) {v : hM} {n c s : Nat} (hs : s ∈ stL) {T : wT} {R X : Int32} {h : Nat} (hr : pRng v n c) (hh : h < 2400) (h0 : T.1 0 = nI h) (hI : sInv v T.1 n c) (hX : ∀ o, o < n → bt X o = decide (opn v o (nI h) = 1)) : ∀ (t k : Nat) (m : hM), k ≤ c → c - k < t → cEnv v m n c → cT (wkA v R h T k) m s n c →
    ∃ m', f_X8_workReady_16 fu t s R X (nI k) m = some ((), m') ∧ cT (wkA v R h T c) m' s n c ∧ fr (PC s) m m' := by
  have hc := hr.1
  intro t
  induction t with
  | zero => intro k m h1 h2; omega
  | succ t ih =>
    intro k m hk ht he r
    rw [f_X8_workReady_16_s]
    by_cases e : k = c
    · subst e
      unfold s_X8_workReady_16
      rw [he.2.2.2.1.1, if_pos (nI_le (Nat.le_refl _) (by omega))]
      exact ⟨m, rfl, r, fr.rf⟩
    · obtain ⟨m1, r1, r2, r3⟩ := cx_work1 fu hs he (show k < c by omega) hh (by rw [wkA_k (by omega) (by omega) k (by omega)]; exact h0) (wkA_inv hr hI k hk) hX r (f_X8_workReady_16 fu t)
      rw [r1]
      obtain ⟨m2, s1, s2, s3⟩ := ih (k + 1) m1 (by omega) (by omega) (cEnv_fr hs he r3) (by rw [wkA]; exact r2)
      exact ⟨m2, s1, s2, r3.tr s3⟩
theorem cx_workReady {fu : Nat} (hfu : 100 ≤ fu) {v m : hM} {n c s : Nat} (hs : s ∈ stL) (he : cEnv v m n c) {S : Nat → Int32} {R X : Int32} {h : Nat} (hh : h < 2400) (h0 : S 0 = nI h) (hI : sInv v S n c) (hX : ∀ o, o < n → bt X o = decide (opn v o (nI h) = 1)) (r : sRel S m s c) :
    ∃ m', f_X8_workReady fu s R X m = some ((), m') ∧ cT (wkA v R h (S, fun _ => 0, 0, 0) c) m' s n c ∧ fr (PC s) m m' := by
  have hsr := st_rng hs
  have hn := he.1.1
  have hc := he.2.2.1.1
  unfold f_X8_workReady
  obtain ⟨m1, r1, r2, r3⟩ := cx_fill (fu := fu) (n0 := 6) (a0 := 33) 0 (by omega) (by omega) (by decide +kernel) m
  rw [if_pos hs, r1, hBd_some, hLet_n]
  have f1 : fr (PC s) m (sI m1 32 5 0) := (r3.mono (fun a j z => Or.inr (Or.inr (Or.inl z.1)))).si (Or.inr (Or.inr (Or.inr (Or.inr ⟨rfl, Or.inl rfl⟩))))
  obtain ⟨m2, s1, s2, s3⟩ := cx_work_16 fu hs (T := (S, fun _ => 0, 0, 0)) (R := R) (X := X) he.2.2.1 hh h0 hI hX fu 0 (sI m1 32 5 0) (by omega) (by omega) (cEnv_fr hs he f1)
    ⟨sRel_fr r (fun a j z1 z2 => by rw [gI_sn (by omega), r3.1 _ _ (by omega)]), fun o ho => by rw [gI_sn (by omega)]; exact r2 o (by omega), gI_ss _ _ _ _⟩
  exact ⟨m2, s1, s2, f1.tr s3⟩
