/-! ===== an hour's work: the reference ===== -/
def rT (T : wT) (R : Int32) (m : hM) (n : Nat) : Prop := rS T.1 m ∧ (∀ o, o < n → gI m 120 o = T.2.1 o) ∧ gI m 96 34 = R ∧ gI m 96 36 = T.2.2.1 ∧ gI m 96 35 = T.2.2.2
theorem rx_works1 (fu : Nat) {v : hM} {n c : Nat} (hv : vRel v n) (hp : pRng v n c) {R : Int32} {h p : Nat} (hpc : p < c) {T : wT} (hI : sInv v T.1 n c) {m : hM} (g : eqV v m) (r : rT T R m n) (ih : Int32 → Int32 → hM → Option (Unit × hM)) :
    ∃ m', s_X11_works_50 fu ih (nI h) (nI p) m = ih (nI h) (nI (p + 1)) m' ∧ rT (wk1 v R h p T) R m' n ∧ fr PR m m' := by
  obtain ⟨S, H, W, Q⟩ := T
  obtain ⟨rs, rh, rr, rwk, rq⟩ := r
  replace rs : rS S m := rs
  replace rh : ∀ o, o < n → gI m 120 o = H o := rh
  replace rwk : gI m 96 36 = W := rwk
  replace rq : gI m 96 35 = Q := rq
  replace hI : sInv v S n c := hI
  have hn := hv.1
  have hc := hp.1
  obtain ⟨o, ho, hoe⟩ := hIn_of (hI.1 p hpc).1 (by omega)
  obtain ⟨ct, hct, hcte⟩ := hIn_of (hp.2.2 p hpc).1 (by omega)
  have e16 : gI m 96 16 = nI c := by rw [g 96 16 (by unfold envC; omega)]; exact hp.2.1
  have e3 : gI m 114 (3 + p) = nI o := by rw [rs _ (by omega), hoe]
  have e27 : gI m 114 (27 + p) = S (27 + p) := rs _ (by omega)
  have e103 : gI m 103 o = gI v 103 o := g.a o (by omega) (by omega)
  have e102 : gI m 102 o = gI v 102 o := g.a o (by omega) (by omega)
  have e101 : gI m 101 o = gI v 101 o := g.a o (by omega) (by omega)
  have e108 : gI m 108 p = nI ct := by rw [g.a p (by omega) (by omega), hcte]
  have e112 : gI m 112 p = gI v 112 p := g.a p (by omega) (by omega)
  have e113 : gI m 113 p = gI v 113 p := g.a p (by omega) (by omega)
  have e37 : gI m 96 37 = gI v 96 37 := g 96 37 (by unfold envC; omega)
  have co : (nI o).toNatClampNeg = o := nI_clamp (by omega)
  have cct : (nI ct).toNatClampNeg = ct := nI_clamp (by omega)
  have skip : ∀ m1, f_X11_works_343 fu ih (nI h) (nI p) m1 = ih (nI h) (nI (p + 1)) m1 := fun m1 => by unfold f_X11_works_343; rw [nI_1, hLet_n]
  unfold s_X11_works_50
  rw [e16, if_neg (nI_ge hpc (by omega)), bd_has fu _ (show p < 32 by omega), rr]
  cases hb : bt R p
  · rw [if_neg (by decide), skip]
    refine ⟨m, rfl, ?_, fr.rf⟩
    unfold wk1
    rw [if_neg (by rw [hb]; decide)]
    exact ⟨rs, rh, rr, rwk, rq⟩
  rw [if_pos (by decide), q_3, q_27, if_pos (hIn_lt (show 3 + p < 127 by omega) (by omega)), hLet_n, if_pos (hIn_lt (show 27 + p < 127 by omega) (by omega)), nI_clamp (show 3 + p < 2 ^ 31 by omega), nI_clamp (show 27 + p < 2 ^ 31 by omega), e3, e27]
  by_cases hw : S (27 + p) = 1
  · -- it waits
    rw [if_neg (fun z => z hw), hLet_n, rq]
    have g1 : eqV v (sI m 96 35 (Q ||| (1 <<< (nI p &&& 31)))) := fun a j z => by rw [gI_sn (by unfold envC at z; omega)]; exact g a j z
    have f1 : fr PR m (sI m 96 35 (Q ||| (1 <<< (nI p &&& 31)))) := fr.rf.si (Or.inr (Or.inr (Or.inr ⟨rfl, Or.inr (Or.inl rfl)⟩)))
    have rs1 : rS S (sI m 96 35 (Q ||| (1 <<< (nI p &&& 31)))) := rs.k (by omega)
    rw [bd_isOpen fu (show o < 6 by omega) _ g1]
    have hin := ((hI.1 p hpc).2.resolve_left (by rw [hw]; decide)).2
    obtain ⟨a, ha, hae⟩ := hIn_of hin (by omega)
    have one : ∀ x : Int32, x = 0 ∨ x = 1 → (∀ y, y = (if x = 0 then 0 else (1 : Int32)) → ∃ m', f_X11_works_142 fu ih (nI h) (nI p) (nI (27 + p)) x (sI m 96 35 (Q ||| (1 <<< (nI p &&& 31)))) = ih (nI h) (nI (p + 1)) m' ∧ rT (up S (27 + p) y, H, W, Q ||| bit1 p) R m' n ∧ fr PR m m') := by
      intro x hx y hy
      unfold f_X11_works_142
      rw [bd_flag, if_pos (hIn_lt (show 27 + p < 127 by omega) (by omega)), hLet_n, nI_clamp (show 27 + p < 2 ^ 31 by omega), skip, ← hy]
      refine ⟨_, rfl, ⟨rs1.u, fun o' ho' => ?_, ?_, ?_, ?_⟩, f1.si (Or.inl rfl)⟩
      · rw [gI_sn (by omega), gI_sn (by omega)]; exact rh o' ho'
      · rw [gI_sn (by omega), gI_sn (by omega)]; exact rr
      · rw [gI_sn (by omega), gI_sn (by omega)]; exact rwk
      · rw [gI_sn (by omega), gI_ss]; rfl
    have stay : ∀ T' : wT, T' = (S, H, W, Q ||| bit1 p) → (∀ m', rT (up S (27 + p) 1, H, W, Q ||| bit1 p) R m' n → rT T' R m' n) := by
      intro T' hT m' hh
      subst hT
      refine ⟨fun j hj => ?_, hh.2⟩
      show gI m' 114 j = S j
      rw [show gI m' 114 j = up S (27 + p) 1 j from hh.1 j hj, up_e]
      by_cases e : j = 27 + p
      · rw [if_pos e, e, hw]
      · rw [if_neg e]
    have hwk : wk1 v R h p (S, H, W, Q) = if opn v o (nI h) = 1 ∧ opn v a (nI h) = 1 then (up S (27 + p) 0, H, W, Q ||| bit1 p) else (S, H, W, Q ||| bit1 p) := by
      unfold wk1
      rw [if_pos hb, if_pos hw]
      simp only [hoe, hae, co, nI_clamp (show a < 2 ^ 31 by omega)]
    have two : ∃ m', f_X11_works_137 fu ih (nI h) (nI p) (nI (27 + p)) (sI m 96 35 (Q ||| (1 <<< (nI p &&& 31)))) = ih (nI h) (nI (p + 1)) m' ∧ rT (up S (27 + p) 1, H, W, Q ||| bit1 p) R m' n ∧ fr PR m m' := by
      unfold f_X11_works_137
      exact one 1 (Or.inr rfl) 1 (by decide)
    rcases opn_01 v o (nI h) with q | q
    · rw [if_pos q]
      obtain ⟨m', r1, r2, r3⟩ := two
      refine ⟨m', r1, ?_, r3⟩
      rw [hwk, if_neg (by rw [q]; exact fun z => absurd z.1 (by decide))]
      exact stay _ rfl m' r2
    · rw [if_neg (by rw [q]; decide), if_pos (hIn_lt (show p < 8 by omega) (by omega)), nI_clamp (show p < 2 ^ 31 by omega), gI_sn (by omega), e112, hae, bd_isOpen fu (show a < 6 by omega) _ g1]
      rcases opn_01 v a (nI h) with q2 | q2
      · rw [if_neg (fun z => z q2)]
        obtain ⟨m', r1, r2, r3⟩ := two
        refine ⟨m', r1, ?_, r3⟩
        rw [hwk, if_neg (by rw [q2]; exact fun z => absurd z.2 (by decide))]
        exact stay _ rfl m' r2
      · rw [if_pos (by rw [q2]; decide)]
        obtain ⟨m', r1, r2, r3⟩ := one 0 (Or.inl rfl) 0 (by decide)
        refine ⟨m', r1, ?_, r3⟩
        rw [hwk, if_pos ⟨q, q2⟩]
        exact r2
  · have hwk : wk1 v R h p (S, H, W, Q) = if opn v o (nI h) = 1 ∧ bt (gI v 103 o) ct = true ∧ H o < gI v 102 o then (wkS v h p o S, up H o (H o + 1), W ||| bit1 p, Q) else (S, H, W, Q) := by
      unfold wk1
      rw [if_pos hb, if_neg hw]
      simp only [hoe, hcte, co, cct]
    have no : ¬ (opn v o (nI h) = 1 ∧ bt (gI v 103 o) ct = true ∧ H o < gI v 102 o) → rT (wk1 v R h p (S, H, W, Q)) R m n := fun z => by
      rw [hwk, if_neg z]; exact ⟨rs, rh, rr, rwk, rq⟩
    rw [if_pos hw, bd_isOpen fu (show o < 6 by omega) _ g]
    rcases opn_01 v o (nI h) with q | q
    · rw [if_pos q, skip]
      exact ⟨m, rfl, no (by rw [q]; exact fun z => absurd z.1 (by decide)), fr.rf⟩
    have h6 : hIn (nI o) 6 := hIn_lt (show o < 6 by omega) (by omega)
    have h8 : hIn (nI p) 8 := hIn_lt (show p < 8 by omega) (by omega)
    rw [if_neg (by rw [q]; decide), if_pos h6, if_pos h8, nI_clamp (show p < 2 ^ 31 by omega), co, e103, e108, bd_has fu _ (show ct < 32 by omega)]
    cases hk : bt (gI v 103 o) ct
    · rw [if_pos (by decide), skip]
      exact ⟨m, rfl, no (by rw [hk]; exact fun z => absurd z.2.1 (by decide)), fr.rf⟩
    rw [if_neg (by decide), if_pos h6, if_pos h6, rh o ho, e102]
    by_cases hh : H o < gI v 102 o
    rotate_left
    · rw [if_neg hh, skip]
      exact ⟨m, rfl, no (fun z => hh z.2.2), fr.rf⟩
    rw [if_pos hh, hwk, if_pos (show opn v o (nI h) = 1 ∧ bt (gI v 103 o) ct = true ∧ H o < gI v 102 o from ⟨q, hk, hh⟩), if_pos h6, if_pos h6]
    have i11 : hIn (nI (11 + p)) 127 := hIn_lt (by omega) (by omega)
    have i19 : hIn (nI (19 + p)) 127 := hIn_lt (by omega) (by omega)
    have i43 : hIn (nI (43 + p)) 127 := hIn_lt (by omega) (by omega)
    have i27 : hIn (nI (27 + p)) 127 := hIn_lt (by omega) (by omega)
    have i35 : hIn (nI (35 + p)) 127 := hIn_lt (by omega) (by omega)
    have c11 : (nI (11 + p)).toNatClampNeg = 11 + p := nI_clamp (by omega)
    have c19 : (nI (19 + p)).toNatClampNeg = 19 + p := nI_clamp (by omega)
    have c43 : (nI (43 + p)).toNatClampNeg = 43 + p := nI_clamp (by omega)
    have c35 : (nI (35 + p)).toNatClampNeg = 35 + p := nI_clamp (by omega)
    have dW : gI (sI m 120 o (H o + 1)) 96 36 = W := by rw [gI_sn (by omega)]; exact rwk
    rw [q_11, q_19, q_43, q_35, c11, c19, c43, c35, hLet_n, hLet_n, dW, if_pos i11, if_pos i11, hLet_n, if_pos i19, if_pos i19, hLet_n, if_pos i43, if_pos i43, hLet_n, if_pos h6, hLet_n, if_pos i11]
    have ge : ∀ (a j : Nat), a ≠ 114 → ¬ (a = 120 ∧ j = o) → ¬ (a = 96 ∧ j = 36) → ∀ (k1 k2 k3 k4 : Nat) (x0 x1 x2 x3 x4 x5 : Int32), gI (sI (sI (sI (sI (sI (sI m 120 o x0) 96 36 x1) 114 k1 x2) 114 k2 x3) 114 k3 x4) 114 k4 x5) a j = gI m a j := fun a j z1 z2 z3 k1 k2 k3 k4 x0 x1 x2 x3 x4 x5 => by
      rw [gI_sn (fun z => z1 z.1), gI_sn (fun z => z1 z.1), gI_sn (fun z => z1 z.1), gI_sn (fun z => z1 z.1), gI_sn z3, gI_sn z2]
    have d11 : gI (sI (sI m 120 o (H o + 1)) 96 36 (W ||| (1 <<< (nI p &&& 31)))) 114 (11 + p) = S (11 + p) := by rw [gI_sn (by omega), gI_sn (by omega), rs _ (by omega)]
    have d19 : ∀ x, gI (sI (sI (sI m 120 o (H o + 1)) 96 36 (W ||| (1 <<< (nI p &&& 31)))) 114 (11 + p) x) 114 (19 + p) = S (19 + p) := fun x => by rw [gI_sn (by omega), gI_sn (by omega), gI_sn (by omega), rs _ (by omega)]
    have d43 : ∀ x y, gI (sI (sI (sI (sI m 120 o (H o + 1)) 96 36 (W ||| (1 <<< (nI p &&& 31)))) 114 (11 + p) x) 114 (19 + p) y) 114 (43 + p) = S (43 + p) := fun x y => by rw [gI_sn (by omega), gI_sn (by omega), gI_sn (by omega), gI_sn (by omega), rs _ (by omega)]
    have d1 : ∀ x y z, gI (sI (sI (sI (sI (sI m 120 o (H o + 1)) 96 36 (W ||| (1 <<< (nI p &&& 31)))) 114 (11 + p) x) 114 (19 + p) y) 114 (43 + p) z) 114 1 = S 1 := fun x y z => by rw [gI_sn (by omega), gI_sn (by omega), gI_sn (by omega), gI_sn (by omega), gI_sn (by omega), rs _ (by omega)]
    have d101 : ∀ x y z, gI (sI (sI (sI (sI (sI m 120 o (H o + 1)) 96 36 (W ||| (1 <<< (nI p &&& 31)))) 114 (11 + p) x) 114 (19 + p) y) 114 (43 + p) z) 101 o = gI v 101 o := fun x y z => by rw [gI_sn (by omega), gI_sn (by omega), gI_sn (by omega), gI_sn (by omega), gI_sn (by omega), e101]
    rw [d11, d19, d43, d1, d101]
    generalize hMe : sI (sI (sI (sI (sI (sI m 120 o (H o + 1)) 96 36 (W ||| (1 <<< (nI p &&& 31)))) 114 (11 + p) (S (11 + p) - 1)) 114 (19 + p) (S (19 + p) + 1)) 114 (43 + p) (S (43 + p) + 1)) 114 1 (S 1 + gI v 101 o) = m4
    have r4 : rS (wkS4 v p o S) m4 := by
      have a0 : rS S (sI (sI m 120 o (H o + 1)) 96 36 (W ||| (1 <<< (nI p &&& 31)))) := (rs.k (by omega)).k (by omega)
      have a1 := (((a0.u (i := 11 + p) (x := S (11 + p) - 1)).u (i := 19 + p) (x := S (19 + p) + 1)).u (i := 43 + p) (x := S (43 + p) + 1)).u (i := 1) (x := S 1 + gI v 101 o)
      rw [hMe] at a1
      unfold wkS4
      rw [up_c _ _ _ (show 19 + p ≠ 43 + p by omega), up_c _ _ _ (show 19 + p ≠ 1 by omega), up_c _ _ _ (show 11 + p ≠ 43 + p by omega), up_c _ _ _ (show 11 + p ≠ 1 by omega)] at a1
      exact a1
    have f4 : fr PR m m4 := by
      rw [← hMe]
      exact (((((fr.rf.si (Or.inr (Or.inr (Or.inl rfl)))).si (Or.inr (Or.inr (Or.inr ⟨rfl, Or.inr (Or.inr rfl)⟩)))).si (Or.inl rfl)).si (Or.inl rfl)).si (Or.inl rfl)).si (Or.inl rfl)
    have k4 : ∀ (a j : Nat), a ≠ 114 → ¬ (a = 120 ∧ j = o) → ¬ (a = 96 ∧ j = 36) → gI m4 a j = gI m a j := fun a j z1 z2 z3 => by rw [← hMe]; exact ge a j z1 z2 z3 _ _ _ _ _ _ _ _ _ _
    have h4 : ∀ o', o' < n → gI m4 120 o' = up H o (H o + 1) o' := fun o' ho' => by
      rw [up_e]
      by_cases e : o' = o
      · rw [if_pos e, e, ← hMe, gI_sn (by omega), gI_sn (by omega), gI_sn (by omega), gI_sn (by omega), gI_sn (by omega), gI_ss]
      · rw [if_neg e, k4 _ _ (by omega) (by omega) (by omega)]; exact rh o' ho'
    have w4 : gI m4 96 36 = W ||| bit1 p := by rw [← hMe, gI_sn (by omega), gI_sn (by omega), gI_sn (by omega), gI_sn (by omega), gI_ss]; rfl
    have t4 : ∀ (S' : Nat → Int32) (m5 : hM), rS S' m5 → fr (fun a _ => a = 114) m4 m5 → rT (S', up H o (H o + 1), W ||| bit1 p, Q) R m5 n ∧ fr PR m m5 := fun S' m5 z1 z2 => by
      refine ⟨⟨z1, fun o' ho' => by rw [z2.1 _ _ (by omega)]; exact h4 o' ho', by rw [z2.1 _ _ (by omega), k4 _ _ (by omega) (by omega) (by omega)]; exact rr, by rw [z2.1 _ _ (by omega)]; exact w4, by rw [z2.1 _ _ (by omega), k4 _ _ (by omega) (by omega) (by omega)]; exact rq⟩, f4.tr (z2.mono (fun a j z => Or.inl z))⟩
    have a11 : gI m4 114 (11 + p) = S (11 + p) - 1 := by rw [r4 _ (by omega)]; unfold wkS4; rw [up_n (by omega), up_s]
    have a19 : gI m4 114 (19 + p) = S (19 + p) + 1 := by rw [r4 _ (by omega)]; unfold wkS4; rw [up_s]
    rw [a11]
    by_cases z0 : S (11 + p) - 1 = 0
    · rw [if_neg (fun z => z z0), if_pos i35, hLet_n, nI_1, skip]
      have e5 : wkS v h p o S = up (wkS4 v p o S) (35 + p) (nI (h + 1)) := by unfold wkS; rw [if_pos z0]
      have := t4 _ (sI m4 114 (35 + p) (nI (h + 1))) r4.u (f114 fr.rf)
      rw [← e5] at this
      exact ⟨_, rfl, this.1, this.2⟩
    · rw [if_pos z0]
      have ea : f_X11_asked fu (nI p) m4 = some (askP v p, m4) := by
        unfold f_X11_asked askP
        rw [k4 96 37 (by omega) (by omega) (by omega), e37]
        by_cases y : gI v 96 37 = 0
        · rw [if_pos y, if_pos y, if_pos h8, nI_clamp (show p < 2 ^ 31 by omega), k4 112 p (by omega) (by omega) (by omega), e112]
        · rw [if_neg y, if_neg y]
      rw [ea, hBd_some]
      by_cases z1 : askP v p < 0
      · rw [if_pos z1, skip]
        have e5 : wkS v h p o S = wkS4 v p o S := by unfold wkS; rw [if_neg z0, if_pos z1]
        have := t4 _ m4 r4 fr.rf
        rw [← e5] at this
        exact ⟨_, rfl, this.1, this.2⟩
      · rw [if_neg z1, if_pos i19, if_pos h8, a19, k4 113 p (by omega) (by omega) (by omega), e113]
        by_cases z2 : S (19 + p) + 1 = gI v 113 p
        · rw [if_neg (fun z => z z2), if_pos i27, hLet_n, if_pos i19, hLet_n, skip]
          have e5 : wkS v h p o S = up (up (wkS4 v p o S) (27 + p) 1) (19 + p) 0 := by unfold wkS; rw [if_neg z0, if_neg z1, if_pos z2]
          have := t4 _ (sI (sI m4 114 (27 + p) 1) 114 (19 + p) 0) r4.u.u (f114 (f114 fr.rf))
          rw [← e5] at this
          exact ⟨_, rfl, this.1, this.2⟩
        · rw [if_pos z2, skip]
          have e5 : wkS v h p o S = wkS4 v p o S := by unfold wkS; rw [if_neg z0, if_neg z1, if_neg z2]
          have := t4 _ m4 r4 fr.rf
          rw [← e5] at this
          exact ⟨_, rfl, this.1, this.2⟩
theorem rx_works_50 (fu : Nat) {v : hM} {n c : Nat} (hv : vRel v n) (hp : pRng v n c) {R : Int32} {h : Nat} {T : wT} (hI : sInv v T.1 n c) : ∀ (t k : Nat) (m : hM), k ≤ c → c - k < t → eqV v m → rT (wkA v R h T k) R m n →
    ∃ m', f_X11_works_50 fu t (nI h) (nI k) m = some ((), m') ∧ rT (wkA v R h T c) R m' n ∧ fr PR m m' := by
  have hc := hp.1
  intro t
  induction t with
  | zero => intro k m h1 h2; omega
  | succ t ih =>
    intro k m hk ht g r
    rw [f_X11_works_50_s]
    by_cases e : k = c
    · subst e
      unfold s_X11_works_50
      rw [g 96 16 (by unfold envC; omega), hp.2.1, if_pos (nI_le (Nat.le_refl _) (by omega))]
      exact ⟨m, rfl, r, fr.rf⟩
    · obtain ⟨m1, r1, r2, r3⟩ := rx_works1 fu hv hp (show k < c by omega) (wkA_inv hp hI k hk) g r (f_X11_works_50 fu t)
      rw [r1]
      obtain ⟨m2, s1, s2, s3⟩ := ih (k + 1) m1 (by omega) (by omega) (eqV_fr g r3) (by rw [wkA]; exact r2)
      exact ⟨m2, s1, s2, r3.tr s3⟩
theorem rx_works {fu : Nat} (hfu : 100 ≤ fu) {v : hM} {n c : Nat} (hv : vRel v n) (hp : pRng v n c) {S : Nat → Int32} (hI : sInv v S n c) {m : hM} (g : eqV v m) (hS : rS S m) :
    ∃ m', f_X11_works fu m = some ((), m') ∧ rT (wkA v (rdyB v S c) (S 0).toNatClampNeg (S, fun _ => 0, 0, 0) c) (rdyB v S c) m' n ∧ fr PR m m' := by
  have hn := hv.1
  obtain ⟨h, hh, hhe⟩ := hIn_of hI.2.2 (by omega)
  unfold f_X11_works
  rw [hLet_n, hS 0 (by omega), rx_readyBits hfu hp g hS, hBd_some, hLet_n, hLet_n, hLet_n, hhe, nI_clamp (show h < 2 ^ 31 by omega)]
  have key : ∀ (t k : Nat) (m1 : hM), k ≤ n → n - k < t → fr PR m m1 → rS S m1 → (∀ o, o < k → gI m1 120 o = 0) → gI m1 96 34 = rdyB v S c → gI m1 96 35 = 0 → gI m1 96 36 = 0 →
      ∃ m', f_X11_works_27 fu t (nI h) (nI k) m1 = some ((), m') ∧ rT (wkA v (rdyB v S c) h (S, fun _ => 0, 0, 0) c) (rdyB v S c) m' n ∧ fr PR m m' := by
    intro t
    induction t with
    | zero => intro k m1 h1 h2; omega
    | succ t ih =>
      intro k m1 hk ht f1 s1 z120 z34 z35 z36
      rw [f_X11_works_27_s]
      unfold s_X11_works_27
      rw [(eqV_fr g f1) 96 3 (by unfold envC; omega), hv.2.1]
      by_cases q : nI n ≤ nI k
      · rw [if_pos q]
        rw [nI_leI (by omega) (by omega)] at q
        have : k = n := by omega
        subst this
        unfold f_X11_works_48
        have hc := hp.1
        obtain ⟨m2, r1, r2, r3⟩ := rx_works_50 fu hv hp (R := rdyB v S c) (h := h) (T := (S, fun _ => 0, 0, 0)) hI fu 0 m1 (by omega) (by omega) (eqV_fr g f1) ⟨s1, z120, z34, z36, z35⟩
        exact ⟨m2, r1, r2, f1.tr r3⟩
      · rw [if_neg q]
        rw [nI_leI (by omega) (by omega)] at q
        rw [if_pos (hIn_lt (show k < 6 by omega) (by omega)), hLet_n, hLet_n, nI_1, nI_clamp (show k < 2 ^ 31 by omega)]
        refine ih (k + 1) _ (by omega) (by omega) (f1.si (Or.inr (Or.inr (Or.inl rfl)))) (s1.k (by omega)) (fun o ho => ?_) (by rw [gI_sn (by omega)]; exact z34) (by rw [gI_sn (by omega)]; exact z35) (by rw [gI_sn (by omega)]; exact z36)
        by_cases e : o = k
        · rw [e, gI_ss]
        · rw [gI_sn (by omega)]; exact z120 o (by omega)
  have f0 : fr PR m (sI (sI (sI m 96 34 (rdyB v S c)) 96 35 0) 96 36 0) := ((fr.rf.si (Or.inr (Or.inr (Or.inr ⟨rfl, Or.inl rfl⟩)))).si (Or.inr (Or.inr (Or.inr ⟨rfl, Or.inr (Or.inl rfl)⟩)))).si (Or.inr (Or.inr (Or.inr ⟨rfl, Or.inr (Or.inr rfl)⟩)))
  exact key fu 0 _ (by omega) (by omega) f0 (((hS.k (by omega)).k (by omega)).k (by omega)) (fun o ho => by omega) (by rw [gI_sn (by omega), gI_sn (by omega), gI_ss]) (by rw [gI_sn (by omega), gI_ss]) (by rw [gI_ss])
