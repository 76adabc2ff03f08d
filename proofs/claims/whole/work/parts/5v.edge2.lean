theorem ok_edge {fu : Nat} (hfu : 4000 ≤ fu) {m : hM} (h : IV m) (x1 x2 x3 : Int32) : okC (f_X10_edge fu x1 x2 x3) (f_X11_edge fu x1 x2 x3) m := by
  obtain ⟨n, c, kk, tt, h⟩ := h
  have hp := h.2.1.1
  have hv := h.1.1
  have hn := hv.1
  have hc := hp.1
  have h16 : ∀ M : hM, (∀ a j, 96 ≤ a → gI M a j = gI m a j) → gI (sI M 96 0 0) 96 16 = nI c := fun M z => by rw [gI_sn (by omega), z _ _ (by omega)]; exact hp.2.1
  have id1 : ∀ a j, 96 ≤ a → gI m a j = gI m a j := fun _ _ _ => rfl
  have e1 : (1 : Int32).toInt = 1 := rfl
  have e3 : (3 : Int32).toInt = 3 := rfl
  unfold okC f_X10_edge f_X11_edge
  by_cases c1 : hIn x1 c
  rotate_left
  · refine ⟨-1, m, sI m 96 0 0, ?_, ?_, h.th rfl rfl⟩
    · rw [cx_hasP fu x1 m (by omega) h.2.1.2.1.1, hBd_some, if_neg c1, if_pos rfl]
    · rw [hLet_n, rx_isPiece fu x1 _ (by omega) (h16 m id1), hBd_some, if_neg c1, if_pos rfl]
  by_cases c2 : hIn x2 2400
  rotate_left
  · refine ⟨-1, m, sI m 96 0 0, ?_, ?_, h.th rfl rfl⟩
    · rw [cx_hasP fu x1 m (by omega) h.2.1.2.1.1, hBd_some, if_pos c1, if_neg (by decide), cx_isHour, hBd_some, if_neg c2, if_pos rfl]
    · rw [hLet_n, rx_isPiece fu x1 _ (by omega) (h16 m id1), hBd_some, if_pos c1, if_neg (by decide), rx_isHour, hBd_some, if_neg c2, if_pos rfl]
  by_cases c3 : 1 ≤ x3.toInt ∧ x3.toInt ≤ 3
  rotate_left
  · refine ⟨-1, m, sI m 96 0 0, ?_, ?_, h.th rfl rfl⟩
    · rw [cx_hasP fu x1 m (by omega) h.2.1.2.1.1, hBd_some, if_pos c1, if_neg (by decide), cx_isHour, hBd_some, if_pos c2, if_neg (by decide)]
      by_cases y : x3 < 1
      · rw [if_pos y]
      · rw [if_neg y, if_neg (by rw [i_le, e3]; rw [i_lt, e1] at y; omega)]
    · rw [hLet_n, rx_isPiece fu x1 _ (by omega) (h16 m id1), hBd_some, if_pos c1, if_neg (by decide), rx_isHour, hBd_some, if_pos c2, if_neg (by decide), rx_inI, hBd_some, if_neg (show ¬ ((1 : Int64).toInt ≤ x3.toInt ∧ x3.toInt ≤ (3 : Int64).toInt) from c3), if_neg (by decide)]
  obtain ⟨p, hpc, rfl⟩ := hIn_of c1 (by omega)
  obtain ⟨x, hx, rfl⟩ := hIn_of c2 (by omega)
  obtain ⟨k, hk4, rfl⟩ := hIn_of (show hIn x3 4 from ⟨by omega, by omega⟩) (by omega)
  have hk : k ≤ 3 := by omega
  have cp : (nI p).toNatClampNeg = p := nI_clamp (by omega)
  have h8 : hIn (nI p) 8 := hIn_lt (show p < 8 by omega) (by omega)
  obtain ⟨b, hb, hbe⟩ := hIn_of (hp.2.2 p hpc).2.2.2.2.1 (by omega)
  have g23 : gI m 23 p = nI b := by rw [h.2.1.2.2 p hpc]; exact hbe
  have hL := hv.2.2.2.2.2.1
  have H := wH_of hv hp hpc hb (show 0 ≤ 3 by omega) hL
  obtain ⟨m2, a1, a2, a3⟩ := cx_grow (fu := fu) (by omega) (m := m) (n := n) (b := b) (k := 0) hn h.1.2.1 hb (by omega)
  have f2 := fr.p4w a3
  obtain ⟨res, m3, s1, s2, s3⟩ := cx_soonest (fu := fu) (by omega) (v := m) (m := m2) (lim := 2399) (x := x) (L := gI m 96 14) hv hp (h.p4 f2).2.1.2.1 (h.p4 f2).1.2 hpc hb (show 0 ≤ 3 by omega) hL rfl hx (by omega) a2
  have f3 : fr P4 m m3 := f2.tr (fr.p4q s2)
  have h3 := h.p4 f3
  have k3 : ∀ a j, 96 ≤ a → gI m3 a j = gI m a j := fun a j z => f3.1 a j (by unfold P4; omega)
  have A : f_X9_soonest fu (nI p) (nI x) 2399 m2 = some (res, m3) := s1
  have a1' : f_X9_grow fu (nI b) 0 m = some ((), m2) := a1
  have B : ∀ M : hM, (∀ a j, 96 ≤ a → gI M a j = gI m a j) → (∀ a j, gR M a j = gR m a j) → ∃ res' m5, f_X11_soonest fu (nI p) (nI x) 0 (sI M 96 0 0) = some (res', m5) ∧ frT (sI M 96 0 0) m5 ∧ rf2 m5 ∧ soR m n b p 0 x res' m5 := fun M z zr =>
    rx_soonest hfu hv hp hpc hb hbe (show 0 ≤ 3 by omega) hx (eqV_th (eqV_hi z)) (by unfold rf2; rw [gR_sI, gR_sI, zr, zr]; exact h.2.2.2.2.2.2.2.2.2.2.1)
  have rfM : ∀ M : hM, (∀ a j, gR M a j = gR m a j) → rfOk (sI M 96 0 0) := fun M zr => rfOk_cg h.2.2.2.2.2.2.2.2.2.2 (fun j => zr 96 j)
  rcases s3' : decide (res = -2) with - | -
  · have hne : ¬ res = -2 := of_decide_eq_false s3'
    -- the class goes on
    have hw : ∃ t0, x + t0 < 2399 ∧ res = nI (x + t0 + 1) := by
      rcases s3 with ⟨t, i, q1, q2, q3, q4, q5, q6, q7⟩ | q
      · exact ⟨t, q1, q6⟩
      · exact absurd q.2 hne
    obtain ⟨t0, ht0, hres⟩ := hw
    obtain ⟨m7, u1, u2, u3⟩ := cx_grow (fu := fu) (by omega) (m := setRow m3 67 66 1 [(nI (x + t0 + 1)).toInt64]) (n := n) (b := b) (k := k) hn (by rw [sr_In (by omega)]; exact h3.1.2.1) hb hk
    have k7 : ∀ a j, ¬ P4 a j → ¬ (a = 66 ∧ j = 1) → gI m7 a j = gI m3 a j := fun a j z1 z2 => by rw [u3.1 a j (fun y => z1 (by unfold PW at y; unfold P4; omega)), sr_In z2]
    obtain ⟨y, m9, w1, w2, w3⟩ := cx_edgeC (fu := fu) (by omega) (v := m) (n := n) (c := c) (p := p) (b := b) (k := k) (x := x) (t0 := t0) hv hp hpc hb hk hx ht0 m7 (eRel_fr h3.1.2 hn (fun a j z1 z2 => k7 a j (by unfold P4; omega) (by omega))) ⟨by rw [k7 _ _ (by unfold P4; omega) (by omega)]; exact h3.2.1.2.1.1, fun p hp => by
        rw [k7 19 _ (by unfold P4; omega) (by omega), k7 20 _ (by unfold P4; omega) (by omega), k7 21 _ (by unfold P4; omega) (by omega), k7 22 _ (by unfold P4; omega) (by omega), k7 24 _ (by unfold P4; omega) (by omega)]; exact h3.2.1.2.1.2 p hp⟩ u2
    have f9 : fr P4 (setRow m3 67 66 1 [(nI (x + t0 + 1)).toInt64]) m9 := (fr.p4w u3).tr (fr.p4q w2)
    have k9 : ∀ a j, 96 ≤ a → gI m9 a j = gI m a j := fun a j z => by rw [f9.1 a j (by unfold P4; omega), sr_In (by omega)]; exact k3 a j z
    have r9 : ∀ a j, gR m9 a j = gR m a j := fun a j => (f9.2.2 a j).trans (f3.2.2 a j)
    obtain ⟨res', m5, b1, b2, b3, b4⟩ := B m9 k9 r9
    rcases so_same hn H hx s3 b4 with ⟨t, i', q1, q2, q3, q4, q5, q6, q7, q8, q9⟩ | ⟨q1, -⟩
    · have ett : t = t0 := by
        rw [hres, nI_eq (by omega) (by omega)] at q3; omega
      subst ett
      have hnil : rtW (n - 1) b i' = [] := by
        have := (rt_rowV (n := n) (b := b) hb q2).2
        exact List.length_eq_zero_iff.mp (by omega)
      rw [hnil] at q9
      have e5 : ∀ a j, envC a j → gI m5 a j = gI m a j := fun a j z => (b2.eqV (eqV_th (eqV_hi k9))) a j z
      obtain ⟨y', m8, d1, d2, d3, d4⟩ := rx_edge67 hfu hv hp hpc hb hbe hk hx ht0 q9 (gI m 96 14) 20 fu m5 (by omega) (by omega) (fun a j z _ => e5 a j z) b3
      have ey := edP_one 20 _ _ w3 d4
      subst ey
      rw [if_pos rfl] at d1
      refine ⟨y, m9, setRow (sI m8 96 14 (gI m 96 14)) 97 96 1 [(nI (x + t + 1)).toInt64], ?_, ?_, ?_⟩
      · rw [cx_hasP fu _ m (by omega) h.2.1.2.1.1, hBd_some, if_pos c1, if_neg (by decide), cx_isHour, hBd_some, if_pos c2, if_neg (by decide), if_neg (show ¬ nI k < 1 by rw [i_lt, e1]; omega), if_pos (show nI k ≤ 3 by rw [i_le]; exact c3.2), if_pos h8, hLet_n, cp, g23, a1', hBd_some, A, hBd_some, if_pos hne, cx_clear, hBd_some, cx_tell fu m3 (by simp), hBd_some, hres]
        have u1' : f_X9_grow fu (nI b) (nI k) (setRow m3 67 66 1 ([] ++ [(nI (x + t + 1)).toInt64])) = some ((), m7) := u1
        rw [u1', hBd_some, hLet_n]
        exact w1
      · rw [hLet_n, rx_isPiece fu _ _ (by omega) (h16 _ k9), hBd_some, if_pos c1, if_neg (by decide), rx_isHour, hBd_some, if_pos c2, if_neg (by decide), rx_inI, hBd_some, if_pos (show ((1 : Int64).toInt ≤ (nI k).toInt ∧ (nI k).toInt ≤ (3 : Int64).toInt) from c3), if_pos (by decide), b1, hBd_some, if_pos (by rw [q4]; exact nI_pos' (by omega)), hLet_n, e5 96 14 (by unfold envC; omega), q4]
        have d1' : f_X11_edge_67 fu fu (nI p) (nI x) (nI k) (nI (x + t + 1)) (gI m 96 14) (-2) 1 20 m5 = _ := d1
        rw [d1']
        unfold f_X11_edge_122
        rw [hLet_n, hLet_n, sr_nil _ 97 96 1, rx_enters fu _ (by simp), hBd_some]; rfl
      · have g8 : ∀ a j, ¬ PT0 a j → gI (sI m8 96 14 (gI m 96 14)) a j = gI m9 a j := by
          intro a j z
          by_cases q : a = 96 ∧ j = 14
          · rw [q.1, q.2, gI_ss, k9 96 14 (by omega)]
          · rw [gI_sn q, d2.1 a j (fun y => y.elim (fun y => z (Or.inl y)) q), b2.1 a j (fun y => z (Or.inl y)), gI_sn (fun y => z (Or.inr y))]
        exact h3.q3T (F := m9) (m7 := sI m8 96 14 (gI m 96 14)) (xs := [(nI (x + t + 1)).toInt64]) (by simp) (fun a j z => f9.1 a j (by unfold cI at z; unfold P4; omega)) (fun j => f9.2.1 _ _) (fun a j z1 z2 => by rw [f9.1 a j (by unfold P4; omega), sr_In (by omega)]) k9 (fun j => by rw [f9.2.1, sr_Ln (by omega), f3.2.1]) (P := PT0) g8 (fun a j z => PT0_ok z) (fun j => by rw [gL_sI, d2.2.1, b2.2.1, gL_sI]) (fun j => by rw [gL_sI, d2.2.1, b2.2.1, gL_sI]) ⟨d3, by
          rw [gR_sI, gR_sI, d2.2.2 96 43 (by omega), d2.2.2 96 44 (by omega), b2.2.2 96 43 (by omega), b2.2.2 96 44 (by omega)]
          exact (rfM m9 r9).2⟩
    · exact absurd q1 hne
  · have hre : res = -2 := of_decide_eq_true s3'
    obtain ⟨res', m5, b1, b2, b3, b4⟩ := B m3 k3 f3.2.2
    rcases so_same hn H hx s3 b4 with ⟨t, i', q1, q2, q3, q4, -⟩ | ⟨q1, q2⟩
    · rw [q3] at hre
      exact absurd hre (nI_nm (by omega)).1
    · refine ⟨-1, m3, m5, ?_, ?_, ?_⟩
      · rw [cx_hasP fu _ m (by omega) h.2.1.2.1.1, hBd_some, if_pos c1, if_neg (by decide), cx_isHour, hBd_some, if_pos c2, if_neg (by decide), if_neg (show ¬ nI k < 1 by rw [i_lt, e1]; omega), if_pos (show nI k ≤ 3 by rw [i_le]; exact c3.2), if_pos h8, hLet_n, cp, g23, a1', hBd_some, A, hBd_some, if_neg (fun z => z hre)]
      · rw [hLet_n, rx_isPiece fu _ _ (by omega) (h16 _ k3), hBd_some, if_pos c1, if_neg (by decide), rx_isHour, hBd_some, if_pos c2, if_neg (by decide), rx_inI, hBd_some, if_pos (show ((1 : Int64).toInt ≤ (nI k).toInt ∧ (nI k).toInt ≤ (3 : Int64).toInt) from c3), if_pos (by decide), b1, hBd_some, q2, if_neg (by decide)]
      · exact h3.q1T k3 f3.2.1 (P := PT0) (fun a j z => by rw [b2.1 a j (fun y => z (Or.inl y)), gI_sn (fun y => z (Or.inr y))]) (fun a j z => PT0_ok z) (fun j => b2.2.1 _ _) (fun j => b2.2.1 _ _) (rf2_ok (rfM _ f3.2.2) b2 b3)
