/-! ===== site, together with its refusals ===== -/
def siOk (n c : Nat) (x1 x2 x3 x4 : Int32) : Prop := (1 ≤ x1.toInt ∧ x1.toInt ≤ 16) ∧ ((64 ≤ x2.toInt ∧ x2.toInt < 640) ∧ x2.toInt % 64 ≠ 0) ∧ (0 ≤ x3.toInt ∧ x3.toInt ≤ 9) ∧ hIn x4 2400 ∧ n < 6 ∧ c ≠ 0
theorem cx_siteNo (fu : Nat) {v m : hM} {n c : Nat} (hn : n ≤ 6) (hc : c ≤ 8) (h1 : gI m 1 4 = nI n) (h18 : gI m 18 6 = nI c) (x1 x2 x3 x4 : Int32) (h : ¬ siOk n c x1 x2 x3 x4) : f_X10_site fu x1 x2 x3 x4 m = some (-1, m) := by
  have e0 : (0 : Int32).toInt = 0 := rfl
  have e1 : (1 : Int32).toInt = 1 := rfl
  have e16 : (16 : Int32).toInt = 16 := rfl
  have e9 : (9 : Int32).toInt = 9 := rfl
  unfold f_X10_site
  by_cases c1 : x1 < 1
  · rw [if_pos c1]
  rw [if_neg c1]
  by_cases c2 : 16 < x1
  · rw [if_pos c2]
  rw [if_neg c2, cx_isStaff, hBd_some]
  rw [i_lt] at c1 c2
  by_cases c3 : (64 ≤ x2.toInt ∧ x2.toInt < 640) ∧ x2.toInt % 64 ≠ 0
  rotate_left
  · rw [if_neg c3, if_pos rfl]
  rw [if_pos c3, if_neg (by decide)]
  by_cases c4 : x3 < 0
  · rw [if_pos c4]
  rw [if_neg c4]
  by_cases c5 : x3 ≤ 9
  rotate_left
  · rw [if_neg c5]
  rw [if_pos c5, cx_isHour, hBd_some]
  rw [i_lt] at c4
  rw [i_le] at c5
  by_cases c6 : hIn x4 2400
  rotate_left
  · rw [if_neg c6, if_pos rfl]
  rw [if_pos c6, if_neg (by decide), h1]
  by_cases c7 : nI 6 ≤ nI n
  · rw [if_pos (show (6 : Int32) ≤ nI n from c7)]
  rw [if_neg (show ¬ (6 : Int32) ≤ nI n from c7), h18]
  rw [nI_leI (by omega) (by omega)] at c7
  by_cases c8 : c = 0
  · rw [if_neg (fun z => z (by rw [c8]; rfl))]
  exact absurd ⟨⟨by omega, by omega⟩, c3, ⟨by omega, by omega⟩, c6, by omega, c8⟩ h
theorem staff_in {x2 : Int32} (h : 0 ≤ x2.toInt) : ((1 ≤ (x2 / 64).toInt ∧ (x2 / 64).toInt ≤ 9) ∧ (1 ≤ (x2 - x2 / 64 * 64).toInt ∧ (x2 - x2 / 64 * 64).toInt ≤ 63)) ↔ ((64 ≤ x2.toInt ∧ x2.toInt < 640) ∧ x2.toInt % 64 ≠ 0) := by
  obtain ⟨q1, q2, _, t4, h31⟩ := st_num (x4 := x2) h
  rw [q2, q1, nI_toInt (by omega), nI_toInt (by omega)]
  omega
theorem rx_siteNo (fu : Nat) {m : hM} {n c : Nat} (hn : n ≤ 6) (hc : c ≤ 8) (h3 : gI m 96 3 = nI n) (h16 : gI m 96 16 = nI c) (x1 x2 x3 x4 : Int32) (h : ¬ siOk n c x1 x2 x3 x4) : f_X11_site fu x1 x2 x3 x4 m = some (-1, sI m 96 0 0) := by
  have e0 : (0 : Int32).toInt = 0 := rfl
  have no : f_X11_site_75 fu x1 x2 x3 x4 (sI m 96 0 0) = some (-1, sI m 96 0 0) := by unfold f_X11_site_75 f_X11_site_76; rw [if_pos rfl]
  unfold f_X11_site
  rw [hLet_n, rx_inI, hBd_some, no]
  by_cases c1 : (1 : Int64).toInt ≤ x1.toInt ∧ x1.toInt ≤ (16 : Int64).toInt
  rotate_left
  · rw [if_neg c1, if_pos rfl]
  rw [if_pos c1, if_neg (by decide)]
  by_cases c2 : x2 < 0
  · rw [if_pos c2]
  rw [if_neg c2, rx_inI, hBd_some, no]
  rw [i_lt, e0] at c2
  by_cases c3 : (1 : Int64).toInt ≤ (x2 / 64).toInt ∧ (x2 / 64).toInt ≤ (9 : Int64).toInt
  rotate_left
  · rw [if_neg c3, if_pos rfl]
  rw [if_pos c3, if_neg (by decide), rx_inI, hBd_some, no]
  by_cases c4 : (1 : Int64).toInt ≤ (x2 - x2 / 64 * 64).toInt ∧ (x2 - x2 / 64 * 64).toInt ≤ (63 : Int64).toInt
  rotate_left
  · rw [if_neg c4, if_pos rfl]
  rw [if_pos c4, if_neg (by decide), rx_inI, hBd_some, no]
  by_cases c5 : (0 : Int64).toInt ≤ x3.toInt ∧ x3.toInt ≤ (9 : Int64).toInt
  rotate_left
  · rw [if_neg c5, if_pos rfl]
  rw [if_pos c5, if_neg (by decide), rx_isHour, hBd_some, no]
  by_cases c6 : hIn x4 2400
  rotate_left
  · rw [if_neg c6, if_pos rfl]
  rw [if_pos c6, if_neg (by decide)]
  unfold f_X11_site_76
  rw [if_neg (by decide), gI_sn (by omega), h3, gI_sn (by omega), h16]
  by_cases c7 : nI n = 6
  · rw [if_pos c7]
  rw [if_neg c7]
  by_cases c8 : c = 0
  · rw [if_neg (fun z => z (by rw [c8]; rfl))]
  have c9 : n ≠ 6 := fun z => c7 (by rw [z]; rfl)
  exact absurd ⟨c1, (staff_in (by omega)).mp ⟨c3, c4⟩, c5, c6, by omega, c8⟩ h
theorem PJ_ok {n a j : Nat} (h : PJ n a j) : 96 ≤ a ∧ (rI a j → 98 ≤ a ∧ a ≤ 107) := by
  rcases h with h | h
  · exact ⟨(P0S_ok h).1, fun y => absurd y (P0S_ok h).2⟩
  · unfold jnk at h; exact ⟨by omega, fun _ => by omega⟩
theorem ok_site {fu : Nat} (hfu : 3000 ≤ fu) {m : hM} (h : IV m) (x1 x2 x3 x4 : Int32) : okC (f_X10_site fu x1 x2 x3 x4) (f_X11_site fu x1 x2 x3 x4) m := by
  obtain ⟨n, c, k, t, h⟩ := h
  have hp := h.2.1.1
  have hn := h.1.1.1
  have hc := hp.1
  by_cases ok : siOk n c x1 x2 x3 x4
  rotate_left
  · exact ⟨-1, m, sI m 96 0 0, cx_siteNo fu (v := m) hn hc h.1.2.1 h.2.1.2.1.1 x1 x2 x3 x4 ok, rx_siteNo fu hn hc h.1.1.2.1 hp.2.1 x1 x2 x3 x4 ok, h.th rfl rfl⟩
  obtain ⟨o1, ⟨o2, o2'⟩, o3, o4, o5, o6⟩ := ok
  have nc : ¬ nI c = 0 := nI_ne0 (by omega) (by omega)
  obtain ⟨x, hx, rfl⟩ := hIn_of o4 (by omega)
  have e0 : (0 : Int32).toInt = 0 := rfl
  have e1 : (1 : Int32).toInt = 1 := rfl
  have e16 : (16 : Int32).toInt = 16 := rfl
  have e9 : (9 : Int32).toInt = 9 := rfl
  obtain ⟨m1, m2, a1, a2, a3, a4⟩ := h.cw.beg hfu hx 2399 (sFn m)
  have e14 : gI m2 1 4 = nI n := a3.1.2.1.1
  obtain ⟨m3, b1, b2, b3⟩ := cx_toAll (show 100 ≤ fu by omega) o5 x3 (sI m2 1 4 (nI (n + 1))) (gI_ss _ _ _ _)
  have g3 : ∀ a j, a ≠ 3 → ¬ (a = 1 ∧ j = 4) → gI m3 a j = gI m2 a j := fun a j z1 z2 => by rw [b3.1 a j z1, gI_sn z2]
  have sE3 : sE m m3 n x3 := sE_of o5 a3.1.2.1 (fun a b ha hb => by rw [b2 a b ha hb, gI_sn (by omega)]) g3 (by rw [b3.1 _ _ (by omega), gI_ss])
  have f3 : fr PE m m3 := (fr.PEw a4).tr ((fr.rf.si (Or.inl ⟨by omega, by omega⟩)).tr (b3.mono (fun a j z => Or.inl (by omega))))
  obtain ⟨m4, s1, s2, s3⟩ := cx_site122 hfu (cEnd m n c x (begR m (nI x) c (sFn m)) 2399) h.1.1 o5 hx (by omega) hc o1 o2 o2' o3 fu 0 m3 (by omega) (by omega) ⟨sE3, m, m2, n, a3, by omega, fun _ _ _ _ => rfl, fun a j z1 z2 => g3 a j (by omega) (by omega)⟩
  have s1' : f_X10_site_122 fu fu x1 x2 (nI x) (cEnd m n c x (begR m (nI x) c (sFn m)) 2399) (nI n) (-2) 2400 0 m3 = _ := s1
  obtain ⟨sE4, u, mu, nu, hu, hnu, hgu, hfu'⟩ := s2
  obtain ⟨m5, d1, d2, d3⟩ := cx_toAll (show 100 ≤ fu by omega) o5 0 m4 sE4.1
  have g5 : ∀ a j, a ≠ 3 → ¬ (a = 1 ∧ j = 4) → gI (sI m5 1 4 (nI n)) a j = gI m4 a j := fun a j z1 z2 => by rw [gI_sn z2, d3.1 a j z1]
  have eF : eRel m (sI m5 1 4 (nI n)) n := sE_back o5 sE4 (fun a b ha hb => by rw [gI_sn (by omega)]; exact d2 a b ha hb) g5 (gI_ss _ _ _ _)
  have fF : fr PE m (sI m5 1 4 (nI n)) := f3.tr (s3.tr ((d3.mono (fun a j z => Or.inl (by omega))).si (Or.inl ⟨by omega, by omega⟩)))
  have jF : jk (sI m5 1 4 (nI n)) 55 c := jk_cg hu.2.2.2.1 (fun a j z1 z2 => by rw [g5 a j (by omega) (by omega)]; exact hfu' a j (by omega) (by omega))
  generalize hFe : sI m5 1 4 (nI n) = F at g5 eF fF jF
  have kF := PE_hi fF
  have h6 : IW m F n c k t := h.m6 fF ⟨h.1.1, eF⟩ jF
  -- the reference
  have ref : ∀ M0 : hM, (∀ a j, 96 ≤ a → gI M0 a j = gI m a j) → ∃ p, (∀ M, f_X11_site fu x1 x2 x3 (nI x) M0 = M ↔ f_X11_site_226 fu (eEnd m n c x (begR m (nI x) c (sFn m))) (wA (siB m n c x (sFn m) x1 (nI (x2.toNatClampNeg / 64)) (nI (x2.toNatClampNeg % 64)) x3 24)) (wB (siB m n c x (sFn m) x1 (nI (x2.toNatClampNeg / 64)) (nI (x2.toNatClampNeg % 64)) x3 24) 0) p = M) ∧ (∃ v1, vJn m v1 n ∧ RW v1 p n c (sFn m)) ∧ fr (PJ n) M0 p := by
    intro M0 z
    obtain ⟨p1, u1, u2, u3⟩ := (h.rw' z).beg hfu hx
    obtain ⟨p2, w1, w2, w3⟩ := rx_site119 hfu (eEnd m n c x (begR m (nI x) c (sFn m))) o5 hx (by omega) o1 o2 o2' o3 (h.rw' z) fu 0 p1 (by omega) (by omega) ⟨m, fun _ _ _ _ => rfl, u2⟩
    have w1' : f_X11_site_119 fu fu x1 x2 x3 (nI x) (eEnd m n c x (begR m (nI x) c (sFn m))) (-2) 0 0 p1 = _ := w1
    refine ⟨p2, fun M => ?_, w2, ((fr.th.tr (fr.p0 u3)).mono (fun a j y => Or.inl y)).tr w3⟩
    have st := (staff_in (x2 := x2) (by omega)).mpr ⟨o2, o2'⟩
    unfold f_X11_site
    rw [hLet_n, rx_inI, hBd_some, if_pos (show (1 : Int64).toInt ≤ x1.toInt ∧ x1.toInt ≤ (16 : Int64).toInt from o1), if_neg (by decide), if_neg (show ¬ x2 < 0 by rw [i_lt, e0]; omega), rx_inI, hBd_some, if_pos (show (1 : Int64).toInt ≤ (x2 / 64).toInt ∧ (x2 / 64).toInt ≤ (9 : Int64).toInt from st.1), if_neg (by decide), rx_inI, hBd_some, if_pos (show (1 : Int64).toInt ≤ (x2 - x2 / 64 * 64).toInt ∧ (x2 - x2 / 64 * 64).toInt ≤ (63 : Int64).toInt from st.2), if_neg (by decide), rx_inI, hBd_some, if_pos (show (0 : Int64).toInt ≤ x3.toInt ∧ x3.toInt ≤ (9 : Int64).toInt from o3), if_neg (by decide), rx_isHour, hBd_some, if_pos o4, if_neg (by decide)]
    unfold f_X11_site_76
    have c7 : ¬ nI n = 6 := fun y => by
      have := (nI_eq (a := n) (b := 6) (by omega) (by omega)).mp y
      omega
    rw [if_neg (by decide), gI_sn (by omega), z 96 3 (by omega), h.1.1.2.1, if_neg c7, gI_sn (by omega), z 96 16 (by omega), hp.2.1, if_pos nc, u1, hBd_some, w1']
  have fin : ∀ (M0 p : hM) (V : hM), IW V M0 n c k t → (∀ a j, rI a j → ¬ (98 ≤ a ∧ a ≤ 107) → gI p a j = gI V a j) → (∀ j, gL p 97 j = gL V 97 j) → (∀ j, gL p 67 j = gL M0 67 j) → (∀ j, gR p 96 j = gR V 96 j) → (∀ a j, a ≤ 95 → gI p a j = gI M0 a j) → eRel m M0 n → (∃ v1, vJn m v1 n ∧ RW v1 p n c (sFn m)) → IV p := by
    intro M0 p V hV g1 g2 g2' g3 g4 he ⟨v1, j1, r1⟩
    have hvp : vRel p n := vRel_eqV r1.1 r1.2.2.2.2.1
    have hep : eRel p p n := eRel_v (eRel_j o5 (eRel_fr he hn (fun a j z1 z2 => g4 a j (by omega))) j1) r1.2.2.2.2.1
    exact ⟨n, c, k, t, hV.earth (Nat.le_refl n) ⟨hvp, hep⟩ (fun a j z1 z2 z3 => g1 a j z1 z2) g2 (fun z => rfOk_cg z g3) (fun a j z1 z2 => g4 a j (by unfold cI at z1; omega)) g2' (jk_cg hV.2.2.2.2.2.1 (fun a j z1 z2 => g4 a j (by omega)))⟩
  have clsA : f_X10_site fu x1 x2 x3 (nI x) m = f_X10_site_206 fu (cEnd m n c x (begR m (nI x) c (sFn m)) 2399) (nI n) (wA (siB m n c x (sFn m) x1 (nI (x2.toNatClampNeg / 64)) (nI (x2.toNatClampNeg % 64)) x3 24)) (wB (siB m n c x (sFn m) x1 (nI (x2.toNatClampNeg / 64)) (nI (x2.toNatClampNeg % 64)) x3 24) 2400) m4 := by
    unfold f_X10_site
    rw [if_neg (show ¬ x1 < 1 by rw [i_lt, e1]; omega), if_neg (show ¬ 16 < x1 by rw [i_lt, e16]; omega), cx_isStaff, hBd_some, if_pos (show (64 ≤ x2.toInt ∧ x2.toInt < 640) ∧ x2.toInt % 64 ≠ 0 from ⟨o2, o2'⟩), if_neg (by decide), if_neg (show ¬ x3 < 0 by rw [i_lt, e0]; omega), if_pos (show x3 ≤ 9 by rw [i_le, e9]; omega), cx_isHour, hBd_some, if_pos o4, if_neg (by decide), h.1.2.1, if_neg (show ¬ (6 : Int32) ≤ nI n from nI_ge (b := 6) o5 (by omega)), h.2.1.2.1.1, if_pos nc, a1, hBd_some, if_pos rfl, a2, hBd_some, hLet_n, e14, hLet_n, nI_1, b1, hBd_some, s1']
  cases hw : siB m n c x (sFn m) x1 (nI (x2.toNatClampNeg / 64)) (nI (x2.toNatClampNeg % 64)) x3 24 with
  | none =>
    obtain ⟨p, r1, r2, r3⟩ := ref F kF
    refine ⟨-2, F, p, ?_, (r1 _).mpr ?_, fin F p m h6 (fun a j z1 z2 => ?_) (fun j => (r3.2.1 _ _).trans (fF.2.1 _ _)) (fun j => r3.2.1 _ _) (fun j => (r3.2.2 _ _).trans (fF.2.2 _ _)) (fun a j z => r3.1 a j (fun y => by have := (PJ_ok y).1; omega)) eF r2⟩
    · rw [clsA, hw]
      unfold f_X10_site_206
      rw [d1, hBd_some, hLet_n, hFe, if_pos (show wA none = -2 from rfl)]
      rfl
    · rw [hw]; rfl
    · rw [r3.1 a j (fun y => z2 ((PJ_ok y).2 z1))]; exact kF a j (by unfold rI at z1; omega)
  | some y =>
    obtain ⟨z', h'⟩ := y
    have hz := siB_le hx hc (by omega) 24 z' h' hw
    have kR : ∀ xs : List Int64, ∀ a j, 96 ≤ a → gI (setRow F 67 66 1 xs) a j = gI m a j := fun xs a j z => by rw [sr_In (by omega)]; exact kF a j z
    obtain ⟨p, r1, ⟨v1, r2, r2'⟩, r3⟩ := ref (setRow F 67 66 1 ([(nI h').toInt64] ++ [(eEnd m n c x (begR m (nI x) c (sFn m))).toInt64])) (kR _)
    refine ⟨nI z', setRow F 67 66 1 ([(nI h').toInt64] ++ [(eEnd m n c x (begR m (nI x) c (sFn m))).toInt64]), setRow p 97 96 1 ([(nI h').toInt64] ++ [(eEnd m n c x (begR m (nI x) c (sFn m))).toInt64]), ?_, (r1 _).mpr ?_, fin (setRow F 67 66 1 ([(nI h').toInt64] ++ [(eEnd m n c x (begR m (nI x) c (sFn m))).toInt64])) _ (setRow m 97 96 1 ([(nI h').toInt64] ++ [(eEnd m n c x (begR m (nI x) c (sFn m))).toInt64])) (h6.row (by simp)) (fun a j z1 z2 => ?_) (fun j => ?_) (fun j => ?_) (fun j => (r3.2.2 _ _).trans (fF.2.2 _ _)) (fun a j z => ?_) (eRel_fr eF hn (fun a j z1 z2 => sr_In (by omega))) ⟨v1, r2, r2'.keep (fun a j z => sr_In (by rcases z with z | z; unfold envC at z; omega; omega))⟩⟩
    · rw [clsA, hw]
      unfold f_X10_site_206 f_X10_site_269
      rw [d1, hBd_some, hLet_n, hFe, if_neg (show ¬ wA (some (z', h')) = -2 from (nI_nm (show z' ≤ 2399 by omega)).1), cx_clear, hBd_some, cx_tell fu F (by simp), hBd_some, cx_tell fu F (by simp), hBd_some, cx_tell fu F (by simp), hBd_some]
      rcases cEnd_all (v := m) (n := n) (c := c) (S := begR m (nI x) c (sFn m)) hx with ⟨e, k1, k2, k3, k4⟩ | ⟨k1, k4⟩
      · rw [k4, k1, if_pos (nI_nm k3).1]; rfl
      · rw [k4, k1, if_neg (fun y => y rfl)]; rfl
    · rw [hw]
      unfold f_X11_site_226
      rw [if_neg (show ¬ wA (some (z', h')) < 0 from (nI_nm (show z' ≤ 2399 by omega)).2.2.1), hLet_n, sr_nil p 97 96 1, rx_enters fu p (by simp), hBd_some, rx_enters fu p (by simp), hBd_some]
      rfl
    · rw [sr_I, sr_I]
      by_cases q : a = 96 ∧ j = 1
      · rw [if_pos q, if_pos q]
      · rw [if_neg q, if_neg q, r3.1 a j (fun y => z2 ((PJ_ok y).2 z1))]; exact kR _ a j (by unfold rI at z1; omega)
    · rw [sr_L, sr_L]
      split
      · rfl
      · rw [r3.2.1, sr_Ln (m := F) (by omega)]; exact fF.2.1 _ _
    · rw [sr_Ln (m := p) (by omega)]; exact r3.2.1 _ _
    · rw [sr_In (m := p) (by omega)]; exact r3.1 a j (fun y => by have := (PJ_ok y).1; omega)
