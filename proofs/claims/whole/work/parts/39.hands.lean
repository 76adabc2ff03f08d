/-! ===== a piece is handed on ===== -/
def hnS (v : hM) (p o h : Nat) (S : Nat → Int32) : Nat → Int32 :=
  if 60 ≤ S 2 then up (up (up (up S (3 + p) (nI o)) (11 + p) (S (11 + p) + lst v (S (3 + p)).toNatClampNeg o h)) (59 + p) (S (59 + p) + lst v (S (3 + p)).toNatClampNeg o h)) (51 + p) (S (51 + p) + 1)
  else up (up (up (up (up (up S (3 + p) (nI o)) (11 + p) (S (11 + p) + lst v (S (3 + p)).toNatClampNeg o h)) (59 + p) (S (59 + p) + lst v (S (3 + p)).toNatClampNeg o h)) (51 + p) (S (51 + p) + 1)) (67 + (S 2).toNatClampNeg) (gI v 96 15 * (10 - gI v 107 (6 * (S (3 + p)).toNatClampNeg + o)) / 10)) 2 (nI ((S 2).toNatClampNeg + 1))
theorem wr_num {S : Nat → Int32} {v : hM} {n c : Nat} (hI : sInv v S n c) : ∃ k, k ≤ 60 ∧ S 2 = nI k := by
  obtain ⟨h1, h2⟩ := hI.2.1
  obtain ⟨k, hk, e⟩ := nI_of (x := S 2) (by rw [i_lt]; show ¬ _ < (0 : Int); omega)
  rw [e, nI_toInt hk] at h2
  exact ⟨k, by omega, e⟩
theorem hnS_k {v : hM} {p o h j k : Nat} {S : Nat → Int32} (hk : S 2 = nI k) (hk6 : k ≤ 60) (h1 : j ≠ 3 + p) (h2 : j ≠ 11 + p) (h3 : j ≠ 59 + p) (h4 : j ≠ 51 + p) (h5 : j < 67) (h6 : j ≠ 2) : hnS v p o h S j = S j := by
  unfold hnS
  split
  · rw [up_n h4, up_n h3, up_n h2, up_n h1]
  · rw [hk, nI_clamp (show k < 2 ^ 31 by omega), up_n h6, up_n (by omega), up_n h4, up_n h3, up_n h2, up_n h1]
theorem hnS_inv {v : hM} {p o h n c : Nat} {S : Nat → Int32} (hc : c ≤ 8) (hn : n ≤ 6) (hpc : p < c) (ho : o < n) (hI : sInv v S n c) : sInv v (hnS v p o h S) n c := by
  obtain ⟨k, hk, hke⟩ := wr_num hI
  refine ⟨fun p' hp' => ⟨?_, ?_⟩, ?_, ?_⟩
  · by_cases e : p' = p
    · subst e
      have : hnS v p' o h S (3 + p') = nI o := by
        unfold hnS
        split
        · rw [up_n (by omega), up_n (by omega), up_n (by omega), up_s]
        · rw [hke, nI_clamp (show k < 2 ^ 31 by omega), up_n (by omega), up_n (by omega), up_n (by omega), up_n (by omega), up_n (by omega), up_s]
      rw [this]; exact hIn_lt ho (by omega)
    · rw [hnS_k hke hk (by omega) (by omega) (by omega) (by omega) (by omega) (by omega)]; exact (hI.1 p' hp').1
  · rw [hnS_k hke hk (by omega) (by omega) (by omega) (by omega) (by omega) (by omega)]; exact (hI.1 p' hp').2
  · unfold hnS
    split
    · rw [up_n (by omega), up_n (by omega), up_n (by omega), up_n (by omega)]; exact hI.2.1
    · rename_i q
      rw [up_s, hke, nI_clamp (show k < 2 ^ 31 by omega)]
      rw [hke, show (60 : Int32) = nI 60 from rfl, nI_leI (by omega) (by omega)] at q
      rw [nI_toInt (by omega)]; omega
  · rw [hnS_k hke hk (by omega) (by omega) (by omega) (by omega) (by omega) (by omega)]; exact hI.2.2
theorem rx_hands {fu : Nat} (hfu : 100 ≤ fu) {v : hM} {n c : Nat} (hv : vRel v n) (hp : pRng v n c) {S : Nat → Int32} (hI : sInv v S n c) {p o h : Nat} (hpc : p < c) (ho : o < n) (hh : h ≤ 2400) {m : hM} (g : eqV v m) (hS : rS S m) :
    ∃ m', f_X11_hands fu (nI p) (nI o) (nI h) m = some (lst v (S (3 + p)).toNatClampNeg o h, m') ∧ rS (hnS v p o h S) m' ∧ fr (fun a _ => a = 114) m m' := by
  have hn := hv.1
  have hc := hp.1
  obtain ⟨a, ha, hae⟩ := hIn_of (hI.1 p hpc).1 (by omega)
  obtain ⟨k, hk, hke⟩ := wr_num hI
  have ca : (nI a).toNatClampNeg = a := nI_clamp (by omega)
  have ck : (nI k).toNatClampNeg = k := nI_clamp (by omega)
  have i3 : hIn (nI (3 + p)) 127 := hIn_lt (by omega) (by omega)
  have i11 : hIn (nI (11 + p)) 127 := hIn_lt (by omega) (by omega)
  have i51 : hIn (nI (51 + p)) 127 := hIn_lt (by omega) (by omega)
  have i59 : hIn (nI (59 + p)) 127 := hIn_lt (by omega) (by omega)
  have c3 : (nI (3 + p)).toNatClampNeg = 3 + p := nI_clamp (by omega)
  have c11 : (nI (11 + p)).toNatClampNeg = 11 + p := nI_clamp (by omega)
  have c51 : (nI (51 + p)).toNatClampNeg = 51 + p := nI_clamp (by omega)
  have c59 : (nI (59 + p)).toNatClampNeg = 59 + p := nI_clamp (by omega)
  have kx := kn_ix (show a < 6 by omega) (show o < 6 by omega)
  have e3 : gI m 114 (3 + p) = nI a := by rw [hS _ (by omega), hae]
  have last : ∀ (x : Int32) (m1 : hM), f_X11_hands_119 fu (nI p) (nI o) x m1 = some (x, sI m1 114 (3 + p) (nI o)) := fun x m1 => by
    unfold f_X11_hands_119; rw [q_3, if_pos i3, hLet_n, c3]
  have s1 : rS (up (up (up S (11 + p) (S (11 + p) + lst v a o h)) (59 + p) (S (59 + p) + lst v a o h)) (51 + p) (S (51 + p) + 1)) (sI (sI (sI m 114 (11 + p) (S (11 + p) + lst v a o h)) 114 (59 + p) (S (59 + p) + lst v a o h)) 114 (51 + p) (S (51 + p) + 1)) := ((hS.u).u).u
  unfold f_X11_hands
  rw [q_3, q_11, q_51, q_59, if_pos i3, c3, c11, c51, c59, hLet_n, e3, rx_lostOf (by omega) (show a < 6 by omega) (show o < 6 by omega) (by omega), hBd_some, lst_eqV g, if_pos i11, if_pos i11, hS (11 + p) (by omega), hLet_n, if_pos i59, if_pos i59, gI_sn (show ¬ (114 = 114 ∧ 59 + p = 11 + p) by omega), hS (59 + p) (by omega), hLet_n, if_pos i51, if_pos i51, gI_sn (show ¬ (114 = 114 ∧ 51 + p = 59 + p) by omega), gI_sn (show ¬ (114 = 114 ∧ 51 + p = 11 + p) by omega), hS (51 + p) (by omega), hLet_n, last]
  have f1 : fr (fun a _ => a = 114) m (sI (sI (sI m 114 (11 + p) (S (11 + p) + lst v a o h)) 114 (59 + p) (S (59 + p) + lst v a o h)) 114 (51 + p) (S (51 + p) + 1)) := f114 (f114 (f114 fr.rf))
  generalize hMe : sI (sI (sI m 114 (11 + p) (S (11 + p) + lst v a o h)) 114 (59 + p) (S (59 + p) + lst v a o h)) 114 (51 + p) (S (51 + p) + 1) = m3
  rw [hMe] at s1 f1
  have e2 : gI m3 114 2 = nI k := by rw [s1 _ (by omega), up_n (by omega), up_n (by omega), up_n (by omega), hke]
  rw [e2, hae, ca]
  by_cases q : (60 : Int32) ≤ nI k
  · rw [if_pos q]
    refine ⟨_, rfl, ?_, f114 f1⟩
    have := s1.u (i := 3 + p) (x := nI o)
    rw [up_c _ _ _ (show 51 + p ≠ 3 + p by omega), up_c _ _ _ (show 59 + p ≠ 3 + p by omega), up_c _ _ _ (show 11 + p ≠ 3 + p by omega)] at this
    unfold hnS
    rw [hke, if_pos q, hae, ca]
    exact this
  · rw [if_neg q, kx.2.1, if_pos kx.2.2.1, q_67]
    have k60 : k < 60 := by
      rw [show (60 : Int32) = nI 60 from rfl, nI_leI (by omega) (by omega)] at q; omega
    rw [if_pos (hIn_lt (show 67 + k < 127 by omega) (by omega)), hLet_n, nI_clamp (show 67 + k < 2 ^ 31 by omega), gI_sn (show ¬ (114 = 114 ∧ 2 = 67 + k) by omega), e2, hLet_n, last, nI_1, kx.2.2.2, f1.1 96 15 (by omega), f1.1 107 _ (by omega), g 96 15 (by unfold envC; omega), g.a (6 * a + o) (show 98 ≤ 107 by omega) (by omega)]
    refine ⟨_, rfl, ?_, f114 (f114 (f114 f1))⟩
    have := ((s1.u (i := 67 + k) (x := gI v 96 15 * (10 - gI v 107 (6 * a + o)) / 10)).u (i := 2) (x := nI (k + 1))).u (i := 3 + p) (x := nI o)
    rw [up_c _ _ _ (show 2 ≠ 3 + p by omega), up_c _ _ _ (show 67 + k ≠ 3 + p by omega), up_c _ _ _ (show 51 + p ≠ 3 + p by omega), up_c _ _ _ (show 59 + p ≠ 3 + p by omega), up_c _ _ _ (show 11 + p ≠ 3 + p by omega)] at this
    unfold hnS
    rw [hke, if_neg q, hae, ca, ck]
    exact this
theorem cx_handTo (fu : Nat) {v m : hM} {n c s : Nat} (hs : s ∈ stL) (hv : vRel v n) (hee : eRel v m n) (hc : c ≤ 8) {S : Nat → Int32} (hI : sInv v S n c) {p o h : Nat} (hpc : p < c) (ho : o < n) (hh : h ≤ 2400) (hR : sRel S m s c) :
    ∃ m', f_X8_handTo fu s (nI p) (nI o) (nI h) m = some (lst v (S (3 + p)).toNatClampNeg o h, m') ∧ sRel (hnS v p o h S) m' s c ∧ fr (fun a _ => s ≤ a ∧ a ≤ s + 8) m m' := by
  have hn := hv.1
  have hsr := st_rng hs
  obtain ⟨a, ha, hae⟩ := hIn_of (hI.1 p hpc).1 (by omega)
  obtain ⟨k, hk, hke⟩ := wr_num hI
  have ca : (nI a).toNatClampNeg = a := nI_clamp (by omega)
  have ck : (nI k).toNatClampNeg = k := nI_clamp (by omega)
  have h8 : hIn (nI p) 8 := hIn_lt (show p < 8 by omega) (by omega)
  have cp : (nI p).toNatClampNeg = p := nI_clamp (by omega)
  have kx := kn_ix (show a < 6 by omega) (show o < 6 by omega)
  have pc0 := hR.2.2.2.2.1 p hpc
  have e1 : gI m (s + 1) p = nI a := by rw [pc0.1, hae]
  obtain ⟨z, z1, z2⟩ := cx_bothFrom fu (show a < 6 by omega) (show o < 6 by omega) (show h + 24 ≤ 2500 by omega) (hee.2.2.2.1 a ha).2.2 (hee.2.2.2.1 o ho).2.2
  unfold f_X8_handTo
  rw [if_pos hs, if_pos h8, hLet_n, cp, e1, z1, hBd_some, cx_lostBy fu (by omega) (by omega) z2 hee.2.1 (hee.2.2.2.2.2.1 a o ha ho), hBd_some, if_pos h8, hLet_n, if_pos h8, if_pos h8]
  have a1 := sRel_u1 hR hpc (nI o)
  have f1 : fr (fun a _ => s ≤ a ∧ a ≤ s + 8) m (sI m (s + 1) p (nI o)) := fr.rf.si ⟨by omega, by omega⟩
  generalize hM1 : sI m (s + 1) p (nI o) = m1
  rw [hM1] at a1 f1
  rw [(a1.2.2.2.2.1 p hpc).2.1, up_n (show 11 + p ≠ 3 + p by omega), hLet_n, if_pos h8, if_pos h8]
  have a2 := sRel_u2 a1 hpc (S (11 + p) + lst v a o h)
  have f2 : fr (fun a _ => s ≤ a ∧ a ≤ s + 8) m (sI m1 (s + 2) p (S (11 + p) + lst v a o h)) := f1.si ⟨by omega, by omega⟩
  generalize hM2 : sI m1 (s + 2) p (S (11 + p) + lst v a o h) = m2
  rw [hM2] at a2 f2
  rw [(a2.2.2.2.2.1 p hpc).2.2.2.2.2.2.1, up_n (show 59 + p ≠ 11 + p by omega), up_n (show 59 + p ≠ 3 + p by omega), hLet_n, if_pos h8, if_pos h8]
  have a3 := sRel_u7 a2 hpc (S (59 + p) + lst v a o h)
  have f3 : fr (fun a _ => s ≤ a ∧ a ≤ s + 8) m (sI m2 (s + 7) p (S (59 + p) + lst v a o h)) := f2.si ⟨by omega, by omega⟩
  generalize hM3 : sI m2 (s + 7) p (S (59 + p) + lst v a o h) = m3
  rw [hM3] at a3 f3
  rw [(a3.2.2.2.2.1 p hpc).2.2.2.2.2.1, up_n (show 51 + p ≠ 59 + p by omega), up_n (show 51 + p ≠ 11 + p by omega), up_n (show 51 + p ≠ 3 + p by omega), hLet_n]
  have a4 := sRel_u6 a3 hpc (S (51 + p) + 1)
  have f4 : fr (fun a _ => s ≤ a ∧ a ≤ s + 8) m (sI m3 (s + 6) p (S (51 + p) + 1)) := f3.si ⟨by omega, by omega⟩
  generalize hM4 : sI m3 (s + 6) p (S (51 + p) + 1) = m4
  rw [hM4] at a4 f4
  have e12 : gI m4 s 12 = nI k := by rw [a4.2.2.2.1, up_n (by omega), up_n (by omega), up_n (by omega), up_n (by omega), hke]
  rw [e12, hae, ca]
  by_cases q : (60 : Int32) ≤ nI k
  · rw [if_pos q]
    refine ⟨_, rfl, ?_, f4⟩
    unfold hnS
    rw [hke, if_pos q, hae, ca]
    exact a4
  · have k60 : k < 60 := by
      rw [show (60 : Int32) = nI 60 from rfl, nI_leI (by omega) (by omega)] at q; omega
    unfold f_X0_wrongBetween
    rw [if_neg q, kx.1, if_pos kx.2.2.1, hBd_some, if_pos (hIn_lt (show k < 60 by omega) (by omega)), hLet_n, ck, kx.2.2.2, f4.1 1 6 (by omega), f4.1 3 _ (by omega), hee.2.2.1, hee.2.2.2.2.2.1 a o ha ho, gI_sn (show ¬ (s = s + 8 ∧ 12 = k) by omega), e12, nI_1, hLet_n]
    refine ⟨_, rfl, ?_, (f4.si ⟨by omega, by omega⟩).si ⟨by omega, by omega⟩⟩
    unfold hnS
    rw [hke, if_neg q, hae, ca, ck]
    exact sRel_b a4 k60 (by rw [up_n (by omega), up_n (by omega), up_n (by omega), up_n (by omega), hke]) _
