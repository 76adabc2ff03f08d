/-! ===== piece, end, sign, count ===== -/
def pcOk (n c : Nat) (x1 x2 x3 x4 x5 : Int32) : Prop := c < 8 ∧ (6 ≤ x1.toInt ∧ x1.toInt < 366) ∧ (1 ≤ x2.toInt ∧ x2.toInt ≤ 60) ∧ (0 ≤ x3.toInt ∧ x3.toInt < 2 ^ c) ∧ hIn x4 n ∧ (x5 = -1 ∨ hIn x5 n)
theorem pw_c : ∀ c, c < 9 → ((1 : Int32) <<< (nI c &&& 31)).toInt = 2 ^ c ∧ ((1 : Int32) <<< (nI c &&& 31) - 1).toInt = 2 ^ c - 1 := by decide +kernel
theorem six_num {x1 : Int32} (h : 0 ≤ x1.toInt) : x1 / 6 = nI (x1.toNatClampNeg / 6) ∧ x1 - x1 / 6 * 6 = nI (x1.toNatClampNeg % 6) ∧ (x1.toNatClampNeg : Int) = x1.toInt ∧ x1.toNatClampNeg < 2 ^ 31 := by
  obtain ⟨j, hj, rfl⟩ := nI_of (x := x1) (by rw [i_lt]; simpa using h)
  rw [nI_clamp hj, nI_toInt hj, show (6 : Int32) = nI 6 from rfl]
  exact ⟨pk_div hj (by omega) (by omega), pk_rem hj (by omega) (by omega), rfl, hj⟩
theorem cx_pieceNo (fu : Nat) {m : hM} {n c : Nat} (hn : n ≤ 6) (hc : c ≤ 8) (h1 : gI m 1 4 = nI n) (h18 : gI m 18 6 = nI c) (x1 x2 x3 x4 x5 : Int32) (h : ¬ pcOk n c x1 x2 x3 x4 x5) : f_X10_piece fu x1 x2 x3 x4 x5 m = some (-1, m) := by
  unfold f_X10_piece
  rw [hLet_n, h18]
  by_cases c1 : nI 8 ≤ nI c
  · rw [if_pos (show (8 : Int32) ≤ nI c from c1)]
  rw [if_neg (show ¬ (8 : Int32) ≤ nI c from c1)]
  rw [nI_leI (by omega) (by omega)] at c1
  by_cases c2 : x1 < 6
  · rw [if_pos c2]
  rw [if_neg c2]
  by_cases c3 : x1 < 366
  rotate_left
  · rw [if_neg c3]
  rw [if_pos c3]
  by_cases c4 : x2 < 1
  · rw [if_pos c4]
  rw [if_neg c4]
  by_cases c5 : 60 < x2
  · rw [if_pos c5]
  rw [if_neg c5]
  by_cases c6 : x3 < 0
  · rw [if_pos c6]
  rw [if_neg c6]
  by_cases c7 : x3 < 1 <<< (nI c &&& 31)
  rotate_left
  · rw [if_neg c7]
  rw [if_pos c7, cx_has fu x4 m (by omega) h1, hBd_some]
  by_cases c8 : hIn x4 n
  rotate_left
  · rw [if_neg c8, if_pos rfl]
  rw [if_pos c8, if_neg (by decide), cx_has fu x5 m (by omega) h1, hBd_some]
  rw [i_lt] at c2 c3 c4 c5 c6 c7
  rw [(pw_c c (by omega)).1] at c7
  have e6 : (6 : Int32).toInt = 6 := rfl
  have e366 : (366 : Int32).toInt = 366 := rfl
  have e1 : (1 : Int32).toInt = 1 := rfl
  have e60 : (60 : Int32).toInt = 60 := rfl
  have e0 : (0 : Int32).toInt = 0 := rfl
  have ok : (x5 = -1 ∨ hIn x5 n) → False := fun z => h ⟨by omega, ⟨by omega, by omega⟩, ⟨by omega, by omega⟩, ⟨by omega, c7⟩, c8, z⟩
  by_cases c9 : x5 = -1
  · exact absurd (Or.inl c9) ok
  · rw [if_neg c9, if_neg (fun y => ok (Or.inr y)), if_neg (by decide)]
theorem rx_pieceNo (fu : Nat) {m : hM} {n c : Nat} (hn : n ≤ 6) (hc : c ≤ 8) (h3 : gI m 96 3 = nI n) (h16 : gI m 96 16 = nI c) (x1 x2 x3 x4 x5 : Int32) (h : ¬ pcOk n c x1 x2 x3 x4 x5) : f_X11_piece fu x1 x2 x3 x4 x5 m = some (-1, sI m 96 0 0) := by
  have no : f_X11_piece_67 fu x1 x2 x3 x4 x5 (sI m 96 0 0) = some (-1, sI m 96 0 0) := by unfold f_X11_piece_67 f_X11_piece_68; rw [if_pos rfl]
  have e0 : (0 : Int32).toInt = 0 := rfl
  have g3 : gI (sI m 96 0 0) 96 3 = nI n := by rw [gI_sn (by omega)]; exact h3
  have g16 : gI (sI m 96 0 0) 96 16 = nI c := by rw [gI_sn (by omega)]; exact h16
  unfold f_X11_piece
  rw [hLet_n, no]
  by_cases c1 : x1 < 0
  · rw [if_pos c1]
  rw [if_neg c1, rx_inI, hBd_some, no]
  rw [i_lt, e0] at c1
  obtain ⟨q1, q2, q3, q31⟩ := six_num (x1 := x1) (by omega)
  by_cases c2 : (1 : Int64).toInt ≤ (x1 / 6).toInt ∧ (x1 / 6).toInt ≤ (60 : Int64).toInt
  rotate_left
  · rw [if_neg c2, if_pos rfl]
  rw [if_pos c2, if_neg (by decide), rx_inI, hBd_some, no]
  by_cases c3 : (1 : Int64).toInt ≤ x2.toInt ∧ x2.toInt ≤ (60 : Int64).toInt
  rotate_left
  · rw [if_neg c3, if_pos rfl]
  rw [if_pos c3, if_neg (by decide), g16, rx_inI, hBd_some, no, Int32.toInt_toInt64, (pw_c c (by omega)).2]
  by_cases c4 : (0 : Int64).toInt ≤ x3.toInt ∧ x3.toInt ≤ 2 ^ c - 1
  rotate_left
  · rw [if_neg c4, if_pos rfl]
  rw [if_pos c4, if_neg (by decide), rx_isOffice fu x4 _ (by omega) g3, hBd_some, no]
  by_cases c5 : hIn x4 n
  rotate_left
  · rw [if_neg c5, if_pos rfl]
  rw [if_pos c5, if_neg (by decide)]
  unfold f_X11_piece_68 f_X11_piece_90
  rw [if_neg (by decide), rx_isOffice fu x5 _ (by omega) g3, hBd_some, g16]
  have q4 : (x1 / 6).toInt = ((x1.toNatClampNeg / 6 : Nat) : Int) := by rw [q1, nI_toInt (by omega)]
  have c2' : 1 ≤ (x1 / 6).toInt ∧ (x1 / 6).toInt ≤ 60 := c2
  have c4' : 0 ≤ x3.toInt := c4.1
  by_cases c8 : c = 8
  · have e8 : ¬ ¬ nI c = 8 := fun z => z (by rw [c8]; rfl)
    rw [if_neg e8]
    split
    · rfl
    · split <;> rfl
  · have ok : (x5 = -1 ∨ hIn x5 n) → False := fun z => h ⟨by omega, ⟨by omega, by omega⟩, c3, ⟨c4', by have := c4.2; omega⟩, c5, z⟩
    rw [if_neg (fun z => ok (Or.inl z)), if_neg (fun y => ok (Or.inr y)), if_pos rfl]
theorem piece_st {S : Nat → Int32} {v m : hM} {c : Nat} (fu : Nat) (hc : c < 8) (h : sRel S m 46 c) (h3 : gI m 23 c = gI v 111 c) (h1 : gI m 21 c = gI v 109 c) : ∃ m', f_X7_startPiece fu 46 (nI c) m = some ((), m') ∧ sRel (lay1 v c S) m' 46 (c + 1) ∧ fr (fun a _ => 46 ≤ a ∧ a ≤ 54) m m' := by
  have h8 : hIn (nI c) 8 := hIn_lt hc (by omega)
  have ck : (nI c).toNatClampNeg = c := nI_clamp (by omega)
  obtain ⟨r0, r1, r2, r3, r4, r5, r6, r7⟩ := h
  unfold f_X7_startPiece
  rw [if_pos (by decide), hLet_n, hLet_n, ck, if_pos h8, if_pos h8, hLet_n, if_pos h8, if_pos h8, hLet_n, if_pos h8, hLet_n, if_pos h8, hLet_n, if_pos h8, hLet_n, if_pos h8, hLet_n, if_pos h8, hLet_n]
  have lk : ∀ j, j < 3 ∨ 67 ≤ j ∨ (j - 3) % 8 ≠ c → lay1 v c S j = S j := fun j hj => lay1_k hj hc
  have l2 : lay1 v c S 2 = S 2 := lk 2 (by omega)
  refine ⟨_, rfl, ⟨by omega, ?_, ?_, ?_, fun p hp => ?_, fun i hi => ?_, fun i q1 q2 => ⟨?_, ?_⟩, fun p q1 q2 => ⟨?_, ?_⟩⟩, ?_⟩
  · simp (disch := omega) only [gI_sn]; rw [lk 0 (by omega)]; exact r1
  · simp (disch := omega) only [gI_sn]; rw [lk 1 (by omega)]; exact r2
  · simp (disch := omega) only [gI_sn]; rw [l2]; exact r3
  · by_cases e : p = c
    · subst e
      unfold pcS lay1
      refine ⟨?_, ?_, ?_, ?_, ?_, ?_, ?_, ?_, ?_⟩ <;> simp (disch := omega) only [gI_ss, gI_sn, up_s, up_n]
      · exact h3
      · exact h1
      · rw [b_clr (by omega) (by omega)]; simp
      · rw [b_clr (by omega) (by omega)]; simp
    · obtain ⟨k1, k2, k3, k4, k5, k6, k7, k8, k9⟩ := r4 p (by omega)
      unfold pcS
      rw [lk _ (by omega), lk _ (by omega), lk _ (by omega), lk _ (by omega), lk _ (by omega), lk _ (by omega), lk _ (by omega), lk _ (by omega)]
      refine ⟨?_, ?_, ?_, ?_, ?_, ?_, ?_, ?_, ?_⟩ <;> simp (disch := omega) only [gI_ss, gI_sn]
      · exact k1
      · exact k2
      · exact k3
      · exact k4
      · exact k5
      · exact k6
      · exact k7
      · rw [b_clr (by omega) (by omega), k8]; simp [e]
      · rw [b_clr (by omega) (by omega), k9]; simp [e]
  · rw [l2] at hi
    simp (disch := omega) only [gI_sn]; rw [lk _ (by omega)]; exact r5 i hi
  · simp (disch := omega) only [gI_ss, gI_sn]; rw [b_clr (by omega) q2, (r6 i (by omega) q2).1]; simp
  · simp (disch := omega) only [gI_ss, gI_sn]; rw [b_clr (by omega) q2, (r6 i (by omega) q2).2]; simp
  · simp (disch := omega) only [gI_sn]; exact (r7 p (by omega) q2).1
  · simp (disch := omega) only [gI_sn]; exact (r7 p (by omega) q2).2
  · refine (((((((((fr.rf.si ?_).si ?_).si ?_).si ?_).si ?_).si ?_).si ?_).si ?_).si ?_) <;> constructor <;> omega
theorem ok_piece {fu : Nat} {m : hM} (h : IV m) (x1 x2 x3 x4 x5 : Int32) : okC (f_X10_piece fu x1 x2 x3 x4 x5) (f_X11_piece fu x1 x2 x3 x4 x5) m := by
  obtain ⟨n, c, k, t, h⟩ := h
  have hn := h.1.1.1
  have hc := h.2.1.1.1
  by_cases ok : pcOk n c x1 x2 x3 x4 x5
  rotate_left
  · exact ⟨-1, m, sI m 96 0 0, cx_pieceNo fu hn hc h.1.2.1 h.2.1.2.1.1 x1 x2 x3 x4 x5 ok, rx_pieceNo fu hn hc h.1.1.2.1 h.2.1.1.2.1 x1 x2 x3 x4 x5 ok, h.th rfl rfl⟩
  obtain ⟨o1, o2, o3, o4, o5, o6⟩ := ok
  obtain ⟨q1, q2, q3, q31⟩ := six_num (x1 := x1) (by omega)
  have h8 : hIn (nI c) 8 := hIn_lt o1 (by omega)
  have cc : (nI c).toNatClampNeg = c := nI_clamp (by omega)
  obtain ⟨h1, h2, h3, h4, h5, h6, h7, h8', h9, h10, h11⟩ := h
  -- the class
  generalize hm2 : sI (sI (sI (sI (sI (sI (sI m 19 c (x1 - x1 / 6 * 6)) 20 c (x1 / 6)) 21 c x2) 22 c x3) 23 c x4) 24 c x5) 18 6 (nI (c + 1)) = m2
  have g2 : ∀ a j, ¬ (19 ≤ a ∧ a ≤ 24 ∧ j = c) → ¬ (a = 18 ∧ j = 6) → gI m2 a j = gI m a j := fun a j z1 z2 => by
    rw [← hm2, gI_sn z2, gI_sn (by omega), gI_sn (by omega), gI_sn (by omega), gI_sn (by omega), gI_sn (by omega), gI_sn (by omega)]
  have e19 : gI m2 19 c = x1 - x1 / 6 * 6 := by rw [← hm2]; simp (disch := omega) only [gI_ss, gI_sn]
  have e20 : gI m2 20 c = x1 / 6 := by rw [← hm2]; simp (disch := omega) only [gI_ss, gI_sn]
  have e21 : gI m2 21 c = x2 := by rw [← hm2]; simp (disch := omega) only [gI_ss, gI_sn]
  have e22 : gI m2 22 c = x3 := by rw [← hm2]; simp (disch := omega) only [gI_ss, gI_sn]
  have e23 : gI m2 23 c = x4 := by rw [← hm2]; simp (disch := omega) only [gI_ss, gI_sn]
  have e24 : gI m2 24 c = x5 := by rw [← hm2]; simp (disch := omega) only [gI_ss, gI_sn]
  have e18 : gI m2 18 6 = nI (c + 1) := by rw [← hm2, gI_ss]
  -- the reference's told pieces
  have mkV : ∀ M : hM, ∃ V, V = sI (sI (sI (sI (sI (sI M 108 c (x1 - x1 / 6 * 6)) 113 c (x1 / 6)) 109 c x2) 110 c x3) 111 c x4) 112 c x5 := fun M => ⟨_, rfl⟩
  obtain ⟨V, hV⟩ := mkV m
  have v111 : gI V 111 c = x4 := by rw [hV]; simp (disch := omega) only [gI_ss, gI_sn]
  have v109 : gI V 109 c = x2 := by rw [hV]; simp (disch := omega) only [gI_ss, gI_sn]
  obtain ⟨m3, a1, a2, a3⟩ := piece_st (v := V) (S := sFn m) fu o1 (sRel_fr h5.2 (fun a j z1 z2 => g2 a j (by omega) (by omega))) (e23.trans v111.symm) (e21.trans v109.symm)
  have l3 : gI m3 = gI m3 := rfl
  have g3 : ∀ a j, ¬ (19 ≤ a ∧ a ≤ 24 ∧ j = c) → ¬ (a = 18 ∧ j = 6) → ¬ (46 ≤ a ∧ a ≤ 54) → gI m3 a j = gI m a j := fun a j z1 z2 z3 => by rw [a3.1 a j z3, g2 a j z1 z2]
  have gl3 : ∀ a j, gL m3 a j = gL m a j := fun a j => by rw [a3.2.1, ← hm2]; rfl
  have gr3 : ∀ a j, gR m3 a j = gR m a j := fun a j => by rw [a3.2.2, ← hm2]; rfl
  obtain ⟨V3, hV3⟩ := mkV (sI m3 96 0 0)
  have k96 : ∀ a j, 96 ≤ a → gI m3 a j = gI m a j := fun a j z => g3 a j (by omega) (by omega) (by omega)
  have eV : ∀ a j, 96 ≤ a → ¬ (a = 96 ∧ j = 0) → gI V3 a j = gI V a j := fun a j z1 z2 => by
    rw [hV3, hV]
    simp only [gI_sI]
    rw [if_neg z2, k96 a j z1]
  have gV3 : ∀ a j, ¬ (108 ≤ a ∧ a ≤ 113 ∧ j = c) → gI V3 a j = gI (sI m3 96 0 0) a j := fun a j z => by
    rw [hV3, gI_sn (by omega), gI_sn (by omega), gI_sn (by omega), gI_sn (by omega), gI_sn (by omega), gI_sn (by omega)]
  have gVm : ∀ a j, ¬ (108 ≤ a ∧ a ≤ 113 ∧ j = c) → gI V a j = gI m a j := fun a j z => by
    rw [hV, gI_sn (by omega), gI_sn (by omega), gI_sn (by omega), gI_sn (by omega), gI_sn (by omega), gI_sn (by omega)]
  have evV : eqV V V3 := fun a j z => eV a j (by unfold envC at z; omega) (by unfold envC at z; omega)
  have rsV : rS (sFn m) V3 := fun j hj => by rw [gV3 _ _ (by omega), gI_sn (by omega), k96 _ _ (by omega)]; rfl
  obtain ⟨p1, b1, b2, b3⟩ := rx_lays fu o1 evV rsV
  have e16 : ∀ M : hM, gI M 96 16 = nI c → ∀ a j x, a ≠ 96 → gI (sI M a j x) 96 16 = nI c := fun M z a j x z2 => by rw [gI_sn (fun y => z2 y.1.symm)]; exact z
  have s16 : gI (sI m3 96 0 0) 96 16 = nI c := by rw [gI_sn (by omega), k96 _ _ (by omega)]; exact h2.1.2.1
  have p16 : gI p1 96 16 = nI c := by rw [b3.1 _ _ (by omega), gV3 _ _ (by omega)]; exact s16
  have A : f_X10_piece fu x1 x2 x3 x4 x5 m = some (nI c, m3) := by
    unfold f_X10_piece f_X10_piece_88
    rw [hLet_n, h2.2.1.1, if_neg (show ¬ (8 : Int32) ≤ nI c from nI_ge (b := 8) o1 (by omega)), if_neg (show ¬ x1 < 6 by rw [i_lt]; show ¬ x1.toInt < 6; omega), if_pos (show x1 < 366 by rw [i_lt]; show x1.toInt < 366; omega), if_neg (show ¬ x2 < 1 by rw [i_lt]; show ¬ x2.toInt < 1; omega), if_neg (show ¬ 60 < x2 by rw [i_lt]; show ¬ 60 < x2.toInt; omega), if_neg (show ¬ x3 < 0 by rw [i_lt]; show ¬ x3.toInt < 0; omega), if_pos (show x3 < 1 <<< (nI c &&& 31) by rw [i_lt, (pw_c c (by omega)).1]; exact o4.2), cx_has fu x4 m (by omega) h1.2.1, hBd_some, if_pos o5, if_neg (by decide), cx_has fu x5 m (by omega) h1.2.1, hBd_some]
    rw [if_pos h8, hLet_n, if_pos h8, hLet_n, if_pos h8, hLet_n, if_pos h8, hLet_n, if_pos h8, hLet_n, if_pos h8, hLet_n, hLet_n, cc, nI_1, hm2, a1, hBd_some]
    rcases o6 with z | z
    · rw [if_pos z]
    · rw [if_neg (fun y => by rw [y] at z; exact absurd z.1 (by decide)), if_pos z, if_pos (by decide)]
  have B : f_X11_piece fu x1 x2 x3 x4 x5 m3 = some (nI c, sI p1 96 16 (nI (c + 1))) := by
    have st : (1 : Int64).toInt ≤ (x1 / 6).toInt ∧ (x1 / 6).toInt ≤ (60 : Int64).toInt := by
      rw [q1, nI_toInt (by omega)]
      show (1 : Int) ≤ _ ∧ _ ≤ (60 : Int)
      omega
    have g3' : gI (sI m3 96 0 0) 96 3 = nI n := by rw [gI_sn (by omega), k96 _ _ (by omega)]; exact h1.1.2.1
    unfold f_X11_piece
    rw [hLet_n, if_neg (show ¬ x1 < 0 by rw [i_lt]; show ¬ x1.toInt < 0; omega), rx_inI, hBd_some, if_pos st, if_neg (by decide), rx_inI, hBd_some, if_pos (show (1 : Int64).toInt ≤ x2.toInt ∧ x2.toInt ≤ (60 : Int64).toInt from o3), if_neg (by decide), s16, rx_inI, hBd_some, Int32.toInt_toInt64, (pw_c c (by omega)).2, if_pos (show (0 : Int64).toInt ≤ x3.toInt ∧ x3.toInt ≤ 2 ^ c - 1 from ⟨o4.1, by have := o4.2; omega⟩), if_neg (by decide), rx_isOffice fu x4 _ (by omega) g3', hBd_some, if_pos o5, if_neg (by decide)]
    unfold f_X11_piece_68 f_X11_piece_90
    rw [if_neg (by decide), rx_isOffice fu x5 _ (by omega) g3', hBd_some]
    have c8 : ¬ nI c = 8 := fun y => by
      have := (nI_eq (a := c) (b := 8) (by omega) (by omega)).mp y
      omega
    have core : (if ¬ gI (sI m3 96 0 0) 96 16 = 8 then (if hIn (gI (sI m3 96 0 0) 96 16) 8 then (hLet (sI (sI m3 96 0 0) 108 (Int32.toNatClampNeg (gI (sI m3 96 0 0) 96 16)) (x1 - x1 / 6 * 6)) fun m7 => if hIn (gI m7 96 16) 8 then (hLet (sI m7 113 (Int32.toNatClampNeg (gI m7 96 16)) (x1 / 6)) fun m9 => if hIn (gI m9 96 16) 8 then (hLet (sI m9 109 (Int32.toNatClampNeg (gI m9 96 16)) x2) fun m11 => if hIn (gI m11 96 16) 8 then (hLet (sI m11 110 (Int32.toNatClampNeg (gI m11 96 16)) x3) fun m13 => if hIn (gI m13 96 16) 8 then (hLet (sI m13 111 (Int32.toNatClampNeg (gI m13 96 16)) x4) fun m15 => if hIn (gI m15 96 16) 8 then (hLet (sI m15 112 (Int32.toNatClampNeg (gI m15 96 16)) x5) fun m17 => hBd (f_X11_lays fu (gI m17 96 16) m17) fun _ m18 => hLet (sI m18 96 16 ((gI m18 96 16) + 1)) fun m19 => some ((gI m19 96 16) - 1, m19)) else none) else none) else none) else none) else none) else none) else some ((-1 : Int32), sI m3 96 0 0)) = some (nI c, sI p1 96 16 (nI (c + 1))) := by
      rw [s16, if_pos c8, if_pos h8, hLet_n, cc, e16 _ s16 108 c _ (by omega), if_pos h8, hLet_n, cc, e16 _ (e16 _ s16 108 c _ (by omega)) 113 c _ (by omega), if_pos h8, hLet_n, cc, e16 _ (e16 _ (e16 _ s16 108 c _ (by omega)) 113 c _ (by omega)) 109 c _ (by omega), if_pos h8, hLet_n, cc, e16 _ (e16 _ (e16 _ (e16 _ s16 108 c _ (by omega)) 113 c _ (by omega)) 109 c _ (by omega)) 110 c _ (by omega), if_pos h8, hLet_n, cc, e16 _ (e16 _ (e16 _ (e16 _ (e16 _ s16 108 c _ (by omega)) 113 c _ (by omega)) 109 c _ (by omega)) 110 c _ (by omega)) 111 c _ (by omega), if_pos h8, hLet_n, cc, e16 _ (e16 _ (e16 _ (e16 _ (e16 _ (e16 _ s16 108 c _ (by omega)) 113 c _ (by omega)) 109 c _ (by omega)) 110 c _ (by omega)) 111 c _ (by omega)) 112 c _ (by omega), ← hV3, b1, hBd_some, p16, nI_1, hLet_n, gI_ss, nI_pred]
    rcases o6 with z | z
    · rw [if_pos z]; exact core
    · rw [if_neg (fun y => by rw [y] at z; exact absurd z.1 (by decide)), if_pos z, if_neg (by decide)]; exact core
  refine ⟨nI c, m3, sI p1 96 16 (nI (c + 1)), A, B, n, c + 1, k, t, ?_⟩
  have pc : ∀ a j, ¬ (108 ≤ a ∧ a ≤ 113 ∧ j = c) → a ≠ 114 → ¬ (a = 96 ∧ (j = 0 ∨ j = 16)) → gI (sI p1 96 16 (nI (c + 1))) a j = gI m3 a j := fun a j z1 z2 z3 => by
    rw [gI_sn (by omega), b3.1 a j z2, gV3 a j z1, gI_sn (by omega)]
  have pm : ∀ a j, ¬ (108 ≤ a ∧ a ≤ 113 ∧ j = c) → a ≠ 114 → ¬ (a = 96 ∧ (j = 0 ∨ j = 16)) → 96 ≤ a → gI (sI p1 96 16 (nI (c + 1))) a j = gI m a j := fun a j z1 z2 z3 z4 => by rw [pc a j z1 z2 z3, k96 a j z4]
  have px : ∀ a, 108 ≤ a → a ≤ 113 → gI (sI p1 96 16 (nI (c + 1))) a c = gI V a c := fun a z1 z2 => by
    rw [gI_sn (by omega), b3.1 _ _ (by omega), eV _ _ (by omega) (by omega)]
  have V108 : gI V 108 c = nI (x1.toNatClampNeg % 6) := by rw [hV, ← q2]; simp (disch := omega) only [gI_ss, gI_sn]
  have V113 : gI V 113 c = nI (x1.toNatClampNeg / 6) := by rw [hV, ← q1]; simp (disch := omega) only [gI_ss, gI_sn]
  have V110 : gI V 110 c = x3 := by rw [hV]; simp (disch := omega) only [gI_ss, gI_sn]
  have V112 : gI V 112 c = x5 := by rw [hV]; simp (disch := omega) only [gI_ss, gI_sn]
  have sfn : ∀ j, j < 127 → sFn (sI p1 96 16 (nI (c + 1))) j = lay1 V c (sFn m) j := fun j hj => by
    show gI (sI p1 96 16 (nI (c + 1))) 114 j = _
    rw [gI_sn (by omega)]; exact b2 j hj
  have l8 : ∀ j, (j < 3 ∨ 67 ≤ j ∨ (j - 3) % 8 ≠ c) → lay1 V c (sFn m) j = sFn m j := fun j hj => lay1_k hj o1
  have sI' : sInv (sI p1 96 16 (nI (c + 1))) (lay1 V c (sFn m)) n (c + 1) := by
    refine ⟨fun p hp => ?_, by rw [l8 2 (by omega)]; exact h5.1.2.1, by rw [l8 0 (by omega)]; exact h5.1.2.2⟩
    by_cases e : p = c
    · subst e
      refine ⟨?_, Or.inl ?_⟩
      · unfold lay1; simp (disch := omega) only [up_s, up_n]; rw [v111]; exact o5
      · unfold lay1; simp (disch := omega) only [up_s, up_n]
    · rw [l8 _ (by omega), l8 _ (by omega), pm 112 p (by omega) (by omega) (by omega) (by omega)]; exact h5.1.1 p (by omega)
  refine ⟨erR_cg h1 (fun a j z => pm a j (by unfold erV at z; omega) (by unfold erV at z; omega) (by unfold erV at z; omega) (by unfold erV at z; omega)) (fun a j z1 z2 => by rw [pc a j (by omega) (by omega) (by omega)]; exact g3 a j (by omega) (by omega) (by omega)), ⟨⟨by omega, gI_ss _ _ _ _, fun p hp => ?_⟩, ⟨by rw [pc _ _ (by omega) (by omega) (by omega), a3.1 _ _ (by omega)]; exact e18, fun p hp => ?_⟩, fun p hp => ?_⟩, flR_cg h3 (pm _ _ (by omega) (by omega) (by omega) (by omega)) (by rw [pc _ _ (by omega) (by omega) (by omega)]; exact g3 _ _ (by omega) (by omega) (by omega)) (by rw [pc _ _ (by omega) (by omega) (by omega)]; exact g3 _ _ (by omega) (by omega) (by omega)), rlR_cg h4 (fun a j z => pm a j (by omega) (by omega) (by omega) (by omega)) (by rw [pc _ _ (by omega) (by omega) (by omega)]; exact g3 _ _ (by omega) (by omega) (by omega)) (fun j => by rw [pc _ _ (by omega) (by omega) (by omega)]; exact g3 _ _ (by omega) (by omega) (by omega)), ⟨?_, ?_⟩, ?_, nRel_cg h7 (by rw [pc _ _ (by omega) (by omega) (by omega)]; exact g3 _ _ (by omega) (by omega) (by omega)) (pm _ _ (by omega) (by omega) (by omega) (by omega)) (fun j => by show gL p1 67 j = _; rw [b3.2.1, hV3]; exact gl3 _ _) (fun j => by show gL p1 97 j = _; rw [b3.2.1, hV3]; exact gl3 _ _), prR_cg h8' (Nat.le_refl n) (by rw [pc _ _ (by omega) (by omega) (by omega)]; exact g3 _ _ (by omega) (by omega) (by omega)) (pm _ _ (by omega) (by omega) (by omega) (by omega)) (fun a j z1 z2 => by rw [pc _ _ (by omega) (by omega) (by omega)]; exact g3 _ _ (by omega) (by omega) (by omega)) (fun a j z1 z2 => pm _ _ (by omega) (by omega) (by omega) (by omega)), fun i hi => kpR_cg hc (h9 i hi) hi (Nat.le_refl n) (Nat.le_succ c) (by rw [pc _ _ (by omega) (by omega) (by omega)]; exact g3 _ _ (by omega) (by omega) (by omega)) (pm _ _ (by omega) (by omega) (by omega) (by omega)) (fun j => pm _ _ (by omega) (by omega) (by omega) (by omega)) (fun a j z1 z2 => by rw [pc _ _ (by omega) (by omega) (by omega)]; exact g3 _ _ (by omega) (by omega) (by omega)) (fun p hp => pm _ _ (by omega) (by omega) (by omega) (by omega)), txR_cg h10 (pm _ _ (by omega) (by omega) (by omega) (by omega)) (fun j => pm _ _ (by omega) (by omega) (by omega) (by omega)) (by rw [pc _ _ (by omega) (by omega) (by omega)]; exact g3 _ _ (by omega) (by omega) (by omega)) (fun j => by rw [pc _ _ (by omega) (by omega) (by omega)]; exact g3 _ _ (by omega) (by omega) (by omega)), rfOk_cg h11 (fun j => by show gR p1 96 j = _; rw [b3.2.2, hV3]; exact gr3 _ _)⟩
  · by_cases e : p = c
    · subst e
      rw [px 108 (by omega) (by omega), px 109 (by omega) (by omega), px 110 (by omega) (by omega), px 111 (by omega) (by omega), px 112 (by omega) (by omega), px 113 (by omega) (by omega), V108, v109, V110, v111, V112, V113]
      exact ⟨hIn_lt (by omega) (by omega), by rw [nI_toInt (by omega)]; omega, o3, o4, o5, o6⟩
    · rw [pm 108 p (by omega) (by omega) (by omega) (by omega), pm 109 p (by omega) (by omega) (by omega) (by omega), pm 110 p (by omega) (by omega) (by omega) (by omega), pm 111 p (by omega) (by omega) (by omega) (by omega), pm 112 p (by omega) (by omega) (by omega) (by omega), pm 113 p (by omega) (by omega) (by omega) (by omega)]
      exact h2.1.2.2 p (by omega)
  · rw [pc 19 p (by omega) (by omega) (by omega), pc 20 p (by omega) (by omega) (by omega), pc 21 p (by omega) (by omega) (by omega), pc 22 p (by omega) (by omega) (by omega), pc 24 p (by omega) (by omega) (by omega), a3.1 19 p (by omega), a3.1 20 p (by omega), a3.1 21 p (by omega), a3.1 22 p (by omega), a3.1 24 p (by omega)]
    by_cases e : p = c
    · subst e
      rw [px 108 (by omega) (by omega), px 109 (by omega) (by omega), px 110 (by omega) (by omega), px 112 (by omega) (by omega), px 113 (by omega) (by omega), V108, v109, V110, V112, V113, e19, e20, e21, e22, e24]
      exact ⟨q2, q1, rfl, rfl, rfl⟩
    · rw [pm 108 p (by omega) (by omega) (by omega) (by omega), pm 109 p (by omega) (by omega) (by omega) (by omega), pm 110 p (by omega) (by omega) (by omega) (by omega), pm 112 p (by omega) (by omega) (by omega) (by omega), pm 113 p (by omega) (by omega) (by omega) (by omega), g2 19 p (by omega) (by omega), g2 20 p (by omega) (by omega), g2 21 p (by omega) (by omega), g2 22 p (by omega) (by omega), g2 24 p (by omega) (by omega)]
      exact h2.2.1.2 p (by omega)
  · rw [pc 23 p (by omega) (by omega) (by omega), a3.1 23 p (by omega)]
    by_cases e : p = c
    · subst e
      rw [px 111 (by omega) (by omega), v111]; exact e23
    · rw [pm 111 p (by omega) (by omega) (by omega) (by omega), g2 23 p (by omega) (by omega)]; exact h2.2.2 p (by omega)
  · exact sInv_cg (by omega) sI' (fun j hj => sfn j (by omega)) (fun _ _ => rfl)
  · obtain ⟨kk, hk, hke⟩ := wr_num sI'
    refine sRel_cg (sRel_fr a2 (fun a j z1 z2 => pc a j (by omega) (by omega) (by omega))) (fun j hj => sfn j ?_)
    rw [hke, nI_clamp (show kk < 2 ^ 31 by omega)] at hj; omega
  · have e : ∀ a j, 55 ≤ a → a ≤ 63 → gI (sI p1 96 16 (nI (c + 1))) a j = gI m a j := fun a j z1 z2 => by rw [pc a j (by omega) (by omega) (by omega)]; exact g3 a j (by omega) (by omega) (by omega)
    exact ⟨by omega, fun i z1 z2 => by rw [e _ _ (by omega) (by omega), e _ _ (by omega) (by omega)]; exact h6.2.1 i (by omega) z2, fun p z1 z2 => by rw [e _ _ (by omega) (by omega), e _ _ (by omega) (by omega)]; exact h6.2.2 p (by omega) z2⟩
