theorem bc_any (fu : Nat) (x : Int32) (m : hM) : ∃ y, f_J6_bitCount_0f7a4 fu x m = some (y, m) := by
  unfold f_J6_bitCount_0f7a4
  simp only [hLet_n]
  exact ⟨_, rfl⟩
theorem jk_56 {m m' : hM} {c : Nat} (j : jk m 55 c) (g : ∀ a i, a ≠ 56 → gI m' a i = gI m a i) : jk m' 55 c := by
  obtain ⟨h1, h2, h3⟩ := j
  exact ⟨h1, fun i z1 z2 => by rw [g _ _ (by omega), g _ _ (by omega)]; exact h2 i z1 z2, fun p z1 z2 => by rw [g _ _ (by omega), g _ _ (by omega)]; exact h3 p z1 z2⟩
theorem rx_homes {fu : Nat} (hfu : 3000 ≤ fu) {v M : hM} {X : Int32} {n c x W : Nat} (hv : vRel v n) (hp : pRng v n c) (h1 : 1 ≤ n) (hx : x < 2400) (hX : ∀ i, c ≤ i → i < 32 → bt X i = false) (hQ : ∀ u, qsN X n u 8 = 0 ↔ u < W) (hW0 : 0 < W) (hW : W ≤ 2000) {S : Nat → Int32} (g : eqV v M) (hS : rS S M) :
    ∃ M6, fr P0S M M6 ∧ (hLet (sI M 117 0 0) fun m12 => hBd (f_X11_keepsBorn fu m12) fun _ m13 => f_X11_homes_61 fu fu X (nI x) (gI M 117 0) 0 m13) = (match hmB v X n c x S W with | none => some (-2, M6) | some (b, e) => some (nI e, setRow M6 97 96 1 (hmR (fun p => nI (dgN (qsN X n) n b p)) X c))) := by
  have hn := hv.1
  have hc := hp.1
  obtain ⟨M2, a1, a2, a3⟩ := rx_keepsBorn (show 100 ≤ fu by omega) (sI M 117 0 0)
  have c16 : gI M2 96 16 = nI c := by rw [a3.1 _ _ (by omega), gI_sn (by omega), g _ _ (by unfold envC; omega)]; exact hp.2.1
  obtain ⟨M3, b1, b2, b3⟩ := rx_homes61 (fu := fu) hc X (nI x) (gI M 117 0) fu 0 M2 (by omega) (by omega) c16
  have n3 : ∀ a j, ¬ (a = 111 ∧ j < 8) → ¬ (a = 117 ∧ j = 0) → a ≠ 126 → gI M3 a j = gI M a j := fun a j z1 z2 z3 => by rw [b3.1 _ _ (by omega), a3.1 _ _ (by omega), gI_sn z2]
  have g3 : eqV (hmV v X n 0) M3 := fun a j z => by
    rw [hm_I]
    by_cases q : a = 111 ∧ j < 8 ∧ bt X j = true
    · have jc : j < c := by
        by_cases q2 : j < c
        · exact q2
        · rw [hX j (by omega) (by omega)] at q; cases q.2.2
      rw [if_pos q, q.1, b2 j (by omega) jc, if_pos q.2.2]
      have : dgN (qsN X n) n 0 j = 0 := by
        unfold dgN
        have := (qsN_ok X n).le 0 (7 - j)
        rw [Nat.le_zero.mp this, Nat.zero_mod]
      rw [this]; rfl
    rw [if_neg q]
    by_cases q2 : a = 117 ∧ j = 0
    · rw [if_pos q2, q2.1, q2.2, b3.1 _ _ (by omega), a3.1 _ _ (by omega), gI_ss]
    rw [if_neg q2]
    by_cases q3 : a = 111 ∧ j < c
    · rw [q3.1, b2 j (by omega) q3.2, if_neg (fun y => q ⟨q3.1, by omega, y⟩), a3.1 _ _ (by omega), gI_sn (by omega), g _ _ (by unfold envC; omega)]
    · rw [b3.1 _ _ (by omega), a3.1 _ _ (by unfold envC at z; omega), gI_sn q2]; exact g a j z
  have s3 : rS S M3 := fun j hj => by rw [n3 _ _ (by omega) (by omega) (by omega)]; exact hS j hj
  obtain ⟨M4, d1, d2, d3⟩ := rx_homes109 hfu hv hp h1 hx hX hQ (S := S) (gI M 117 0) fu 0 M3 hW0 (by omega) g3 s3 (fun b e z => by cases z)
  obtain ⟨M5, e1, e2, e3⟩ := rx_givesBorn (show 100 ≤ fu by omega) M4
  generalize hM6 : sI M5 117 0 (gI M 117 0) = M6
  have f6 : fr P0S M M6 := by
    refine ⟨fun a j z => ?_, fun a j => ?_, fun a j => ?_⟩
    · have np : ¬ PS a j := fun y => z (Or.inl y)
      unfold P0S at z
      by_cases q1 : a = 117 ∧ j = 0
      · rw [← hM6, q1.1, q1.2, gI_ss]
      rw [← hM6, gI_sn q1]
      by_cases q2 : a = 111 ∧ j < 8
      · rw [q2.1, e2 j q2.2, d2.1 _ _ (by unfold Phm PS; omega), b3.1 _ _ (by omega), a2 j q2.2, gI_sn (by omega)]
      · rw [e3.1 _ _ q2, d2.1 _ _ (fun y => by unfold Phm at y; rcases y with y | y | y; exact np y; omega; omega), n3 _ _ q2 q1 (by omega)]
    · have : gL M6 a j = gL M5 a j := by rw [← hM6]; rfl
      rw [this, e3.2.1, d2.2.1, b3.2.1, a3.2.1]; rfl
    · have : gR M6 a j = gR M5 a j := by rw [← hM6]; rfl
      rw [this, e3.2.2, d2.2.2, b3.2.2, a3.2.2]; rfl
  refine ⟨M6, f6, ?_⟩
  rw [hLet_n, a1, hBd_some, show (0 : Int32) = nI 0 from rfl, b1]
  unfold f_X11_homes_103
  rw [show f_X11_homes_109 fu fu X (nI x) (gI M 117 0) (-1) 1 M3 = _ from d1]
  unfold f_X11_homes_184
  rw [e1, hBd_some, hLet_n, hM6]
  cases hB : hmB v X n c x S W with
  | none =>
    simp only []
    rw [show wB (none : Option (Nat × Nat)) (-1) = -1 from rfl, if_neg (by decide)]
  | some be =>
    obtain ⟨b, e⟩ := be
    have le := hmB_le hx W b e hB
    simp only []
    rw [show wB (some (b, e)) (-1) = nI e from rfl, if_pos (nI_pos' (by omega)), hLet_n, sr_nil M6 97]
    have c16' : gI M6 96 16 = nI c := by rw [f6.1 _ _ (by unfold P0S PS; omega), g _ _ (by unfold envC; omega)]; exact hp.2.1
    exact rx_homes211 hc (B := fun p => nI (dgN (qsN X n) n b p)) c16' (fun p hpc hb => by
      rw [← hM6, gI_sn (by omega), e3.1 _ _ (by omega), d3 b e hB p hpc, hm_I, if_pos ⟨rfl, by omega, hb⟩]) (nI e) fu 0 (by omega) (by omega)
theorem ok_homes {fu : Nat} (hfu : 3000 ≤ fu) {m : hM} (h : IV m) (x1 x2 : Int32) : okC (f_X10_homes fu x1 x2) (f_X11_homes fu x1 x2) m := by
  obtain ⟨n, c, k, t, h⟩ := h
  have hp := h.2.1.1
  have hv := h.1.1
  have hn := hv.1
  have hc := hp.1
  have fl := h.2.2.1
  have h16 : ∀ M : hM, (∀ a j, 96 ≤ a → gI M a j = gI m a j) → gI (sI M 96 0 0) 96 16 = nI c := fun M z => by rw [gI_sn (by omega), z _ _ (by omega)]; exact hp.2.1
  have id1 : ∀ a j, 96 ≤ a → gI m a j = gI m a j := fun _ _ _ => rfl
  have A := (all_n c (by omega)).1
  have p2 : 2 ^ c ≤ 256 := Nat.pow_le_pow_right (n := 2) (by omega) hc
  have p1 : 1 ≤ 2 ^ c := Nat.one_le_two_pow
  have e0 : (0 : Int32).toInt = 0 := rfl
  have e1 : (1 : Int64).toInt = 1 := rfl
  have eh : (Int32.toInt64 (nI (2 ^ c - 1))).toInt = ((2 ^ c - 1 : Nat) : Int) := by rw [Int32.toInt_toInt64, nI_toInt (by omega)]
  obtain ⟨y0, hy0⟩ := bc_any fu x1 m
  unfold okC f_X10_homes f_X11_homes f_X4_all
  by_cases c1 : 1 ≤ x1.toInt ∧ x1.toInt ≤ ((2 ^ c - 1 : Nat) : Int)
  rotate_left
  · refine ⟨-1, m, sI m 96 0 0, ?_, ?_, h.th rfl rfl⟩
    · rw [hy0, hBd_some]
      by_cases q : x1 ≤ 0
      · rw [if_pos q]
      · rw [if_neg q, hBd_some, h.2.1.2.1.1, A, if_pos (by rw [i_lt, nI_toInt (by omega)]; rw [i_le, e0] at q; omega)]
    · rw [hLet_n, h16 m id1, A, rx_inI, hBd_some, if_neg (show ¬ ((1 : Int64).toInt ≤ x1.toInt ∧ x1.toInt ≤ (Int32.toInt64 (nI (2 ^ c - 1))).toInt) by rw [e1, eh]; exact c1), if_pos rfl]
  obtain ⟨X0, hX0, rfl⟩ := nI_of (x := x1) (by rw [i_lt, e0]; omega)
  rw [nI_toInt hX0] at c1
  have x256 : X0 < 256 := by omega
  have xc : X0 < 2 ^ c := by omega
  have hX : ∀ i, c ≤ i → i < 32 → bt (nI X0) i = false := fun i z1 z2 => by
    rw [bt_nI _ _ z2]
    exact Nat.testBit_lt_two_pow (Nat.lt_of_lt_of_le xc (Nat.pow_le_pow_right (by omega) z1))
  have hbc : ∀ M, f_J6_bitCount_0f7a4 fu (nI X0) M = some (nI (cnt (fun i => X0.testBit i) 24), M) := fun M => cx_bitCount fu (by omega) M
  have hk24 := cnt_le (fun i => X0.testBit i) 24
  have r1 : ∀ M : hM, (∀ a j, 96 ≤ a → gI M a j = gI m a j) → f_X11_in fu (Int32.toInt64 (nI X0)) 1 (Int32.toInt64 ((1 <<< ((gI (sI M 96 0 0) 96 16) &&& 31)) - 1)) (sI M 96 0 0) = some (1, sI M 96 0 0) := fun M kM => by
    rw [h16 M kM, A, rx_inI, if_pos (show ((1 : Int64).toInt ≤ (nI X0).toInt ∧ (nI X0).toInt ≤ (Int32.toInt64 (nI (2 ^ c - 1))).toInt) by rw [e1, eh, nI_toInt hX0]; omega)]
  have q1 : ¬ nI X0 ≤ 0 := by rw [i_le, e0, nI_toInt hX0]; omega
  have q2 : ¬ nI (2 ^ c - 1) < nI X0 := by rw [i_lt, nI_toInt hX0, nI_toInt (by omega)]; omega
  generalize hK : cnt (fun i => X0.testBit i) 24 = K at *
  by_cases c2 : 4 < nI K
  · refine ⟨-1, m, sI m 96 0 0, ?_, ?_, h.th rfl rfl⟩
    · rw [hbc, hBd_some, if_neg q1, hBd_some, h.2.1.2.1.1, A, if_neg q2, if_pos c2]
    · rw [hLet_n, r1 m id1, hBd_some, if_neg (by decide), hbc, hBd_some, if_pos c2]
  have hK4 : K ≤ 4 := by rw [i_lt, nI_toInt (by omega), show (4 : Int32).toInt = 4 from rfl] at c2; omega
  by_cases c3 : hIn x2 2400
  rotate_left
  · refine ⟨-1, m, sI m 96 0 0, ?_, ?_, h.th rfl rfl⟩
    · rw [hbc, hBd_some, if_neg q1, hBd_some, h.2.1.2.1.1, A, if_neg q2, if_neg c2, cx_isHour, hBd_some, if_neg c3, if_neg (by decide)]
    · rw [hLet_n, r1 m id1, hBd_some, if_neg (by decide), hbc, hBd_some, if_neg c2, rx_isHour, hBd_some, if_neg c3, if_neg (by decide)]
  obtain ⟨x, hx, rfl⟩ := hIn_of c3 (by omega)
  have c0 : 0 < c := by
    rcases Nat.eq_zero_or_pos c with z | z
    · subst z; simp at xc; omega
    · exact z
  have n1 : 1 ≤ n := by
    have := (hp.2.2 0 c0).2.2.2.2.1
    have a := this.1
    have b := this.2
    omega
  generalize hX' : nI X0 = X at *
  have hQ : ∀ u, qsN X n u 8 = 0 ↔ u < n ^ K := fun u => by rw [← hX', ← hK]; exact qs_lt x256 n1 u
  have hW : n ^ K ≤ 2000 := pw_le n1 hn hK4
  have hW0 : 0 < n ^ K := Nat.pow_pos n1
  generalize hWe : n ^ K = W at *
  have gA : ∀ a j, ¬ (a = 32 ∧ j = 3) → gI (sI m 32 3 0) a j = gI m a j := fun a j z => gI_sn z
  obtain ⟨m5, s1, s2, s3⟩ := cx_homes83 hfu (v := m) (mA := sI m 32 3 0) (X := X) hv (eRel_fr h.1.2 hn (fun a j z1 z2 => gA a j (by omega))) hp ⟨(gA _ _ (by omega)).trans h.2.1.2.1.1, fun p hpc => by rw [gA _ _ (by omega), gA _ _ (by omega), gA _ _ (by omega), gA _ _ (by omega), gA _ _ (by omega)]; exact h.2.1.2.1.2 p hpc⟩ (fun p hpc => by rw [gA _ _ (by omega)]; exact h.2.1.2.2 p hpc) (gI_ss _ _ _ _) ((gA _ _ (by omega)).trans fl.2.1) fl.2.2 n1 c0 hx hW (sFn m) fu 0 (sI m 32 3 0) (by omega) (by omega) fr.rf (jk_cg h.2.2.2.2.2.1 (fun a j z1 z2 => gA a j (by omega)))
  have e40 := cx_homes40 (fu := fu) (X := X) (x2 := nI x) (K := K) (by omega) h.1.2.1 fu 0 (by omega) (by omega)
  rw [hWe] at e40
  have cls : f_X10_homes_40 fu fu X (nI x) (nI K) 1 0 m = f_X10_homes_141 fu X (hmA (hmB m X n c x (sFn m) W)) (wB (hmB m X n c x (sFn m) W) 2400) m5 := by
    have e40' : f_X10_homes_40 fu fu X (nI x) (nI K) 1 0 m = f_X10_homes_64 fu X (nI x) (nI W) m := by
      rw [Nat.pow_zero] at e40; exact e40
    rw [e40']
    unfold f_X10_homes_64
    rw [hLet_n]
    exact s1
  generalize hm6 : sI m5 32 3 1 = m6
  have f6 : fr (PC 55) m m6 := by
    refine ⟨fun a j z => ?_, fun a j => ?_, fun a j => ?_⟩
    · rw [← hm6]
      by_cases q : a = 32 ∧ j = 3
      · rw [q.1, q.2, gI_ss]; exact fl.1.symm
      · rw [gI_sn q, s2.1 a j z, gA a j q]
    · have e2 : gL m6 a j = gL m5 a j := by rw [← hm6]; rfl
      rw [e2, s2.2.1]; rfl
    · have e2 : gR m6 a j = gR m5 a j := by rw [← hm6]; rfl
      rw [e2, s2.2.2]; rfl
  have j6 : jk m6 55 c := jk_cg s3 (fun a j z1 z2 => by rw [← hm6]; exact gI_sn (by omega))
  have ref : ∀ M : hM, (∀ a j, 96 ≤ a → gI M a j = gI m a j) → ∃ M6, fr P0S (sI M 96 0 0) M6 ∧ (hLet (sI M 96 0 0) fun m1 => hBd (f_X11_in fu (Int32.toInt64 X) 1 (Int32.toInt64 ((1 <<< ((gI m1 96 16) &&& 31)) - 1)) m1) fun y2 m3 => if y2 = 0 then (some ((-1), m3)) else (hBd (f_J6_bitCount_0f7a4 fu X m3) fun y5 m6 => if 4 < y5 then (some ((-1), m6)) else (hBd (f_X11_isHour fu (nI x) m6) fun y8 m9 => if ¬ y8 = 0 then (hLet (gI m9 117 0) fun y11 => hLet (sI m9 117 0 0) fun m12 => hBd (f_X11_keepsBorn fu m12) fun _ m13 => f_X11_homes_61 fu fu X (nI x) y11 0 m13) else (some ((-1), m9))))) = (match hmB m X n c x (sFn m) W with | none => some (-2, M6) | some (b, e) => some (nI e, setRow M6 97 96 1 (hmR (fun p => nI (dgN (qsN X n) n b p)) X c))) := by
    intro M kM
    obtain ⟨M6, u1, u2⟩ := rx_homes hfu hv hp n1 hx hX hQ hW0 hW (M := sI M 96 0 0) (S := sFn m) (eqV_th (eqV_hi kM)) (fun j hj => by rw [gI_sn (by omega), kM _ _ (by omega)]; rfl)
    refine ⟨M6, u1, ?_⟩
    rw [hLet_n, r1 M kM, hBd_some, if_neg (by decide), hbc, hBd_some, if_neg c2, rx_isHour, hBd_some, if_pos c3, if_pos (by decide), hLet_n]
    exact u2
  have pre : ∀ r M, f_X10_homes_40 fu fu X (nI x) (nI K) 1 0 m = some (r, M) → (hBd (f_J6_bitCount_0f7a4 fu X m) fun y1 m2 => if X ≤ 0 then (some ((-1 : Int32), m2)) else (hBd (some ((1 <<< ((gI m2 18 6) &&& 31)) - 1, m2)) fun y4 m5 => if y4 < X then (some ((-1 : Int32), m5)) else (if 4 < y1 then (some ((-1 : Int32), m5)) else (hBd (f_X10_isHour fu (nI x) m5) fun y8 m9 => if ¬ y8 = 0 then (f_X10_homes_40 fu fu X (nI x) y1 1 0 m9) else (some ((-1 : Int32), m9)))))) = some (r, M) := fun r M z => by
    rw [hbc, hBd_some, if_neg q1, hBd_some, h.2.1.2.1.1, A, if_neg q2, if_neg c2, cx_isHour, hBd_some, if_pos c3, if_pos (by decide)]
    exact z
  cases hB : hmB m X n c x (sFn m) W with
  | none =>
    have fE : fr PE m m6 := fr.PEw f6
    have k6 := PE_hi fE
    obtain ⟨M6, u1, u2⟩ := ref m6 k6
    rw [hB] at u2 cls
    simp only [] at u2
    have CW6 := h.cw.walk f6 j6
    refine ⟨-2, m6, M6, pre _ _ ?_, u2, IW.q1 (h.m6 fE ⟨h.1.1, CW6.1.2.1⟩ j6) k6 fE.2.1 fE.2.2 (fr.th.tr u1) (fun a j z => P0S_ok z)⟩
    rw [cls]
    unfold f_X10_homes_141
    rw [hLet_n, hm6, show hmA (none : Option (Nat × Nat)) = -1 from rfl, if_neg (fun z => z rfl)]
  | some be =>
    obtain ⟨b, e⟩ := be
    have le := hmB_le hx W b e hB
    obtain ⟨m7, w1, w2, w3⟩ := cx_house (show 100 ≤ fu by omega) (X := X) (w := b) (qsN_ok X n) n1 hn (by omega) (m := m6) (by rw [f6.1 _ _ (by unfold PC; omega)]; exact h.1.2.1)
    have T := cx_tellHomes (show 100 ≤ fu by omega) (X := X) (m := m7) (B := fun p => nI (dgN (qsN X n) n b p)) w2
    have f7 : fr (PC 55) m m7 := f6.tr (w3.mono (fun a j z => Or.inl ⟨by omega, by omega⟩))
    have j7 : jk m7 55 c := jk_56 j6 (fun a i z => w3.1 a i (by omega))
    have fE : fr PE m m7 := fr.PEw f7
    have k7 := PE_hi fE
    have CW7 := h.cw.walk f7 j7
    have er : hmR (fun p => nI (dgN (qsN X n) n b p)) X 8 = hmR (fun p => nI (dgN (qsN X n) n b p)) X c := by
      have := hmR_c (fun p => nI (dgN (qsN X n) n b p)) hX (8 - c) (by omega)
      rw [show c + (8 - c) = 8 by omega] at this
      exact this
    rw [er] at T
    have lx := hmR_len (fun p => nI (dgN (qsN X n) n b p)) X c
    generalize hxs : hmR (fun p => nI (dgN (qsN X n) n b p)) X c = xs at *
    obtain ⟨M6, u1, u2⟩ := ref (setRow m7 67 66 1 xs) (fun a j z => by rw [sr_I, if_neg (by omega)]; exact k7 a j z)
    rw [hB] at u2 cls
    simp only [] at u2
    rw [hxs] at u2
    refine ⟨nI e, setRow m7 67 66 1 xs, _, pre _ _ ?_, u2, IW.q2 (h.m6 fE ⟨h.1.1, CW7.1.2.1⟩ j7) k7 fE.2.1 fE.2.2 (xs := xs) (by omega) (fr.th.tr u1) (fun a j z => P0S_ok z) rfl⟩
    rw [cls]
    unfold f_X10_homes_141
    rw [hLet_n, hm6, show hmA (some (b, e)) = nI b from rfl, if_pos (fun z => by
      have := congrArg Int32.toInt z
      rw [nI_toInt (by omega)] at this
      have e2 : (-1 : Int32).toInt = -1 := rfl
      omega), w1, hBd_some, T, hBd_some]
    rfl
