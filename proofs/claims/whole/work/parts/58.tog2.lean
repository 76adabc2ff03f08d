theorem min9 {x : Int32} : (if (9 : Int32) < x then (9 : Int32) else x) = (if x < 9 then x else 9) := by
  have e9 : (9 : Int32).toInt = 9 := rfl
  by_cases q1 : (9 : Int32) < x
  · rw [if_pos q1, if_neg (by rw [i_lt, e9] at q1 ⊢; omega)]
  · rw [if_neg q1]
    by_cases q2 : x < 9
    · rw [if_pos q2]
    · rw [if_neg q2]; rw [i_lt, e9] at q1 q2; exact (i_eq _ _).mpr (by rw [e9]; omega)
/-- the reference, from the world as it is to the world as it is -/
theorem rx_tog {fu : Nat} (hfu : 3000 ≤ fu) {v M : hM} {n c o x : Nat} (hv : vRel v n) (hp : pRng v n c) (ho : o < n) (hx : x < 2400) (g : eqV v M) (h37 : gI v 96 37 = 0) {A : Int32} (hA : (if ppl v n < 9 then ppl v n else 9) = A) (hA' : 1 ≤ A.toInt ∧ A.toInt ≤ 9) {S : Nat → Int32} (hS : rS S M) :
    ∃ p, f_X11_together_58 fu fu (nI o) (nI x) (gI M 117 0) (gI M 103 o) (gI M 102 o) 0 0 M = some ((match gK (tgV v o c A) n c (2399 - x) (begR (tgV v o c A) (nI x) c S) with | some k => nI (x + k) | none => -2), p) ∧ (gK (tgV v o c A) n c (2399 - x) (begR (tgV v o c A) (nI x) c S) = none → fr P0S M p) ∧ (∀ k, gK (tgV v o c A) n c (2399 - x) (begR (tgV v o c A) (nI x) c S) = some k → (∀ a j, ¬ P0S a j → ¬ (a = 96 ∧ j = 1) → gI p a j = gI M a j) ∧ (∀ a j, gL p a j = if a = 97 ∧ j < (rwE (runS (tgV v o c A) n c k (begR (tgV v o c A) (nI x) c S)) c 0 0 0).length then (rwE (runS (tgV v o c A) n c k (begR (tgV v o c A) (nI x) c S)) c 0 0 0).getD j 0 else gL M a j) ∧ (∀ a j, gR p a j = gR M a j) ∧ gI p 96 1 = nI (rwE (runS (tgV v o c A) n c k (begR (tgV v o c A) (nI x) c S)) c 0 0 0).length) := by
  have hn := hv.1
  have hc := hp.1
  have h6 : hIn (nI o) 6 := hIn_lt (by omega) (by omega)
  have co : (nI o).toNatClampNeg = o := nI_clamp (by omega)
  generalize hV : tgV v o c A = V
  have hvV : vRel V n := by rw [← hV]; exact tg_v hv hA'
  have hpV : pRng V n c := by rw [← hV]; exact tg_p hn hp ho
  have hkV : rOk V := Or.inl (by rw [← hV, tg_I, if_neg (by omega), if_neg (by omega), if_neg (by omega), if_pos ⟨rfl, rfl⟩])
  rw [show f_X11_together_58 fu fu (nI o) (nI x) (gI M 117 0) (gI M 103 o) (gI M 102 o) 0 0 M = _ from rx_tog58 hv g (nI o) (nI x) (gI M 117 0) (gI M 103 o) (gI M 102 o) fu 0 (by omega) (by omega)]
  unfold f_X11_together_85
  obtain ⟨M1, a1, a2, a3⟩ := rx_keepsBorn (show 100 ≤ fu by omega) M
  obtain ⟨M2, b1, b2, b3⟩ := rx_tog92 (fu := fu) hc (nI o) (nI x) (gI M 117 0) (gI M 103 o) (gI M 102 o) (ppl v n) fu 0 M1 (by omega) (by omega) (by rw [a3.1 _ _ (by omega), g 96 16 (by unfold envC; omega)]; exact hp.2.1)
  rw [a1, hBd_some, show (0 : Int32) = nI 0 from rfl, b1]
  unfold f_X11_together_115
  simp only [e_min, hBd_some, hLet_n]
  rw [hA, if_pos h6, if_pos h6, co]
  generalize hM3 : sI (sI (sI (sI M2 117 0 0) 103 o 63) 102 o A) 96 37 1 = M3
  have n3 : ∀ a j, ¬ (a = 102 ∧ j = o) → ¬ (a = 103 ∧ j = o) → ¬ (a = 111 ∧ j < c) → ¬ (a = 117 ∧ j = 0) → ¬ (a = 96 ∧ j = 37) → ¬ (a = 126 ∧ j < 8) → gI M3 a j = gI M a j := fun a j z1 z2 z3 z4 z5 z6 => by
    rw [← hM3]
    simp (disch := omega) only [gI_sn]
    rw [b3.1 a j (by omega), a3.1 a j (by omega)]
  have v3 : gI M3 102 o = A ∧ gI M3 103 o = 63 ∧ gI M3 117 0 = 0 ∧ gI M3 96 37 = 1 ∧ (∀ j, j < c → gI M3 111 j = nI o) ∧ (∀ j, j < 8 → gI M3 126 j = gI M 111 j) := by
    rw [← hM3]
    refine ⟨?_, ?_, ?_, ?_, fun j hj => ?_, fun j hj => ?_⟩
    · simp (disch := omega) only [gI_sn, gI_ss]
    · simp (disch := omega) only [gI_sn, gI_ss]
    · simp (disch := omega) only [gI_sn, gI_ss]
    · simp (disch := omega) only [gI_sn, gI_ss]
    · simp (disch := omega) only [gI_sn, gI_ss]
      exact b2 j (by omega) hj
    · simp (disch := omega) only [gI_sn, gI_ss]
      rw [b3.1 _ _ (by omega)]; exact a2 j hj
  have l3 : ∀ a j, gL M3 a j = gL M a j := fun a j => by
    have : gL M3 a j = gL M2 a j := by rw [← hM3]; rfl
    rw [this, b3.2.1, a3.2.1]
  have r3 : ∀ a j, gR M3 a j = gR M a j := fun a j => by
    have : gR M3 a j = gR M2 a j := by rw [← hM3]; rfl
    rw [this, b3.2.2, a3.2.2]
  have g3 : eqV V M3 := fun a j z => by
    rw [← hV, tg_I]
    by_cases z1 : a = 102 ∧ j = o
    · rw [if_pos z1, z1.1, z1.2]; exact v3.1
    rw [if_neg z1]
    by_cases z2 : a = 103 ∧ j = o
    · rw [if_pos z2, z2.1, z2.2]; exact v3.2.1
    rw [if_neg z2]
    by_cases z3 : a = 111 ∧ j < c
    · rw [if_pos z3, z3.1]; exact v3.2.2.2.2.1 j z3.2
    rw [if_neg z3]
    by_cases z4 : a = 117 ∧ j = 0
    · rw [if_pos z4, z4.1, z4.2]; exact v3.2.2.1
    rw [if_neg z4]
    by_cases z5 : a = 96 ∧ j = 37
    · rw [if_pos z5, z5.1, z5.2]; exact v3.2.2.2.1
    rw [if_neg z5, n3 a j z1 z2 z3 z4 z5 (by unfold envC at z; omega)]
    exact g a j z
  have s3 : rS S M3 := fun j hj => by rw [n3 _ _ (by omega) (by omega) (by omega) (by omega) (by omega) (by omega)]; exact hS j hj
  obtain ⟨M4, c1, c2, c3⟩ := rx_putsBy (show 200 ≤ fu by omega) M3
  have g4 : eqV V M4 := fun a j z => (c3.1 a j (by unfold envC at z; omega)).trans (g3 a j z)
  have s4 : rS S M4 := fun j hj => (c3.1 114 j (by omega)).trans (s3 j hj)
  obtain ⟨M5, d1, d2, d3⟩ := rx_begins (show 100 ≤ fu by omega) hpV (nI x) g4 s4
  have hb := begR_P V (nI x) hc S
  have hI : sInv V (begR V (nI x) c S) n c := begP_inv hb (fun p hpc => (hpV.2.2 p hpc).2.2.2.2.1) (hIn_lt hx (by omega))
  obtain ⟨M6, e1, e2, e3⟩ := rx_tellsEnd hfu hvV hpV hkV hI hx hb.1 (eqV_114 g4 d3) d2
  have z51 : smS (begR V (nI x) c S) 51 c = 0 := smS_0 c (fun p hpc => (hb.2.2.2 p hpc).2.2.2.2.2.2.1)
  have z59 : smS (begR V (nI x) c S) 59 c = 0 := smS_0 c (fun p hpc => (hb.2.2.2 p hpc).2.2.2.2.2.2.2)
  rw [z51, z59, hb.2.1] at e3
  obtain ⟨M7, f1, f2, f3⟩ := rx_takesBack (show 200 ≤ fu by omega) M6
  generalize hM8 : sI (sI (sI (sI M7 96 37 0) 102 o (gI M 102 o)) 103 o (gI M 103 o)) 117 0 (gI M 117 0) = M8
  obtain ⟨M9, k1, k2, k3⟩ := rx_givesBorn (show 100 ≤ fu by omega) M8
  rw [c1, hBd_some, d1, hBd_some, e1, hBd_some, f1, hBd_some, if_pos h6, if_pos h6, hM8, k1, hBd_some]
  -- what M6 is, wherever M is not to change
  have fin : ∀ (Q : Nat → Nat → Prop), (∀ a j, ¬ PR a j → ¬ Q a j → gI M6 a j = gI M5 a j) → (∀ a j, Q a j → a = 96 ∧ j = 1) → ∀ a j, ¬ P0S a j → ¬ Q a j → gI M9 a j = gI M a j := by
    intro Q h1 h2 a j z1 z2
    unfold P0S PS at z1
    have q6 : ∀ a j, ¬ PR a j → ¬ Q a j → a ≠ 115 → gI M6 a j = gI M3 a j := fun a j y1 y2 y3 => by
      rw [h1 a j y1 y2, d3.1 _ _ (by unfold PR at y1; omega), c3.1 _ _ y3]
    have nq : ∀ a j, ¬ (a = 96 ∧ j = 1) → ¬ Q a j := fun a j y z => y (h2 a j z)
    have m8 : ∀ a j, ¬ (a = 96 ∧ j = 37) → ¬ (a = 102 ∧ j = o) → ¬ (a = 103 ∧ j = o) → ¬ (a = 117 ∧ j = 0) → gI M8 a j = gI M7 a j := fun a j y1 y2 y3 y4 => by rw [← hM8]; simp (disch := omega) only [gI_sn]
    by_cases e1 : a = 111 ∧ j < 8
    · obtain ⟨rfl, e1⟩ := e1
      rw [k2 j e1, m8 _ _ (by omega) (by omega) (by omega) (by omega), f3.1 _ _ (by omega), q6 _ _ (by unfold PR; omega) (nq _ _ (by omega)) (by omega)]
      exact v3.2.2.2.2.2 j e1
    rw [k3.1 a j e1]
    by_cases e2 : a = 96 ∧ j = 37
    · rw [e2.1, e2.2, ← hM8]
      simp (disch := omega) only [gI_sn, gI_ss]
      rw [g 96 37 (by unfold envC; omega), h37]
    by_cases e3 : a = 102 ∧ j = o
    · rw [e3.1, e3.2, ← hM8]
      simp (disch := omega) only [gI_sn, gI_ss]
    by_cases e4 : a = 103 ∧ j = o
    · rw [e4.1, e4.2, ← hM8]
      simp (disch := omega) only [gI_sn, gI_ss]
    by_cases e5 : a = 117 ∧ j = 0
    · rw [e5.1, e5.2, ← hM8, gI_ss]
    rw [m8 a j e2 e3 e4 e5]
    by_cases e6 : a = 114
    · subst e6
      rw [f2 j (by omega), h1 _ _ (by unfold PR; omega) (nq _ _ (by omega)), d3.1 _ _ (by omega), c2 j (by omega)]
      exact n3 _ _ (by omega) (by omega) (by omega) (by omega) (by omega) (by omega)
    · rw [f3.1 _ _ e6, q6 _ _ (by unfold PR; omega) z2 (by omega)]
      exact n3 _ _ e3 e4 (by omega) e5 e2 (by omega)
  have l9 : ∀ a j, gL M9 a j = gL M6 a j := fun a j => by
    have : gL M8 a j = gL M7 a j := by rw [← hM8]; rfl
    rw [k3.2.1, this, f3.2.1]
  have r9 : ∀ a j, gR M9 a j = gR M6 a j := fun a j => by
    have : gR M8 a j = gR M7 a j := by rw [← hM8]; rfl
    rw [k3.2.2, this, f3.2.2]
  refine ⟨M9, rfl, fun z => ⟨fun a j y => fin (fun _ _ => False) (fun a j y1 _ => (e2 z).1 a j y1) (fun a j y => y.elim) a j y (fun q => q), fun a j => ?_, fun a j => ?_⟩, fun k hk => ?_⟩
  · rw [l9, (e2 z).2.1, d3.2.1, c3.2.1, l3]
  · rw [r9, (e2 z).2.2, d3.2.2, c3.2.2, r3]
  · have J := e3 k hk
    refine ⟨fun a j y1 y2 => fin (fun a j => a = 96 ∧ j = 1) (fun a j u1 u2 => J.1 a j u1 u2) (fun a j y => y) a j y1 y2, fun a j => ?_, fun a j => ?_, ?_⟩
    · rw [l9, J.2.1, d3.2.1, c3.2.1, l3]; rfl
    · rw [r9, J.2.2.1, d3.2.2, c3.2.2, r3]
    · rw [k3.1 _ _ (by omega), ← hM8]
      simp (disch := omega) only [gI_sn]
      rw [f3.1 _ _ (by omega)]; exact J.2.2.2
theorem ok_together {fu : Nat} (hfu : 3000 ≤ fu) {m : hM} (h : IV m) (x1 x2 : Int32) : okC (f_X10_together fu x1 x2) (f_X11_together fu x1 x2) m := by
  obtain ⟨n, c, k, t, h⟩ := h
  have hp := h.2.1.1
  have hv := h.1.1
  have hn := hv.1
  have hc := hp.1
  have h3 : ∀ M : hM, (∀ a j, 96 ≤ a → gI M a j = gI m a j) → gI (sI M 96 0 0) 96 3 = nI n := fun M z => by rw [gI_sn (by omega), z _ _ (by omega)]; exact h.1.1.2.1
  have h16 : ∀ M : hM, (∀ a j, 96 ≤ a → gI M a j = gI m a j) → gI (sI M 96 0 0) 96 16 = nI c := fun M z => by rw [gI_sn (by omega), z _ _ (by omega)]; exact hp.2.1
  have id1 : ∀ a j, 96 ≤ a → gI m a j = gI m a j := fun _ _ _ => rfl
  unfold okC f_X10_together f_X11_together
  by_cases c1 : hIn x1 n
  rotate_left
  · refine ⟨-1, m, sI m 96 0 0, ?_, ?_, h.th rfl rfl⟩
    · rw [cx_has fu x1 m (by omega) h.1.2.1, hBd_some, if_neg c1, if_pos rfl]
    · rw [hLet_n, rx_isOffice fu x1 _ (by omega) (h3 m id1), hBd_some, if_neg c1, if_pos rfl]
  by_cases c2 : hIn x2 2400
  rotate_left
  · refine ⟨-1, m, sI m 96 0 0, ?_, ?_, h.th rfl rfl⟩
    · rw [cx_has fu x1 m (by omega) h.1.2.1, hBd_some, if_pos c1, if_neg (by decide), cx_isHour, hBd_some, if_neg c2, if_pos rfl]
    · rw [hLet_n, rx_isOffice fu x1 _ (by omega) (h3 m id1), hBd_some, if_pos c1, if_neg (by decide), rx_isHour, hBd_some, if_neg c2, if_pos rfl]
  by_cases c0 : c = 0
  · refine ⟨-1, m, sI m 96 0 0, ?_, ?_, h.th rfl rfl⟩
    · rw [cx_has fu x1 m (by omega) h.1.2.1, hBd_some, if_pos c1, if_neg (by decide), cx_isHour, hBd_some, if_pos c2, if_neg (by decide), h.2.1.2.1.1, if_neg (fun z => z (by rw [c0]; rfl))]
    · rw [hLet_n, rx_isOffice fu x1 _ (by omega) (h3 m id1), hBd_some, if_pos c1, if_neg (by decide), rx_isHour, hBd_some, if_pos c2, if_neg (by decide), h16 m id1, if_neg (fun z => z (by rw [c0]; rfl))]
  have nc : ¬ nI c = 0 := nI_ne0 (by omega) (by omega)
  obtain ⟨o, ho, rfl⟩ := hIn_of c1 (by omega)
  obtain ⟨x, hx, rfl⟩ := hIn_of c2 (by omega)
  have h6 : hIn (nI o) 6 := hIn_lt (by omega) (by omega)
  have co : (nI o).toNatClampNeg = o := nI_clamp (by omega)
  have fl := h.2.2.1
  have hs : 55 ∈ stL := by decide
  generalize hA0 : (if ppl m n < 9 then ppl m n else 9) = A
  have hA : 1 ≤ A.toInt ∧ A.toInt ≤ 9 := by
    have r := ppl_rng hv n (Nat.le_refl n)
    have e9 : (9 : Int32).toInt = 9 := rfl
    rw [← hA0]
    by_cases q : ppl m n < 9
    · rw [if_pos q]; rw [i_lt, e9] at q; omega
    · rw [if_neg q, e9]; omega
  -- the class
  generalize hmA : sI (sI (sI (sI m (6 + 2 * o) 4 A) (6 + 2 * o) 5 63) 32 3 0) 32 4 0 = mA
  have gA : ∀ a j, ¬ (a = 6 + 2 * o ∧ (j = 4 ∨ j = 5)) → ¬ (a = 32 ∧ (j = 3 ∨ j = 4)) → gI mA a j = gI m a j := fun a j z1 z2 => by rw [← hmA]; simp (disch := omega) only [gI_sn]
  have eA : cEnv (tgV m o c A) mA n c := tg_env hv h.1.2 hp h.2.1.2.1 hA ho gA (by rw [← hmA]; simp (disch := omega) only [gI_sn, gI_ss]) (by rw [← hmA]; simp (disch := omega) only [gI_sn, gI_ss]) (by rw [← hmA]; simp (disch := omega) only [gI_sn, gI_ss]) (by rw [← hmA, gI_ss])
  have jA : jk mA 55 c := jk_cg h.2.2.2.2.2.1 (fun a j z1 z2 => gA a j (by omega) (by omega))
  obtain ⟨m1, a1, a2, a3, a4⟩ := cx_begAt (h := x) hfu eA.2.2.1 eA.2.2.2.1 jA (sFn m)
  obtain ⟨m2, b1, b2, b3⟩ := cx_fill (fu := fu) (a0 := 56) (n0 := 8) (nI o) (by omega) (by omega) (by decide +kernel) m1
  have R2 := a4 m2 (fun a j z1 z2 z3 => b3.1 a j (by omega)) (fun p hpc => by rw [b2 p (by omega), tg_I, if_neg (by omega), if_neg (by omega), if_pos ⟨rfl, hpc⟩])
  have f2 : fr (PC 55) mA m2 := (a2.mono (fun a j z => Or.inl z)).tr (b3.mono (fun a j z => Or.inl ⟨by omega, by omega⟩))
  generalize hV : tgV m o c A = V at *
  have hb := begR_P V (nI x) hc (sFn m)
  have hI : sInv V (begR V (nI x) c (sFn m)) n c := begP_inv hb (fun p hpc => (eA.2.2.1.2.2 p hpc).2.2.2.2.1) (hIn_lt hx (by omega))
  obtain ⟨m4, d1, d2, ⟨S', d3⟩, d4⟩ := cx_runToEnd hfu hs (cEnv_fr hs eA f2) hI hb.1 hx R2 2399
  have hq : qOf 2399 x = 2399 - x := by
    unfold qOf
    rw [show (2399 : Int32).toInt = 2399 from rfl, if_pos (by omega)]; omega
  rw [hq] at d1 d2
  have f4 := f2.tr d4
  generalize hm5 : sI (sI (sI (sI m4 32 4 1) 32 3 1) (6 + 2 * o) 5 (gI m (6 + 2 * o) 5)) (6 + 2 * o) 4 (gI m (6 + 2 * o) 4) = m5
  have g5 : ∀ a j, ¬ (a = 6 + 2 * o ∧ (j = 4 ∨ j = 5)) → ¬ (a = 32 ∧ (j = 3 ∨ j = 4)) → gI m5 a j = gI m4 a j := fun a j z1 z2 => by rw [← hm5]; simp (disch := omega) only [gI_sn]
  have f5 : fr (PC 55) m m5 := by
    refine ⟨fun a j z => ?_, fun a j => ?_, fun a j => ?_⟩
    · by_cases q1 : a = 6 + 2 * o ∧ (j = 4 ∨ j = 5)
      · obtain ⟨rfl, rfl | rfl⟩ := q1
        · rw [← hm5, gI_ss]
        · rw [← hm5]; simp (disch := omega) only [gI_sn, gI_ss]
      · by_cases q2 : a = 32 ∧ (j = 3 ∨ j = 4)
        · obtain ⟨rfl, rfl | rfl⟩ := q2
          · rw [← hm5]; simp (disch := omega) only [gI_sn, gI_ss]; exact fl.1.symm
          · rw [← hm5]; simp (disch := omega) only [gI_sn, gI_ss]; exact fl.2.1.symm
        · rw [g5 a j q1 q2, f4.1 a j z, gA a j q1 q2]
    · have e1 : gL m5 a j = gL m4 a j := by rw [← hm5]; rfl
      have e2 : gL mA a j = gL m a j := by rw [← hmA]; rfl
      rw [e1, f4.2.1, e2]
    · have e1 : gR m5 a j = gR m4 a j := by rw [← hm5]; rfl
      have e2 : gR mA a j = gR m a j := by rw [← hmA]; rfl
      rw [e1, f4.2.2, e2]
  have j5 : jk m5 55 c := jk_cg d3.jk (fun a j z1 z2 => g5 a j (by omega) (by omega))
  have CW5 := h.cw.walk f5 j5
  have fE : fr PE m m5 := fr.PEw f5
  have k5 := PE_hi fE
  have cls : ∀ (F : Int32 → hM → Option (Int32 × hM)), (hBd (f_X0_allPeople fu m) fun y11 m12 => hBd (f_J9_min_7cf53 fu y11 9 m12) fun y13 m14 => hLet (sI m14 (6 + 2 * (Int32.toNatClampNeg (nI o))) 4 y13) fun m15 => hLet (sI m15 (6 + 2 * (Int32.toNatClampNeg (nI o))) 5 63) fun m16 => hLet (sI m16 32 3 0) fun m17 => hLet (sI m17 32 4 0) fun m18 => hBd (f_X10_begunAt fu (nI x) m18) fun y19 m20 => if y19 = 55 then (hBd (f_J7_fill_53178 fu 56 8 (nI o) m20) fun _ m22 => hBd (f_X8_runToEnd fu 55 2399 m22) fun y23 m24 => hLet (sI m24 32 4 1) fun m25 => hLet (sI m25 32 3 1) fun m26 => hLet (sI m26 (6 + 2 * (Int32.toNatClampNeg (nI o))) 5 (gI m (6 + 2 * (Int32.toNatClampNeg (nI o))) 5)) fun m27 => hLet (sI m27 (6 + 2 * (Int32.toNatClampNeg (nI o))) 4 (gI m (6 + 2 * (Int32.toNatClampNeg (nI o))) 4)) fun m28 => F y23 m28) else none) = F (match gK V n c (2399 - x) (begR V (nI x) c (sFn m)) with | some k => nI (x + k) | none => -2) m5 := by
    intro F
    rw [cx_people (show 100 ≤ fu by omega) hn h.1.2, hBd_some, e_min, hBd_some, min9, hA0, co]
    simp only [hLet_n]
    rw [hmA, a1, hBd_some, if_pos rfl, b1, hBd_some, d1, hBd_some, hm5]
    rfl
  have start : ∀ (F : Int32 → hM → Option (Int32 × hM)), (hBd (f_X0_has fu (nI o) m) fun y1 m2 => if y1 = 0 then (some ((-1), m2)) else (hBd (f_X10_isHour fu (nI x) m2) fun y4 m5 => if y4 = 0 then (some ((-1), m5)) else (if ¬ (gI m5 18 6) = 0 then (if hIn (nI o) 6 then (hLet (gI m5 (6 + 2 * (Int32.toNatClampNeg (nI o))) 5) fun y9 => hLet (gI m5 (6 + 2 * (Int32.toNatClampNeg (nI o))) 4) fun y10 => hBd (f_X0_allPeople fu m5) fun y11 m12 => hBd (f_J9_min_7cf53 fu y11 9 m12) fun y13 m14 => hLet (sI m14 (6 + 2 * (Int32.toNatClampNeg (nI o))) 4 y13) fun m15 => hLet (sI m15 (6 + 2 * (Int32.toNatClampNeg (nI o))) 5 63) fun m16 => hLet (sI m16 32 3 0) fun m17 => hLet (sI m17 32 4 0) fun m18 => hBd (f_X10_begunAt fu (nI x) m18) fun y19 m20 => if y19 = 55 then (hBd (f_J7_fill_53178 fu 56 8 (nI o) m20) fun _ m22 => hBd (f_X8_runToEnd fu 55 2399 m22) fun y23 m24 => hLet (sI m24 32 4 1) fun m25 => hLet (sI m25 32 3 1) fun m26 => hLet (sI m26 (6 + 2 * (Int32.toNatClampNeg (nI o))) 5 y9) fun m27 => hLet (sI m27 (6 + 2 * (Int32.toNatClampNeg (nI o))) 4 y10) fun m28 => F y23 m28) else none) else none) else (some ((-1), m5))))) = F (match gK V n c (2399 - x) (begR V (nI x) c (sFn m)) with | some k => nI (x + k) | none => -2) m5 := by
    intro F
    rw [cx_has fu _ m (by omega) h.1.2.1, hBd_some, if_pos c1, if_neg (by decide), cx_isHour, hBd_some, if_pos c2, if_neg (by decide), h.2.1.2.1.1, if_pos nc, if_pos h6]
    exact cls F
  -- the reference
  have ref : ∀ M : hM, (∀ a j, 96 ≤ a → gI M a j = gI m a j) → ∃ p, (hLet (sI M 96 0 0) fun m1 => hBd (f_X11_isOffice fu (nI o) m1) fun y2 m3 => if y2 = 0 then (some ((-1), m3)) else (hBd (f_X11_isHour fu (nI x) m3) fun y5 m6 => if y5 = 0 then (some ((-1), m6)) else (if ¬ (gI m6 96 16) = 0 then (hLet (gI m6 117 0) fun y9 => if hIn (nI o) 6 then (hLet (gI m6 103 (Int32.toNatClampNeg (nI o))) fun y11 => if hIn (nI o) 6 then (hLet (gI m6 102 (Int32.toNatClampNeg (nI o))) fun y13 => f_X11_together_58 fu fu (nI o) (nI x) y9 y11 y13 0 0 m6) else none) else none) else (some ((-1), m6))))) = some ((match gK V n c (2399 - x) (begR V (nI x) c (sFn m)) with | some k => nI (x + k) | none => -2), p) ∧ (gK V n c (2399 - x) (begR V (nI x) c (sFn m)) = none → fr P0S (sI M 96 0 0) p) ∧ (∀ k, gK V n c (2399 - x) (begR V (nI x) c (sFn m)) = some k → frV (sI M 96 0 0) p (rwE (runS V n c k (begR V (nI x) c (sFn m))) c 0 0 0)) := by
    intro M kM
    obtain ⟨p, q1, q2, q3⟩ := rx_tog hfu hv hp ho hx (M := sI M 96 0 0) (eqV_th (eqV_hi kM)) fl.2.2 hA0 hA (S := sFn m) (fun j hj => by rw [gI_sn (by omega), kM _ _ (by omega)]; rfl)
    rw [hV] at q1 q2 q3
    refine ⟨p, ?_, q2, q3⟩
    rw [hLet_n, rx_isOffice fu _ _ (by omega) (h3 M kM), hBd_some, if_pos c1, if_neg (by decide), rx_isHour, hBd_some, if_pos c2, if_neg (by decide), h16 M kM, if_pos nc, hLet_n, if_pos h6, hLet_n, if_pos h6, hLet_n, co]
    exact q1
  cases hg : gK V n c (2399 - x) (begR V (nI x) c (sFn m)) with
  | none =>
    obtain ⟨p, q1, q2, q3⟩ := ref m5 k5
    have S1 := start (fun y23 m28 => if y23 = (-2) then (some (y23, m28)) else (hBd (f_X10_tellEnd fu 0 0 0 m28) fun _ m30 => some (y23, m30)))
    rw [hg] at S1 q1
    simp only [] at S1 q1
    rw [if_pos (by decide)] at S1
    exact ⟨-2, m5, p, S1, q1, IW.q1 (h.m6 fE ⟨h.1.1, CW5.1.2.1⟩ j5) k5 fE.2.1 fE.2.2 (fr.th.tr (q2 hg)) (fun a j z => P0S_ok z)⟩
  | some kk =>
    have hkk := gK_le _ _ _ hg
    have R5 : sRel (runS V n c kk (begR V (nI x) c (sFn m))) m5 55 c := sRel_fr (d2 kk hg) (fun a j z1 z2 => g5 a j (by omega) (by omega))
    have T := cx_tellEnd (show 100 ≤ fu by omega) (show gI m5 18 6 = nI c by rw [f5.1 _ _ (by unfold PC; omega)]; exact h.2.1.2.1.1) R5 0 0 0
    generalize hxs : rwE (runS V n c kk (begR V (nI x) c (sFn m))) c 0 0 0 = xs at *
    have lx : xs.length ≤ 11 := by rw [← hxs, rwE_len]; omega
    have k6 : ∀ a j, 96 ≤ a → gI (setRow m5 67 66 1 xs) a j = gI m a j := fun a j z => by rw [sr_I, if_neg (by omega)]; exact k5 a j z
    obtain ⟨p, q1, q2, q3⟩ := ref _ k6
    have q4 := q3 kk hg
    rw [hxs] at q4
    have S1 := start (fun y23 m28 => if y23 = (-2) then (some (y23, m28)) else (hBd (f_X10_tellEnd fu 0 0 0 m28) fun _ m30 => some (y23, m30)))
    rw [hg] at S1 q1
    simp only [] at S1 q1
    rw [if_neg (by rw [i_eq, nI_toInt (by omega)]; show ¬ ((x + kk : Nat) : Int) = -2; omega), T, hBd_some] at S1
    have CW6 : CW m (setRow m5 67 66 1 xs) n c (sFn m) := CW5.row _
    refine ⟨nI (x + kk), setRow m5 67 66 1 xs, p, S1, q1, IW.q5 h (F := setRow m5 67 66 1 xs) (xs := xs) ⟨fun a j z1 z2 => ?_, fun a j => ?_, fun a j => ?_, ?_⟩ ⟨h.1.1, CW6.1.2.1⟩ CW6.2.2.2.1 ⟨fun a j z1 z2 => ?_, fun a j => ?_, fun a j => ?_, q4.2.2.2⟩ lx⟩
    · rw [sr_I, if_neg z2]; exact fE.1 a j z1
    · rw [sr_L, fE.2.1]
    · rw [sr_R, fE.2.2]
    · rw [sr_I, if_pos ⟨rfl, rfl⟩]
    · rw [q4.1 a j z1 z2, gI_sn (by unfold P0S at z1; omega)]
    · rw [q4.2.1]; rfl
    · rw [q4.2.2.1]; rfl
