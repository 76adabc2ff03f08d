/-! ===== cheap as a whole call ===== -/
theorem ch_same {v m1 m2 : hM} {n c b p k x T : Nat} {res : Int32} (hv : vRel v n) (hp : pRng v n c) (hpc : p < c) (hb : b < n) (hk : k ≤ 2) (h : chC v n b p k x T res m1) (g : eqE m2 (cEn v n b p k x T)) :
    (∃ i q, i < rtN (n - 1) k ∧ q < 500000 ∧ res = nI q ∧ gI m1 34 5 = nI i ∧ gI m2 96 46 = nI (rtW (n - 1) b i).length ∧ gL m2 96 45 = lN (512 * q + rtC (rtW (n - 1) b i))) ∨ (res = -2 ∧ gI m2 96 46 = -1) := by
  have hn := hv.1
  have ok : ∀ r q, qF v n b p k x T r q → rtV n b r ∧ r.length ≤ k := by
    rintro r q ⟨t, -, -, q0, y, -⟩
    have := qQ_ok hv hp hpc hb t _ _ _ y
    exact ⟨this.1, this.2.1⟩
  rcases g with ⟨g1, g2⟩ | ⟨n1, z, g0, g0', ⟨r, q, r1, r2, r3⟩, g2, g3, g4⟩
  · rcases h with ⟨i, q, i1, i2, i3, -⟩ | ⟨h1, -⟩
    · exact absurd ⟨_, q, rfl, rfl, i3⟩ (g2 (rtW (n - 1) b i).length (512 * q + rtC (rtW (n - 1) b i)))
    · exact Or.inr ⟨h1, g1⟩
  · obtain ⟨V, hl⟩ := ok r q r3
    have h64 := rtC_64 hn V (by omega)
    obtain ⟨j, j1, j2⟩ := rt_row2 hb V hl
    rcases h with ⟨i, q', i1, i2, i3, i4, i5, i6⟩ | ⟨h1, h2⟩
    · obtain ⟨V', hl'⟩ := ok _ _ i3
      have h64' := rtC_64 hn V' (by omega)
      have k1 := i6 j q j1 (by rw [j2]; exact r3)
      have k2 := g4 (rtW (n - 1) b i).length (512 * q' + rtC (rtW (n - 1) b i)) ⟨_, q', rfl, rfl, i3⟩
      unfold lxL at k2
      have eq : q = q' := by omega
      subst eq
      have nij : ¬ j < i := fun u => by have := k1.2 u; omega
      have nji : ¬ i < j := fun u => by
        have o1 := rt_ord2 hn hb u j1
        rw [j2] at o1
        omega
      have : i = j := by omega
      subst this
      exact Or.inl ⟨i, q, i1, i2, i4, i5, by rw [j2, r1]; exact g2, by rw [j2, ← r2]; exact g3⟩
    · exact absurd r3 (by rw [← j2]; exact h2 j q j1)
theorem fr.p4y {m m1 : hM} (f : fr PY m m1) : fr P4 m m1 := f.mono (fun a j z => by unfold PY at z; unfold P4; omega)
def PU0 (a j : Nat) : Prop := PU a j ∨ (a = 96 ∧ j = 0)
theorem PU0_ok {a j : Nat} (h : PU0 a j) : 96 ≤ a ∧ ¬ rI a j := by unfold PU0 PU at h; unfold rI; omega
theorem rf3_ok {m m2 : hM} (h : rfOk m) (f : frU m m2) (g : rf3 m2) : rfOk m2 := ⟨by rw [f.2.2 96 38 (by omega), f.2.2 96 39 (by omega)]; exact h.1, g⟩
theorem ok_cheap {fu : Nat} (hfu : 4000 ≤ fu) {m : hM} (h : IV m) (x1 x2 x3 x4 : Int32) : okC (f_X10_cheap fu x1 x2 x3 x4) (f_X11_cheap fu x1 x2 x3 x4) m := by
  obtain ⟨n, c, kk, tt, h⟩ := h
  have hp := h.2.1.1
  have hv := h.1.1
  have hn := hv.1
  have hc := hp.1
  have h16 : ∀ M : hM, (∀ a j, 96 ≤ a → gI M a j = gI m a j) → gI (sI M 96 0 0) 96 16 = nI c := fun M z => by rw [gI_sn (by omega), z _ _ (by omega)]; exact hp.2.1
  have id1 : ∀ a j, 96 ≤ a → gI m a j = gI m a j := fun _ _ _ => rfl
  have e0 : (0 : Int32).toInt = 0 := rfl
  have e2 : (2 : Int32).toInt = 2 := rfl
  have e4 : (400 : Int32).toInt = 400 := rfl
  have e9 : (2399 : Int32).toInt = 2399 := rfl
  unfold okC f_X10_cheap f_X11_cheap
  by_cases c1 : hIn x1 c
  rotate_left
  · refine ⟨-1, m, sI m 96 0 0, ?_, ?_, h.th rfl rfl⟩
    · rw [cx_hasP fu x1 m (by omega) h.2.1.2.1.1, hBd_some, if_neg c1, if_pos rfl]
    · rw [hLet_n, rx_isPiece fu x1 _ (by omega) (h16 m id1), hBd_some, if_neg c1, if_pos rfl]
  by_cases c2 : hIn x2 2400
  rotate_left
  · refine ⟨-1, m, sI m 96 0 0, ?_, ?_, h.th rfl rfl⟩
    · rw [cx_hasP fu x1 m (by omega) h.2.1.2.1.1, hBd_some, if_pos c1, if_neg (by decide), cx_isHour, hBd_some, if_neg c2, if_pos rfl]
    · rw [hLet_n, rx_isPiece fu x1 _ (by omega) (h16 m id1), hBd_some, if_pos c1, if_neg (by decide), rx_isHour, hBd_some, if_neg c2, if_pos rfl]
  by_cases c3 : 0 ≤ x3.toInt ∧ x3.toInt ≤ 2
  rotate_left
  · refine ⟨-1, m, sI m 96 0 0, ?_, ?_, h.th rfl rfl⟩
    · rw [cx_hasP fu x1 m (by omega) h.2.1.2.1.1, hBd_some, if_pos c1, if_neg (by decide), cx_isHour, hBd_some, if_pos c2, if_neg (by decide)]
      by_cases y : x3 < 0
      · rw [if_pos y]
      · rw [if_neg y, if_neg (by rw [i_le, e2]; rw [i_lt, e0] at y; omega)]
    · rw [hLet_n, rx_isPiece fu x1 _ (by omega) (h16 m id1), hBd_some, if_pos c1, if_neg (by decide), rx_isHour, hBd_some, if_pos c2, if_neg (by decide), rx_inI, hBd_some, if_neg (show ¬ ((0 : Int64).toInt ≤ x3.toInt ∧ x3.toInt ≤ (2 : Int64).toInt) from c3), if_pos rfl]
  have hc2 : 0 ≤ x2.toInt ∧ x2.toInt < 2400 := ⟨c2.1, by have := c2.2; omega⟩
  have ep : (x2 + 400).toInt = x2.toInt + 400 := by rw [i_add (by omega) (by omega), e4]
  have c30 : ¬ x3 < 0 := by rw [i_lt, e0]; omega
  have c32 : x3 ≤ 2 := by rw [i_le, e2]; omega
  have guard : ∀ M : hM, f_X11_in fu (Int32.toInt64 x4) (Int32.toInt64 x2) (Int32.toInt64 (if x2 + 400 < 2399 then x2 + 400 else 2399)) M = some (if (x2.toInt ≤ x4.toInt ∧ x4.toInt ≤ 2399 ∧ x4.toInt ≤ x2.toInt + 400) then 1 else 0, M) := by
    intro M
    rw [rx_in]
    have : (x2.toInt64 ≤ x4.toInt64 ∧ x4.toInt64 ≤ (if x2 + 400 < 2399 then x2 + 400 else 2399).toInt64) ↔ (x2.toInt ≤ x4.toInt ∧ x4.toInt ≤ 2399 ∧ x4.toInt ≤ x2.toInt + 400) := by
      rw [w_le, w_le]
      by_cases y : x2 + 400 < 2399
      · rw [if_pos y, ep]; rw [i_lt, ep, e9] at y; omega
      · rw [if_neg y, e9]; rw [i_lt, ep, e9] at y; omega
    simp only [this]
  by_cases c4 : x2.toInt ≤ x4.toInt ∧ x4.toInt ≤ 2399 ∧ x4.toInt ≤ x2.toInt + 400
  rotate_left
  · refine ⟨-1, m, sI m 96 0 0, ?_, ?_, h.th rfl rfl⟩
    · rw [cx_hasP fu x1 m (by omega) h.2.1.2.1.1, hBd_some, if_pos c1, if_neg (by decide), cx_isHour, hBd_some, if_pos c2, if_neg (by decide), if_neg c30, if_pos c32, cx_isHour, hBd_some]
      by_cases y : hIn x4 2400
      · rw [if_pos y, if_neg (by decide)]
        have y2 := y.2
        by_cases y3 : x4 < x2
        · rw [if_pos y3]
        · rw [if_neg y3, if_neg (by rw [i_le, ep]; rw [i_lt] at y3; omega)]
      · rw [if_neg y, if_pos rfl]
    · rw [hLet_n, rx_isPiece fu x1 _ (by omega) (h16 m id1), hBd_some, if_pos c1, if_neg (by decide), rx_isHour, hBd_some, if_pos c2, if_neg (by decide), rx_inI, hBd_some, if_pos (show ((0 : Int64).toInt ≤ x3.toInt ∧ x3.toInt ≤ (2 : Int64).toInt) from c3), if_neg (by decide), e_min, hBd_some, guard, hBd_some, if_neg c4, if_neg (fun z => z rfl)]
  have c5 : hIn x4 2400 := ⟨by omega, by omega⟩
  have c6 : ¬ x4 < x2 := by rw [i_lt]; omega
  have c7 : x4 ≤ x2 + 400 := by rw [i_le, ep]; omega
  obtain ⟨p, hpc, rfl⟩ := hIn_of c1 (by omega)
  obtain ⟨x, hx, rfl⟩ := hIn_of c2 (by omega)
  obtain ⟨k, hk4, rfl⟩ := hIn_of (show hIn x3 3 from ⟨c3.1, by omega⟩) (by omega)
  obtain ⟨e, he, rfl⟩ := hIn_of c5 (by omega)
  rw [nI_toInt (show x < 2 ^ 31 by omega), nI_toInt (show e < 2 ^ 31 by omega)] at c4
  have hk : k ≤ 2 := by omega
  have cp : (nI p).toNatClampNeg = p := nI_clamp (by omega)
  have h8 : hIn (nI p) 8 := hIn_lt (show p < 8 by omega) (by omega)
  obtain ⟨b, hb, hbe⟩ := hIn_of (hp.2.2 p hpc).2.2.2.2.1 (by omega)
  have g23 : gI m 23 p = nI b := by rw [h.2.1.2.2 p hpc]; exact hbe
  obtain ⟨hl0, hl1, hl2⟩ := len_ok hp hpc
  obtain ⟨m2, a1, a2, a3⟩ := cx_grow (fu := fu) (by omega) (m := m) (n := n) (b := b) (k := k) hn h.1.2.1 hb (by omega)
  have f2 := fr.p4w a3
  obtain ⟨res, m3, s1, s2, s3⟩ := cx_cheapest (fu := fu) hfu (v := m) (m := m2) (x := x) (e := e) hv hp (h.p4 f2).2.1.2.1 (h.p4 f2).1.2 hpc hb hk (by omega) (by omega) (by omega) a2
  have f3 : fr P4 m m3 := f2.tr (fr.p4y s2)
  have h3 := h.p4 f3
  have k3 : ∀ a j, 96 ≤ a → gI m3 a j = gI m a j := fun a j z => f3.1 a j (by unfold P4; omega)
  have A : ∀ R, (hBd (f_X4_has fu (nI p) m) fun y1 m2 => if y1 = 0 then some ((-1 : Int32), m2) else (hBd (f_X10_isHour fu (nI x) m2) fun y4 m5 => if y4 = 0 then some ((-1), m5) else (if nI k < 0 then some ((-1), m5) else (if nI k ≤ 2 then (hBd (f_X10_isHour fu (nI e) m5) fun y9 m10 => if y9 = 0 then some ((-1), m10) else (if nI e < nI x then some ((-1), m10) else (if nI e ≤ (nI x + 400) then (if hIn (nI p) 8 then (hBd (f_X9_grow fu (gI m10 23 (Int32.toNatClampNeg (nI p))) (nI k) m10) fun _ m15 => hBd (f_X9_cheapest fu (nI p) (nI x) (nI e) m15) fun y16 m17 => if y16 = (-2) then some (y16, m17) else (hBd (f_X9_tellBest fu m17) fun _ m19 => some (y16, m19))) else none) else some ((-1), m10)))) else some ((-1), m5))))) = R ↔ (if res = -2 then some (res, m3) else (hBd (f_X9_tellBest fu m3) fun _ m19 => some (res, m19))) = R := fun R => by
    rw [cx_hasP fu _ m (by omega) h.2.1.2.1.1, hBd_some, if_pos c1, if_neg (by decide), cx_isHour, hBd_some, if_pos c2, if_neg (by decide), if_neg c30, if_pos c32, cx_isHour, hBd_some, if_pos c5, if_neg (by decide), if_neg c6, if_pos c7, if_pos h8, cp, g23, a1, hBd_some, s1, hBd_some]
  -- the reference
  have B : ∀ M : hM, (∀ a j, 96 ≤ a → gI M a j = gI m a j) → (∀ a j, gR M a j = gR m a j) → ∃ m5, f_X11_cheap fu (nI p) (nI x) (nI k) (nI e) M = f_X11_cheap_303 fu m5 ∧ frU (sI M 96 0 0) m5 ∧ rf3 m5 ∧ eqE m5 (cEn m n b p k x (e - x)) := by
    intro M z zr
    have hr : rf3 M := by unfold rf3; rw [zr, zr]; exact h.2.2.2.2.2.2.2.2.2.2.2
    have hN : gR M 96 43 = 124 ∨ gR M 96 43 = 125 := by unfold rf3 at hr; omega
    have hl' : hAr LY[gR M 96 43]? 3 3072 = true := by rcases hN with q | q <;> rw [q] <;> decide +kernel
    have E0 : eqV m (sI M 96 0 0) := eqV_th (eqV_hi z)
    obtain ⟨m6, u1, u2, u3, u4⟩ := rx_emptiesPaid hfu hN (sI M 96 0 0)
    have f6 : frU (sI M 96 0 0) m6 := u3.U hN (fun a j z => z.elim)
    have E6 := f6.eqV E0
    have r6 : ∀ a j, gR m6 a j = gR M a j := fun a j => u3.2.2 a j
    obtain ⟨p1, p2⟩ := pl_at (n := 0) (o := b) (l := (gI m 109 p).toNatClampNeg) (by omega) (by omega) (by omega) fu m6
    unfold f_X11_cheap
    rw [hLet_n, rx_isPiece fu _ _ (by omega) (h16 M z), hBd_some, if_pos c1, if_neg (by decide), rx_isHour, hBd_some, if_pos c2, if_neg (by decide), rx_inI, hBd_some, if_pos (show ((0 : Int64).toInt ≤ (nI k).toInt ∧ (nI k).toInt ≤ (2 : Int64).toInt) from c3), if_neg (by decide), e_min, hBd_some, guard, hBd_some, if_pos (show (nI x).toInt ≤ (nI e).toInt ∧ (nI e).toInt ≤ 2399 ∧ (nI e).toInt ≤ (nI x).toInt + 400 by rw [nI_toInt (by omega), nI_toInt (by omega)]; exact c4), if_pos (by decide), gR_sI, if_pos hl', u1, hBd_some, r6, if_pos hl', if_pos h8, if_pos h8, cp, E6 111 p (by unfold envC; omega), hbe, E6 109 p (by unfold envC; omega)]
    generalize elen : (gI m 109 p).toNatClampNeg = len at *
    rw [hl0, show (0 : Int32) = nI 0 from rfl, p1, hBd_some, if_pos (hIn_lt p2 (by omega)), hLet_n, hLet_n, nI_clamp (by omega)]
    generalize eN : gR M 96 43 = N at *
    have f7 : frU (sI M 96 0 0) (sI (sL m6 N ((0 * 6 + b) * 128 + len) 0) 96 46 (-1)) := f6.tr ⟨fun a j z => by rw [gI_sn (fun y => z (Or.inr y))]; rfl, fun a j z => by rw [gL_sI, gL_sn (fun y => by omega)], fun a j _ => rfl⟩
    have r7 : ∀ a j, gR (sI (sL m6 N ((0 * 6 + b) * 128 + len) 0) 96 46 (-1)) a j = gR M a j := fun a j => r6 a j
    obtain ⟨m5, y1, y2, y3, y4⟩ := rx_ch95 hfu (v := m) hv hp hpc hb hk (show x ≤ e by omega) (by omega) (by omega) fu 0 (sI (sL m6 N ((0 * 6 + b) * 128 + len) 0) 96 46 (-1)) (by omega) (by omega) (f7.eqV E0) (by unfold rf3; rw [r7, r7]; exact hr) (fun n' o' l' z1 z2 z3 => by
      rw [r7, eN, gL_sI]
      by_cases q : n' = 0 ∧ o' = b ∧ l' = len
      · obtain ⟨rfl, rfl, rfl⟩ := q
        rw [gL_ss]
        exact Or.inl ⟨0, by omega, rfl, ⟨[], 0, rfl, rfl, rfl, rfl, elen.symm, rfl⟩, fun _ _ => Nat.zero_le _⟩
      · rw [gL_sn (by omega), u2 _ (by omega)]
        refine Or.inr ⟨rfl, fun c' ⟨r, q0, q1, q2, q3, q4, q5, q6⟩ => q ?_⟩
        subst q4
        exact ⟨q1.symm, q2.symm, q5.trans elen⟩) (Or.inl ⟨gI_ss _ _ _ _, fun n' z ⟨r, q, _, _, ⟨t, y, _⟩⟩ => absurd y (Nat.not_lt_zero _)⟩)
    exact ⟨m5, y1, f7.tr y2, y3, y4⟩
  have rfM : ∀ M : hM, (∀ a j, gR M a j = gR m a j) → rfOk (sI M 96 0 0) := fun M zr => rfOk_cg h.2.2.2.2.2.2.2.2.2.2 (fun j => zr 96 j)
  rcases s3' : decide (res = -2) with - | -
  · have hne : ¬ res = -2 := of_decide_eq_false s3'
    have hit : ∃ i, i < rtN (n - 1) k ∧ gI m3 34 5 = nI i := by
      rcases s3 with ⟨i, q, q1, q2, q3, q4, q5, -⟩ | q
      · exact ⟨i, q1, q5⟩
      · exact absurd q.1 hne
    obtain ⟨i, i1, i2⟩ := hit
    have g3 := gwR_y a2 s2
    have T := cx_tellBest (fu := fu) (by omega) hn hb (show k ≤ 3 by omega) g3 i1 i2
    obtain ⟨V, hV⟩ := rt_rowV (n := n) (b := b) hb i1
    have h64 := rtC_64 hn V (by omega)
    generalize exs : tlR (rtW (n - 1) b i) (rtW (n - 1) b i).length = xs at *
    have hxs : xs.length ≤ 4 := by rw [← exs, tlR_len (Nat.le_refl _)]; omega
    have zM : ∀ a j, 96 ≤ a → gI (setRow m3 67 66 1 xs) a j = gI m a j := fun a j z => by rw [sr_In (by omega)]; exact k3 a j z
    obtain ⟨m5, b1, b2, b3, b4⟩ := B (setRow m3 67 66 1 xs) zM (fun a j => f3.2.2 a j)
    rcases ch_same hv hp hpc hb hk s3 b4 with ⟨i', q, q1, q2, q3, q4, q5, q6⟩ | ⟨q1, -⟩
    · have hC := rtN_le2 (show n - 1 ≤ 5 by omega) k hk
      rw [i2, nI_eq (by omega) (by omega)] at q4
      subst q4
      refine ⟨res, setRow m3 67 66 1 xs, setRow m5 97 96 1 xs, (A _).mpr ?_, ?_, ?_⟩
      · rw [if_neg hne, T, hBd_some]
      · have b1' := b1
        unfold f_X11_cheap at b1'
        rw [b1']
        unfold f_X11_cheap_303
        have gl : ∀ xs a j, ¬ a = 97 → gL (setRow m5 97 96 1 xs) a j = gL m5 a j := fun xs a j z => sr_Ln (fun y => z y.1)
        rw [q5, if_pos (nI_pos' (by omega)), hLet_n, gI_sn (by omega), q5, sr_nil m5 97 96 1, rx_enters fu m5 (by simp), hBd_some, sr_In (by omega), q5, gl _ _ _ (by omega), q6, lN_mod (by omega), show (512 * q + rtC (rtW (n - 1) b i)) % 512 = rtC (rtW (n - 1) b i) by omega, lN_i, show ([] : List Int64) ++ [Int32.toInt64 (nI (rtW (n - 1) b i).length)] = tlR (rtW (n - 1) b i) 0 from rfl, rx_entersRoute (by omega) hn V (by omega), hBd_some, exs, gl _ _ _ (by omega), q6, lN_div (by omega), show (512 * q + rtC (rtW (n - 1) b i)) / 512 = q by omega, lN_i, q3]
      · exact h3.q2T k3 f3.2.1 (by omega) (P := PU0) (fun a j z => by rw [b2.1 a j (fun y => z (Or.inl y)), gI_sn (fun y => z (Or.inr y))]) (fun a j z => PU0_ok z) (fun j => b2.2.1 _ _ (by omega)) (fun j => b2.2.1 _ _ (by omega)) (rf3_ok (rfM (setRow m3 67 66 1 xs) (fun a j => f3.2.2 a j)) b2 b3)
    · exact absurd q1 hne
  · have hre : res = -2 := of_decide_eq_true s3'
    obtain ⟨m5, b1, b2, b3, b4⟩ := B m3 k3 f3.2.2
    rcases ch_same hv hp hpc hb hk s3 b4 with ⟨i', q, q1, q2, q3, -⟩ | ⟨q1, q2⟩
    · rw [q3] at hre
      have := congrArg Int32.toInt hre
      rw [nI_toInt (by omega)] at this
      have e : (-2 : Int32).toInt = -2 := rfl
      omega
    · refine ⟨-2, m3, m5, (A _).mpr ?_, ?_, ?_⟩
      · rw [if_pos hre, hre]
      · have b1' := b1
        unfold f_X11_cheap at b1'
        rw [b1']
        unfold f_X11_cheap_303
        rw [q2, if_neg (by decide)]
      · exact h3.q1T k3 f3.2.1 (P := PU0) (fun a j z => by rw [b2.1 a j (fun y => z (Or.inl y)), gI_sn (fun y => z (Or.inr y))]) (fun a j z => PU0_ok z) (fun j => b2.2.1 _ _ (by omega)) (fun j => b2.2.1 _ _ (by omega)) (rf3_ok (rfM _ f3.2.2) b2 b3)
