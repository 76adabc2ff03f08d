/-! ===== one ===== -/
theorem so_same {v m1 m2 : hM} {n b p k x : Nat} {res res' : Int32} (hn : n ≤ 6) (H : wH (loN v (gI v 96 14)) (wkP v p) n b (gI v 109 p).toNatClampNeg k) (hx : x < 2400) (h : soC v (gI v 96 14) n b p k x 2399 res m1) (g : soR v n b p k x res' m2) :
    (∃ t i, x + t < 2399 ∧ i < rtN (n - 1) k ∧ res = nI (x + t + 1) ∧ res' = nI (x + t + 1) ∧ gI m1 34 5 = nI i ∧ gI m2 96 41 = nI (rtW (n - 1) b i).length ∧ gI m2 96 42 = nI (rtC (rtW (n - 1) b i)) ∧ wN (loN v (gI v 96 14)) (wkP v p) n b (gI v 109 p).toNatClampNeg k x t ∧ wE (loN v (gI v 96 14)) (wkP v p) n b (gI v 109 p).toNatClampNeg k x t (rtW (n - 1) b i)) ∨ (res = -2 ∧ res' = -1) := by
  have hb := H.2.2.1
  rcases h with ⟨t, i, a1, a2, a3, a4, a5, a6, a7⟩ | ⟨a1, a2⟩
  · rcases g with ⟨t', r, b1, b2, b3, b4, b5, b6, b7⟩ | ⟨b1, b2⟩
    · have e : t = t' := by
        rcases Nat.lt_trichotomy t t' with u | u | u
        · exact absurd a4 (b2 t u _)
        · exact u
        · exact absurd b3 (a2 t' u _)
      subst e
      obtain ⟨c1, c2, -⟩ := H.ok (show x + t ≤ 2400 by omega) b3.1
      obtain ⟨j, j1, j2⟩ := rt_row2 hb c1 c2
      have hij : ¬ j < i := fun u => a5 j u (by rw [j2]; exact b3)
      have hji : ¬ i < j := by
        intro u
        have o1 := rt_ord2 hn hb u j1
        have o2 := b4 _ a4
        rw [j2] at o1
        omega
      have : i = j := by omega
      subst this
      exact Or.inl ⟨t, i, b1, a3, a6, b5, a7, by rw [j2]; exact b6, by rw [j2]; exact b7, a2, a4⟩
    · exact absurd a4 (b1 t (by omega) _)
  · rcases g with ⟨t', r, b1, b2, b3, b4, b5, b6, b7⟩ | ⟨b1, b2⟩
    · exact absurd b3 (a1 t' (by omega) _)
    · exact Or.inr ⟨a2, b2⟩
def P4 (a _j : Nat) : Prop := 34 ≤ a ∧ a ≤ 40
theorem fr.p4w {m m1 : hM} (f : fr PW m m1) : fr P4 m m1 := f.mono (fun a j z => by unfold PW at z; unfold P4; omega)
theorem fr.p4q {m m1 : hM} (f : fr PQ m m1) : fr P4 m m1 := f.mono (fun a j z => by unfold PQ at z; unfold P4; omega)
theorem IW.p4 {m m6 : hM} {n c k t : Nat} (h : IW m m n c k t) (f : fr P4 m m6) : IW m m6 n c k t :=
  h.cg eqR.rf ⟨fun a j z => f.1 a j (by unfold cI at z; unfold P4; omega), fun j => f.2.1 _ _⟩ (jk_cg h.2.2.2.2.2.1 (fun a j z1 z2 => f.1 a j (by unfold P4; omega)))
/-- a question's end: the reference's memory was m6 ahead of it; no row -/
theorem IW.q1T {m m6 m2 : hM} {n c k t : Nat} (h : IW m m6 n c k t) (k1 : ∀ a j, 96 ≤ a → gI m6 a j = gI m a j) (l1 : ∀ a j, gL m6 a j = gL m a j) {P : Nat → Nat → Prop} (g1 : ∀ a j, ¬ P a j → gI m2 a j = gI m6 a j) (hP : ∀ a j, P a j → 96 ≤ a ∧ ¬ rI a j) (g2 : ∀ j, gL m2 97 j = gL m6 97 j) (g2' : ∀ j, gL m2 67 j = gL m6 67 j) (g3 : rfOk m2) : IV m2 := by
  refine ⟨n, c, k, t, h.cg ⟨fun a j z => ?_, fun j => ?_, fun _ => g3⟩ ⟨fun a j z => g1 a j (fun y => by have := (hP a j y).1; unfold cI at z; omega), g2'⟩ (jk_cg h.2.2.2.2.2.1 (fun a j z1 z2 => g1 a j (fun y => by have := (hP a j y).1; omega)))⟩
  · rw [g1 a j (fun y => (hP a j y).2 z)]; exact k1 a j (by unfold rI at z; omega)
  · rw [g2]; exact l1 _ _
theorem IW.q2T {m m6 m7 : hM} {n c k t : Nat} (h : IW m m6 n c k t) (k1 : ∀ a j, 96 ≤ a → gI m6 a j = gI m a j) (l1 : ∀ a j, gL m6 a j = gL m a j) {xs : List Int64} (hx : xs.length ≤ 11) {P : Nat → Nat → Prop} (g1 : ∀ a j, ¬ P a j → gI m7 a j = gI (setRow m6 67 66 1 xs) a j) (hP : ∀ a j, P a j → 96 ≤ a ∧ ¬ rI a j) (g2 : ∀ j, gL m7 97 j = gL (setRow m6 67 66 1 xs) 97 j) (g2' : ∀ j, gL m7 67 j = gL (setRow m6 67 66 1 xs) 67 j) (g3 : rfOk m7) : IV (setRow m7 97 96 1 xs) := by
  have h2 := h.row hx
  have gc : ∀ a j, a ≤ 95 → gI (setRow m7 97 96 1 xs) a j = gI (setRow m6 67 66 1 xs) a j := fun a j z => by rw [sr_In (by omega), g1 a j (fun y => by have := (hP a j y).1; omega)]
  refine ⟨n, c, k, t, h2.cg ⟨fun a j z => ?_, fun j => ?_, fun _ => g3⟩ ⟨fun a j z => gc a j (by unfold cI at z; omega), fun j => ?_⟩ (jk_cg h2.2.2.2.2.2.1 (fun a j z1 z2 => gc a j (by omega)))⟩
  · rw [sr_I, sr_I]
    by_cases q : a = 96 ∧ j = 1
    · rw [if_pos q, if_pos q]
    · rw [if_neg q, if_neg q, g1 a j (fun y => (hP a j y).2 z), sr_In (by unfold rI at z; omega)]; exact k1 a j (by unfold rI at z; omega)
  · rw [sr_L, sr_L]
    by_cases q : 97 = 97 ∧ j < xs.length
    · rw [if_pos q, if_pos q]
    · rw [if_neg q, if_neg q, g2, sr_Ln (by omega)]; exact l1 _ _
  · rw [sr_Ln (m := m7) (by omega), g2']
def PT0 (a j : Nat) : Prop := PT a j ∨ (a = 96 ∧ j = 0)
theorem PT0_ok {a j : Nat} (h : PT0 a j) : 96 ≤ a ∧ ¬ rI a j := by unfold PT0 PT at h; unfold rI; omega
theorem rf2_ok {m m2 : hM} (h : rfOk m) (f : frT m m2) (g : rf2 m2) : rfOk m2 := ⟨g, by rw [f.2.2 96 43 (by omega), f.2.2 96 44 (by omega)]; exact h.2⟩
theorem ok_one {fu : Nat} (hfu : 4000 ≤ fu) {m : hM} (h : IV m) (x1 x2 x3 : Int32) : okC (f_X10_one fu x1 x2 x3) (f_X11_one fu x1 x2 x3) m := by
  obtain ⟨n, c, kk, tt, h⟩ := h
  have hp := h.2.1.1
  have hv := h.1.1
  have hn := hv.1
  have hc := hp.1
  have h16 : ∀ M : hM, (∀ a j, 96 ≤ a → gI M a j = gI m a j) → gI (sI M 96 0 0) 96 16 = nI c := fun M z => by rw [gI_sn (by omega), z _ _ (by omega)]; exact hp.2.1
  have id1 : ∀ a j, 96 ≤ a → gI m a j = gI m a j := fun _ _ _ => rfl
  have e0 : (0 : Int32).toInt = 0 := rfl
  have e3 : (3 : Int32).toInt = 3 := rfl
  unfold okC f_X10_one f_X11_one
  by_cases c1 : hIn x1 c
  rotate_left
  · refine ⟨-1, m, sI m 96 0 0, ?_, ?_, h.th rfl rfl⟩
    · rw [cx_hasP fu x1 m (by omega) h.2.1.2.1.1, hBd_some, if_neg c1, if_pos rfl]
    · rw [hLet_n, rx_isPiece fu x1 _ (by omega) (h16 m id1), hBd_some, if_neg c1, if_pos rfl]
  by_cases c2 : hIn x2 2400
  rotate_left
  · refine ⟨-1, m, sI m 96 0 0, ?_, ?_, h.th rfl rfl⟩
    · rw [cx_hasP fu x1 m (by omega) h.2.1.2.1.1, hBd_some, if_pos c1, if_neg (by decide), cx_isHour, hBd_some, if_neg c2, if_pos rfl]
    · rw [hLet_n, rx_isPiece fu x1 _ (by omega) (h16 m id1), hBd_some, if_pos c1, if_neg (by decide), rx_isHour, hBd_some, if_neg c2, if_pos rfl]
  by_cases c3 : 0 ≤ x3.toInt ∧ x3.toInt ≤ 3
  rotate_left
  · refine ⟨-1, m, sI m 96 0 0, ?_, ?_, h.th rfl rfl⟩
    · rw [cx_hasP fu x1 m (by omega) h.2.1.2.1.1, hBd_some, if_pos c1, if_neg (by decide), cx_isHour, hBd_some, if_pos c2, if_neg (by decide)]
      by_cases y : x3 < 0
      · rw [if_pos y]
      · rw [if_neg y, if_neg (by rw [i_le, e3]; rw [i_lt, e0] at y; omega)]
    · rw [hLet_n, rx_isPiece fu x1 _ (by omega) (h16 m id1), hBd_some, if_pos c1, if_neg (by decide), rx_isHour, hBd_some, if_pos c2, if_neg (by decide), rx_inI, hBd_some, if_neg (show ¬ ((0 : Int64).toInt ≤ x3.toInt ∧ x3.toInt ≤ (3 : Int64).toInt) from c3), if_neg (by decide)]
  obtain ⟨p, hpc, rfl⟩ := hIn_of c1 (by omega)
  obtain ⟨x, hx, rfl⟩ := hIn_of c2 (by omega)
  obtain ⟨k, hk4, rfl⟩ := hIn_of (show hIn x3 4 from ⟨c3.1, by omega⟩) (by omega)
  have hk : k ≤ 3 := by omega
  have cp : (nI p).toNatClampNeg = p := nI_clamp (by omega)
  have h8 : hIn (nI p) 8 := hIn_lt (show p < 8 by omega) (by omega)
  obtain ⟨b, hb, hbe⟩ := hIn_of (hp.2.2 p hpc).2.2.2.2.1 (by omega)
  have g23 : gI m 23 p = nI b := by rw [h.2.1.2.2 p hpc]; exact hbe
  have hL := hv.2.2.2.2.2.1
  have H := wH_of hv hp hpc hb hk hL
  obtain ⟨m2, a1, a2, a3⟩ := cx_grow (fu := fu) (by omega) (m := m) (n := n) (b := b) (k := k) hn h.1.2.1 hb hk
  have f2 := fr.p4w a3
  obtain ⟨res, m3, s1, s2, s3⟩ := cx_soonest (fu := fu) (by omega) (v := m) (m := m2) (lim := 2399) (x := x) (L := gI m 96 14) hv hp (h.p4 f2).2.1.2.1 (h.p4 f2).1.2 hpc hb hk hL rfl hx (by omega) a2
  have f3 : fr P4 m m3 := f2.tr (fr.p4q s2)
  have h3 := h.p4 f3
  have k3 : ∀ a j, 96 ≤ a → gI m3 a j = gI m a j := fun a j z => f3.1 a j (by unfold P4; omega)
  have A : f_X9_soonest fu (nI p) (nI x) 2399 m2 = some (res, m3) := s1
  -- the reference, from any memory that holds its part
  have B : ∀ M : hM, (∀ a j, 96 ≤ a → gI M a j = gI m a j) → (∀ a j, gR M a j = gR m a j) → ∃ res' m5, f_X11_soonest fu (nI p) (nI x) (nI k) (sI M 96 0 0) = some (res', m5) ∧ frT (sI M 96 0 0) m5 ∧ rf2 m5 ∧ soR m n b p k x res' m5 := fun M z zr =>
    rx_soonest hfu hv hp hpc hb hbe hk hx (eqV_th (eqV_hi z)) (by unfold rf2; rw [gR_sI, gR_sI, zr, zr]; exact h.2.2.2.2.2.2.2.2.2.2.1)
  have rfM : ∀ M : hM, (∀ a j, gR M a j = gR m a j) → rfOk (sI M 96 0 0) := fun M zr => rfOk_cg h.2.2.2.2.2.2.2.2.2.2 (fun j => zr 96 j)
  rcases s3' : decide (res = -2) with - | -
  · -- an end
    have hne : ¬ res = -2 := of_decide_eq_false s3'
    have hit : ∃ i, i < rtN (n - 1) k ∧ gI m3 34 5 = nI i := by
      rcases s3 with ⟨t, i, q1, q2, q3, q4, q5, q6, q7⟩ | q
      · exact ⟨i, q3, q7⟩
      · exact absurd q.2 hne
    obtain ⟨i, i1, i2⟩ := hit
    have g3 := gwR_q a2 s2
    have T := cx_tellBest (fu := fu) (by omega) hn hb hk g3 i1 i2
    obtain ⟨V, hV⟩ := rt_rowV (n := n) (b := b) hb i1
    generalize exs : tlR (rtW (n - 1) b i) (rtW (n - 1) b i).length = xs at *
    have hxs : xs.length ≤ 4 := by rw [← exs, tlR_len (Nat.le_refl _)]; omega
    have zM : ∀ a j, 96 ≤ a → gI (setRow m3 67 66 1 xs) a j = gI m a j := fun a j z => by rw [sr_In (by omega)]; exact k3 a j z
    obtain ⟨res', m5, b1, b2, b3, b4⟩ := B (setRow m3 67 66 1 xs) zM (fun a j => f3.2.2 a j)
    rcases so_same hn H hx s3 b4 with ⟨t, i', q1, q2, q3, q4, q5, q6, q7, -, -⟩ | ⟨q1, -⟩
    · have hC := rtN_le (show n - 1 ≤ 5 by omega) k hk
      rw [i2, nI_eq (by omega) (by omega)] at q5
      subst q5
      refine ⟨res, setRow m3 67 66 1 xs, setRow m5 97 96 1 xs, ?_, ?_, ?_⟩
      · rw [cx_hasP fu _ m (by omega) h.2.1.2.1.1, hBd_some, if_pos c1, if_neg (by decide), cx_isHour, hBd_some, if_pos c2, if_neg (by decide), if_neg (nI_pos (by omega)), if_pos (show nI k ≤ 3 by rw [i_le]; exact c3.2), if_pos h8, cp, g23, a1, hBd_some, A, hBd_some, if_neg hne, T, hBd_some]
      · rw [hLet_n, rx_isPiece fu _ _ (by omega) (h16 _ zM), hBd_some, if_pos c1, if_neg (by decide), rx_isHour, hBd_some, if_pos c2, if_neg (by decide), rx_inI, hBd_some, if_pos (show ((0 : Int64).toInt ≤ (nI k).toInt ∧ (nI k).toInt ≤ (3 : Int64).toInt) from c3), if_pos (by decide), b1, hBd_some, if_pos (by rw [q4]; exact nI_pos' (by omega)), hLet_n, gI_sn (by omega), q6, sr_nil m5 97 96 1, rx_enters fu m5 (by simp), hBd_some, sr_In (by omega), sr_In (by omega), q6, q7, show ([] : List Int64) ++ [Int32.toInt64 (nI (rtW (n - 1) b i).length)] = tlR (rtW (n - 1) b i) 0 from rfl, rx_entersRoute (by omega) hn V (by omega), hBd_some, exs, q3, q4]
      · exact h3.q2T k3 f3.2.1 (by omega) (P := PT0) (fun a j z => by rw [b2.1 a j (fun y => z (Or.inl y)), gI_sn (fun y => z (Or.inr y))]) (fun a j z => PT0_ok z) (fun j => b2.2.1 _ _) (fun j => b2.2.1 _ _) (rf2_ok (rfM (setRow m3 67 66 1 xs) (fun a j => f3.2.2 a j)) b2 b3)
    · exact absurd q1 hne
  · -- none
    have hre : res = -2 := of_decide_eq_true s3'
    obtain ⟨res', m5, b1, b2, b3, b4⟩ := B m3 k3 f3.2.2
    rcases so_same hn H hx s3 b4 with ⟨t, i', q1, q2, q3, q4, -⟩ | ⟨q1, q2⟩
    · rw [q3] at hre
      exact absurd hre (nI_nm (by omega)).1
    · refine ⟨-2, m3, m5, ?_, ?_, ?_⟩
      · rw [cx_hasP fu _ m (by omega) h.2.1.2.1.1, hBd_some, if_pos c1, if_neg (by decide), cx_isHour, hBd_some, if_pos c2, if_neg (by decide), if_neg (nI_pos (by omega)), if_pos (show nI k ≤ 3 by rw [i_le]; exact c3.2), if_pos h8, cp, g23, a1, hBd_some, A, hBd_some, if_pos hre, hre]
      · rw [hLet_n, rx_isPiece fu _ _ (by omega) (h16 _ k3), hBd_some, if_pos c1, if_neg (by decide), rx_isHour, hBd_some, if_pos c2, if_neg (by decide), rx_inI, hBd_some, if_pos (show ((0 : Int64).toInt ≤ (nI k).toInt ∧ (nI k).toInt ≤ (3 : Int64).toInt) from c3), if_pos (by decide), b1, hBd_some, q2, if_neg (by decide)]
      · exact h3.q1T k3 f3.2.1 (P := PT0) (fun a j z => by rw [b2.1 a j (fun y => z (Or.inl y)), gI_sn (fun y => z (Or.inr y))]) (fun a j z => PT0_ok z) (fun j => b2.2.1 _ _) (fun j => b2.2.1 _ _) (rf2_ok (rfM _ f3.2.2) b2 b3)
