/-! ===== rule ===== -/
theorem cx_take5 (fu : Nat) {m : hM} {L : Nat} (hL : L ≤ 40) : f_X5_take fu (nI L) m = some ((), sI (cpI m 29 0 26 0 L) 25 1 (nI L)) := by
  unfold f_X5_take
  have e0 : Int32.toNatClampNeg 0 = 0 := by decide
  have eL : (nI L).toNatClampNeg = L := nI_clamp (by omega)
  rw [e0, eL, if_pos ⟨by decide, by decide, by decide, nI_pos (by omega), by omega, by omega⟩, hLet_n, hLet_n]
theorem rx_r104n (fu : Nat) {m : hM} {p : Nat} (h : gI m 96 30 = nI p) : f_X11_rule_104 fu 0 m = some (-1 - nI p, m) := by
  unfold f_X11_rule_104
  rw [if_neg (fun z => z rfl), h]
/-- a text refused, at its place -/
theorem rx_r80 (fu : Nat) {m : hM} {p t : Nat} (h : gI m 96 30 = nI p) (hp : p ≤ 40) (ht : t ≤ 60) (h40 : p = min t 40 ∨ p < min t 40) : f_X11_rule_80 fu (nI t) m = some (-1 - nI p, m) := by
  unfold f_X11_rule_80 f_X11_rule_81
  by_cases c : nI t ≤ nI 40
  · rw [if_pos (show nI t ≤ 40 from c), rx_r104n fu h]
  · rw [if_neg (show ¬ nI t ≤ 40 from c), if_neg (fun z => z rfl), h]
    rw [nI_leI (by omega) (by omega)] at c
    by_cases c2 : p < 40
    · rw [if_pos (show nI p < 40 from nI_lt (b := 40) c2 (by omega)), rx_r104n fu h]
    · rw [if_neg (show ¬ nI p < 40 from nI_nlt (b := 40) (by omega) (by omega)), show p = 40 by omega]; rfl
def PG (a j : Nat) : Prop := (a = 96 ∧ (j = 0 ∨ j = 29 ∨ j = 30 ∨ j = 31 ∨ j = 32)) ∨ a = 116 ∨ a = 117
theorem rx_ruleS (fu : Nat) (m : hM) {t : Nat} (ht : t ≤ 60) (h29 : gI m 96 29 = nI t) : ∃ m9 : hM, (gI m9 96 30 = 0 ∧ gI m9 96 31 = nI (min t 40) ∧ gI m9 96 32 = 0 ∧ gI m9 117 1 = 0 ∧ gI m9 96 29 = 0 ∧ fr (fun a j => (a = 96 ∧ (j = 0 ∨ j = 29 ∨ j = 30 ∨ j = 31 ∨ j = 32)) ∨ (a = 117 ∧ j = 1)) m m9) ∧ f_X11_rule fu m = (if ¬ nI t = 0 then (hBd (f_X11_ranked fu 170 0 m9) fun y11 m12 => if y11 = 0 then (f_X11_rule_80 fu (nI t) m12) else (if ¬ (gI m12 96 30) = (gI m12 96 31) then (f_X11_rule_80 fu (nI t) m12) else (f_X11_rule_81 fu (nI t) 1 m12))) else (some (0, sI m9 117 0 0))) := by
  unfold f_X11_rule
  simp only [hLet_n, e_min, hBd_some]
  have e1 : (if (40 : Int32) < nI t then (40 : Int32) else nI t) = nI (min t 40) := by
    by_cases c : 40 < t
    · rw [if_pos (show (40 : Int32) < nI t from nI_lt (a := 40) c (by omega)), Nat.min_eq_right (by omega)]; rfl
    · rw [if_neg (show ¬ (40 : Int32) < nI t from nI_nlt (a := 40) (by omega) (by omega)), Nat.min_eq_left (by omega)]
  rw [show gI (sI m 96 0 0) 96 29 = nI t by rw [gI_sn (by omega)]; exact h29, e1]
  refine ⟨sI (sI (sI (sI (sI (sI m 96 0 0) 96 29 0) 96 30 0) 96 32 0) 96 31 (nI (min t 40))) 117 1 0, ⟨?_, ?_, ?_, gI_ss _ _ _ _, ?_, ?_⟩, rfl⟩
  · simp (disch := omega) only [gI_sn, gI_ss]
  · simp (disch := omega) only [gI_sn, gI_ss]
  · simp (disch := omega) only [gI_sn, gI_ss]
  · simp (disch := omega) only [gI_sn, gI_ss]
  · exact (((((fr.rf.si (by omega)).si (by omega)).si (by omega)).si (by omega)).si (by omega)).si (by omega)
/-- what the reference does with a text -/
def rrO (sg : Nat → Nat) (t : Nat) (m : hM) (F : Option (Int32 × hM)) : Prop := ∃ p a' m', p ≤ min t 40 ∧ rA sg p 0 aZ = some a' ∧ fr PG m m' ∧ gI m' 96 29 = 0 ∧
  (((p < min t 40 → stp a' (sg p) = none) ∧ (p = min t 40 → 40 < t ∨ dueA a' = true ∨ 1 < dptA a') ∧ F = some (-1 - nI p, m') ∧ gI m' 117 0 = gI m 117 0 ∧ ∀ k, k < 48 → gI m' 116 k = gI m 116 k) ∨
   (p = min t 40 ∧ t ≤ 40 ∧ dueA a' = false ∧ dptA a' ≤ 1 ∧ F.isSome = true ∧ F = some (0, m') ∧ ∃ A, cdR A (clo 0 a'.2.2.2.1 a'.2.2.2.2).2 ∧ dp A = some 1 ∧ A.length ≤ 40 ∧ gI m' 117 0 = nI A.length ∧ ∀ k, k < A.length → gI m' 116 k = nI (A.getD (A.length - 1 - k) 0)))
theorem rx_ruleE {fu : Nat} (hfu : 100 ≤ fu) {sg : Nat → Nat} {t : Nat} (ht : t ≤ 60) (t0 : 0 < t) {m : hM} (h29 : gI m 96 29 = nI t) (hs : ∀ j, j < t → gI m 119 j = nI (sg j) ∧ sg j < 256) : rrO sg t m (f_X11_rule fu m) := by
  obtain ⟨m9, ⟨g1, g2, g3, g4, g5, g6⟩, g7⟩ := rx_ruleS fu m ht h29
  have tn : ¬ nI t = 0 := nI_ne (by omega) (by omega)
  have t40 : min t 40 ≤ 40 := Nat.min_le_right _ _
  have t41 : min t 40 ≤ t := Nat.min_le_left _ _
  rw [if_pos tn] at g7
  have st : st0 sg (min t 40) m9 0 0 [] [] [] := ⟨⟨g1, g2, g3, g4, fun i hi => absurd hi (Nat.not_lt_zero _), fun j hj => by rw [g6.1 119 j (by omega)]; exact hs j (by omega), by omega, t40, Nat.le_refl _⟩, trivial, rfl, by omega⟩
  obtain ⟨y, m12, r1, r2, r3⟩ := (rx_parse hfu (sg := sg) (to := min t 40) 170).2.2 m9 0 0 0 [] [] [] false [] (by omega) st (fun _ => rfl) trivial (by omega)
  have r1' : f_X11_ranked fu 170 0 m9 = some (y, m12) := r1
  rw [r1', hBd_some] at g7
  have f12 : fr PG m m12 := (g6.mono (fun a j z => by unfold PG; omega)).tr (r2.mono (fun a j z => by unfold PF at z; unfold PG; omega))
  have h29' : gI m12 96 29 = 0 := by rw [r2.1 96 29 (by unfold PF; omega)]; exact g5
  have h117 : gI m12 117 0 = gI m 117 0 := by rw [r2.1 117 0 (by unfold PF; omega), g6.1 117 0 (by omega)]
  have h116 : ∀ k, k < 48 → gI m12 116 k = gI m 116 k := fun k hk => by rw [r2.1 116 k (by unfold PF; omega), g6.1 116 k (by omega)]
  rcases r3 with ⟨rfl, p, A, c1, dg, K, Q, s1, s2, s3, s4, s5, s6, s7, s8, s9⟩ | ⟨rfl, p, a', s1, s2, s3, s4, s5⟩
  · rw [if_neg (by decide), s2.1, s2.2.1] at g7
    rw [Nat.sub_zero] at s3
    have hp : p ≤ min t 40 := s2.2.2.2.2.2.2.1
    by_cases c : p = min t 40
    · rw [if_neg (show ¬ ¬ nI p = nI (min t 40) from fun z => z (by rw [c]))] at g7
      unfold f_X11_rule_81 at g7
      by_cases c2 : nI t ≤ nI 40
      · rw [if_pos (show nI t ≤ 40 from c2)] at g7
        rw [nI_leI (by omega) (by omega)] at c2
        unfold f_X11_rule_104 at g7
        rw [if_pos (by decide), s2.2.2.2.1, hLet_n] at g7
        obtain ⟨m13, u1, u2, u3⟩ := rx_rule130 fu fu 0 (sI m12 117 0 (nI A.length)) (by omega) (by omega)
        have u1' : f_X11_rule_130 fu fu 0 (sI m12 117 0 (nI A.length)) = some (0, m13) := u1
        rw [u1'] at g7
        have fA : fr PG m (sI m12 117 0 (nI A.length)) := f12.si (Or.inr (Or.inr rfl))
        have hA : A.length ≤ p := s2.2.2.2.2.2.2.2.2
        refine ⟨p, _, m13, hp, s3, fA.tr (u3.mono (fun a j z => Or.inr (Or.inl z.1))), ?_, Or.inr ⟨c, c2, rfl, Nat.le_refl _, by rw [g7]; rfl, g7, A, ?_, s6 0 rfl, by omega, ?_, fun k hk => ?_⟩⟩
        · rw [u3.1 96 29 (by omega), gI_sn (by omega)]; exact h29'
        · rw [show (clo 0 (K ++ []) Q).2 = fls K Q by rw [clo_app K [] Q (fun o ho => ⟨(s4 o ho).1, Nat.zero_le _⟩) (fun o B z => by cases z)]]
          exact s5
        · rw [u3.1 117 0 (by omega), gI_ss]
        · rw [u2 k (Nat.zero_le _) (by omega), gI_sn (by omega)]; exact s2.2.2.2.2.1 k hk
      · rw [if_neg (show ¬ nI t ≤ 40 from c2), if_pos (by decide)] at g7
        rw [nI_leI (by omega) (by omega)] at c2
        refine ⟨p, _, m12, hp, s3, f12, h29', Or.inl ⟨fun z => by omega, fun _ => Or.inl (by omega), ?_, h117, h116⟩⟩
        rw [g7, show p = 40 by omega]; rfl
    · have ne : ¬ nI p = nI (min t 40) := fun z => c ((nI_eq (by omega) (by omega)).mp z)
      rw [if_pos ne, rx_r80 fu s2.1 (by omega) ht (by omega)] at g7
      exact ⟨p, _, m12, hp, s3, f12, h29', Or.inl ⟨fun z => nx_none s8 z (fun _ => rfl), fun z => absurd z c, g7, h117, h116⟩⟩
  · rw [if_pos rfl, rx_r80 fu s3 (by omega) ht (by omega)] at g7
    rw [Nat.sub_zero] at s4
    refine ⟨p, a', m12, s2, s4, f12, h29', Or.inl ⟨fun z => ?_, fun z => ?_, g7, h117, h116⟩⟩
    · rcases s5 with ⟨q1, q2⟩ | ⟨q1, q2⟩
      · omega
      · exact q2
    · rcases s5 with ⟨q1, q2⟩ | ⟨q1, q2⟩
      · exact Or.inr q2
      · omega
theorem rA_sz {sg : Nat → Nat} : ∀ {k p : Nat} {a a' : AS}, rA sg k p a = some a' → szA a' ≤ szA a + k
  | 0, p, a, a', h => by cases h; omega
  | k + 1, p, a, a', h => by
    rw [rA] at h
    cases hs : stp a (sg p) with
    | none => rw [hs] at h; cases h
    | some b =>
      rw [hs] at h
      have h1 := rA_sz (k := k) (p := p + 1) (a := b) (a' := a') h
      have h2 := stp_sz hs
      omega
theorem ok_rule {fu : Nat} (hfu : 4000 ≤ fu) {m : hM} (h : IV m) : okC (f_X10_rule fu) (f_X11_rule fu) m := by
  obtain ⟨n, c, k, t, h⟩ := h
  obtain ⟨x1, x2, x3, x4⟩ := h.2.2.2.2.2.2.2.2.2.1
  have hrl := h.2.2.2.1
  have f0 : fr RC m (sI m 0 13 0) := fr.rf.si (Or.inl ⟨rfl, rfl⟩)
  by_cases t0 : t = 0
  · subst t0
    have cl : f_X10_rule fu m = some (0, sI (sI m 0 13 0) 25 1 0) := by
      unfold f_X10_rule
      rw [hLet_n, hLet_n, x2, if_neg (fun z => z rfl), hLet_n]
    obtain ⟨m9, ⟨g1, g2, g3, g4, g5, g6⟩, g7⟩ := rx_ruleS fu (sI (sI m 0 13 0) 25 1 0) (t := 0) (by omega) (by rw [gI_sn (by omega), gI_sn (by omega)]; exact x3)
    rw [if_neg (fun z => z rfl)] at g7
    refine ⟨0, _, _, cl, g7, h.rl (((f0.si (Or.inr (Or.inl ⟨rfl, rfl⟩))).tr (g6.mono (fun a j z => by unfold RC; omega))).si (by unfold RC; omega)) (Or.inl ⟨gI_ss _ _ _ _, ?_⟩) ?_ ?_⟩
    · rw [gI_sn (by omega), g6.1 25 1 (by omega), gI_ss]
    · rw [gI_sn (by omega), g6.1 0 13 (by omega), gI_sn (by omega), gI_ss]
    · rw [gI_sn (by omega)]; exact g5
  · obtain ⟨sg, hsg⟩ : ∃ sg : Nat → Nat, ∀ j, j < t → gI m 119 j = nI (sg j) ∧ sg j < 256 := by
      refine ⟨fun j => (gI m 119 j).toNatClampNeg, fun j hj => ?_⟩
      obtain ⟨q, q1, q2⟩ := hIn_of (x4 j hj).2 (by omega)
      have e : (gI m 119 j).toNatClampNeg = q := by rw [q2, nI_clamp (by omega)]
      exact ⟨by show gI m 119 j = nI (gI m 119 j).toNatClampNeg; rw [e]; exact q2, by show (gI m 119 j).toNatClampNeg < 256; rw [e]; exact q1⟩
    have tn : ¬ nI t = 0 := nI_ne (by omega) t0
    have t40 : min t 40 ≤ 40 := Nat.min_le_right _ _
    obtain ⟨res, m5, a1, a2, a3⟩ := cx_read (show 200 ≤ fu by omega) (sg := sg) (cnt := t) x1 (fun j hj => (hsg j hj).2) (m := sI m 0 13 0) (fun j hj => by rw [gI_sn (by omega), (x4 j hj).1]; exact (hsg j hj).1)
    have f5 : fr RC m m5 := f0.tr (a2.mono (fun a j z => by unfold PA at z; unfold RC; omega))
    have e13 : gI m5 0 13 = 0 := by rw [a2.1 0 13 (by unfold PA; omega), gI_ss]
    have cl0 : f_X10_rule fu m = (if res = -1 then (hBd (f_X5_take fu (gI m5 28 1) m5) fun _ m7 => some (0, m7)) else some ((-1) - res, m5)) := by
      unfold f_X10_rule
      rw [hLet_n, hLet_n, x2, if_pos tn, a1, hBd_some]
    have e29 : gI m5 96 29 = nI t := by rw [a2.1 96 29 (by unfold PA; omega), gI_sn (by omega)]; exact x3
    have nn : ∀ q, q ≤ 40 → ¬ nI q = -1 := fun q hq => (nI_nm (by omega)).2.1
    by_cases r1 : res = -1
    · have a4 := a3
      rcases a4 with ⟨kk, b, b1, b2, b3, b4⟩ | ⟨b, b1, ⟨b2, b3⟩ | ⟨b2, b3, b4, b5, b6, b7⟩⟩
      · exact absurd (b4.symm.trans r1) (nn _ (by omega))
      · exact absurd (b3.symm.trans r1) (nn _ t40)
      rw [Nat.sub_zero] at b1
      have hL : (clo 0 b.2.2.2.1 b.2.2.2.2).2.length ≤ 40 := by
        have z1 := rA_sz b1
        have z2 := (clo_len 0 b.2.2.2.1 b.2.2.2.2).1
        have z3 : szA b = b.2.2.2.1.length + b.2.2.2.2.length := rfl
        have z4 : szA aZ = 0 := rfl
        omega
      generalize hB : (clo 0 b.2.2.2.1 b.2.2.2.2).2 = B at *
      rw [if_pos r1, b6, cx_take5 fu hL, hBd_some] at cl0
      have f7 : fr RC m (sI (cpI m5 29 0 26 0 B.length) 25 1 (nI B.length)) := (fr_cp f5 (fun y _ => Or.inr (Or.inr (Or.inl rfl)))).si (Or.inr (Or.inl ⟨rfl, rfl⟩))
      have k7 : ∀ a j, ¬ a = 25 → ¬ a = 26 → gI (sI (cpI m5 29 0 26 0 B.length) 25 1 (nI B.length)) a j = gI m5 a j := fun a j z1 z2 => by rw [gI_sn (by omega), cp_out (by omega)]
      obtain ⟨p, a', m', hp, hr, hf, h29, ho⟩ := rx_ruleE (show 100 ≤ fu by omega) (sg := sg) x1 (show 0 < t by omega) (m := sI (cpI m5 29 0 26 0 B.length) 25 1 (nI B.length)) (by rw [k7 _ _ (by omega) (by omega)]; exact e29) (fun j hj => by rw [k7 _ _ (by omega) (by omega), f5.1 119 j (by unfold RC; omega)]; exact hsg j hj)
      have fe : fr RC m m' := f7.tr (hf.mono (fun a j z => by unfold PG at z; unfold RC; omega))
      have e13' : gI m' 0 13 = 0 := by rw [hf.1 0 13 (by unfold PG; omega), k7 _ _ (by omega) (by omega)]; exact e13
      rcases ho with ⟨o1, o2, o3, o4, o5⟩ | ⟨o1, o2, o3, o4, -, o5, A, o6, o7, o8, o9, o10⟩
      · exfalso
        rcases rd_at a3 hp hr o1 with ⟨i1, i2⟩ | ⟨i1, ⟨i2, i3⟩ | ⟨i2, i3, i4, i5⟩⟩
        · exact nn p (by omega) (i2.symm.trans r1)
        · exact nn _ t40 (i3.symm.trans r1)
        · rcases o2 i1 with q | q | q
          · omega
          · rw [i3] at q; cases q
          · omega
      · rw [← o1, hr] at b1
        cases b1
        rw [hB] at o6
        obtain ⟨le, -⟩ := cdR_get A B o6
        refine ⟨0, _, m', cl0, o5, h.rl fe (rl_new o6 o7 o8 o10 o9 ?_ (fun kk hk => ?_)) e13' h29⟩
        · rw [hf.1 25 1 (by unfold PG; omega), gI_ss, le]
        · rw [hf.1 26 kk (by unfold PG; omega), gI_sn (by omega), cp_in hk]; exact b7 kk hk
    · rw [if_neg r1] at cl0
      obtain ⟨p, a', m', hp, hr, hf, h29, ho⟩ := rx_ruleE (show 100 ≤ fu by omega) (sg := sg) x1 (show 0 < t by omega) (m := m5) e29 (fun j hj => by rw [f5.1 119 j (by unfold RC; omega)]; exact hsg j hj)
      have fe : fr RC m m' := f5.tr (hf.mono (fun a j z => by unfold PG at z; unfold RC; omega))
      have e13' : gI m' 0 13 = 0 := by rw [hf.1 0 13 (by unfold PG; omega)]; exact e13
      have keep : ∀ a j, a = 25 ∨ a = 26 ∨ a = 116 ∨ a = 117 → gI m5 a j = gI m a j := fun a j z => by rw [a2.1 a j (by unfold PA; omega), gI_sn (by omega)]
      rcases ho with ⟨o1, o2, o3, o4, o5⟩ | ⟨o1, o2, o3, o4, -, o5, A, o6, o7, o8, o9, o10⟩
      · have er : res = nI p := by
          rcases rd_at a3 hp hr o1 with ⟨i1, i2⟩ | ⟨i1, ⟨i2, i3⟩ | ⟨i2, i3, i4, i5, i6⟩⟩
          · exact i2
          · rw [i1]; exact i3
          · exact absurd i5 r1
        rw [er] at cl0
        refine ⟨_, _, m', cl0, o3, h.rl fe (rlR_lo hrl (fun kk hk => ?_) ?_ ?_ (fun j => ?_)) e13' h29⟩
        · rw [o5 kk hk, keep _ _ (by omega)]
        · rw [o4, keep _ _ (by omega)]
        · rw [hf.1 25 1 (by unfold PG; omega), keep _ _ (by omega)]
        · rw [hf.1 26 j (by unfold PG; omega), keep _ _ (by omega)]
      · exfalso
        rcases rd_at a3 hp hr (fun z => by omega) with ⟨i1, i2⟩ | ⟨i1, ⟨i2, i3⟩ | ⟨i2, i3, i4, i5, i6⟩⟩
        · omega
        · rcases i2 with q | q | q
          · omega
          · rw [o3] at q; cases q
          · omega
        · exact r1 i5
