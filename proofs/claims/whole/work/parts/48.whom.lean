/-! ===== whom and worth ===== -/
theorem prR_v {v v' m m' : hM} {n k : Nat} (h : prR v m n k) (g : ∀ a j, a = 96 ∨ (128 ≤ a ∧ a ≤ 130) → gI v' a j = gI v a j) (f : ∀ a j, 41 ≤ a → a ≤ 44 → gI m' a j = gI m a j) : prR v' m' n k :=
  prR_cg h (Nat.le_refl n) (f _ _ (by omega) (by omega)) (g _ _ (by omega)) (fun a j z1 z2 => f a j (by omega) (by omega)) (fun a j z1 z2 => g a j (by omega))
theorem cx_bring {fu : Nat} (hfu : 100 ≤ fu) {v : hM} {n c k : Nat} {S : Nat → Int32} {B : Int32} {m0 : hM} (hpr : prR v m0 n k) : ∀ (t i : Nat) (m : hM), i ≤ k → k - i < t → CW (pB v B i) m n c S → prR v m n k → (∀ i', i' < i → gI m 45 i' = gI v 107 (6 * pa v i' + pb v i')) → vRel v n →
    ∃ m', f_X3_bringTogether_2 fu t B (nI i) m = some ((), m') ∧ CW (pB v B k) m' n c S ∧ (∀ i', i' < k → gI m' 45 i' = gI v 107 (6 * pa v i' + pb v i')) ∧ fr (fun a _ => a = 45 ∨ a = 3) m m' := by
  intro t
  induction t with
  | zero => intro i m h1 h2; omega
  | succ t ih =>
    intro i m hi ht h hp hw hv
    have hn := hv.1
    have hk9 := hp.1
    rw [f_X3_bringTogether_2_s]
    unfold s_X3_bringTogether_2
    rw [hp.2.1]
    by_cases q : nI k ≤ nI i
    · rw [if_pos q]
      rw [nI_leI (by omega) (by omega)] at q
      have : i = k := by omega
      subst this
      exact ⟨m, rfl, h, hw, fr.rf⟩
    · rw [if_neg q]
      rw [nI_leI (by omega) (by omega)] at q
      have hik : i < k := by omega
      obtain ⟨a1, a2, a3, a4, a5⟩ := pr_num hn hp hik
      obtain ⟨d1, d2, _⟩ := hp.2.2.2.1 i hik
      have kx := kn_ix (show pa v i < 6 by omega) (show pb v i < 6 by omega)
      have h9 : hIn (nI i) 9 := hIn_lt (by omega) (by omega)
      have ci : (nI i).toNatClampNeg = i := nI_clamp (by omega)
      have e42 : gI m 42 i = nI (pa v i) := by rw [d1, a1]
      have e43 : gI m 43 i = nI (pb v i) := by rw [d2, a2]
      have e3 : gI m 3 (6 * pa v i + pb v i) = gI v 107 (6 * pa v i + pb v i) := by
        rw [h.1.2.1.2.2.2.2.2.1 (pa v i) (pb v i) a3 a4]
        exact pB_o i (fun i' hi' => pr_dis hn hp hi' hik)
      rw [if_pos h9, if_pos h9, ci, e42, e43, kx.1, if_pos kx.2.2.1, if_pos h9, hLet_n, kx.2.2.2, e3, b_rd (show i < 32 by omega)]
      have f45 : fr (fun a _ => a = 45 ∨ a = 3) m (sI m 45 i (gI v 107 (6 * pa v i + pb v i))) := fr.rf.si (Or.inl rfl)
      have w45 : CW (pB v B i) (sI m 45 i (gI v 107 (6 * pa v i + pb v i))) n c S := h.earth (Nat.le_refl n) (erR_cg ⟨h.1.1, h.1.2.1⟩ (fun _ _ _ => rfl) (fun a j z1 z2 => gI_sn (by omega))) (fun _ _ _ _ => rfl) (fun a j z1 z2 => gI_sn (by omega))
      have p45 : prR v (sI m 45 i (gI v 107 (6 * pa v i + pb v i))) n k := prR_v hp (fun _ _ _ => rfl) (fun a j z1 z2 => gI_sn (by omega))
      have k45 : ∀ i', i' < i + 1 → gI (sI m 45 i (gI v 107 (6 * pa v i + pb v i))) 45 i' = gI v 107 (6 * pa v i' + pb v i') := fun i' hi' => by
        by_cases e : i' = i
        · rw [e, gI_ss]
        · rw [gI_sn (by omega)]; exact hw i' (by omega)
      unfold f_X3_bringTogether_75
      simp only [hLet_n, nI_1]
      cases hb : bt B i
      · rw [if_pos (by decide)]
        obtain ⟨m5, s1, s2, s3, s4⟩ := ih (i + 1) _ (by omega) (by omega) (by rw [pB, if_neg (by rw [hb]; decide)]; exact w45) p45 k45 hv
        exact ⟨m5, s1, s2, s3, f45.tr s4⟩
      · rw [if_neg (fun z => z (by decide)), if_pos h9, if_pos h9, if_pos h9, e_min, hBd_some, gI_ss, gI_sn (by omega), gI_sn (by omega), e42, e43, cx_putKnown fu (show pa v i < 6 by omega) (show pb v i < 6 by omega), hBd_some]
        have em : (if (9 : Int32) < gI v 107 (6 * pa v i + pb v i) + 3 then 9 else gI v 107 (6 * pa v i + pb v i) + 3) = m9 (gI v 107 (6 * pa v i + pb v i) + 3) := rfl
        rw [em]
        have hx := hv.2.2.2.1 (pa v i) (pb v i) a3 a4
        have rg := m9_rng ⟨hx.1, hx.2.1⟩
        have hpB : pB v B (i + 1) = kn (pB v B i) 107 (pa v i) (pb v i) (m9 (gI v 107 (6 * pa v i + pb v i) + 3)) := by rw [pB, if_pos hb]
        have fk : ∀ a j, a ≠ 3 → gI (kn (sI m 45 i (gI v 107 (6 * pa v i + pb v i))) 3 (pa v i) (pb v i) (m9 (gI v 107 (6 * pa v i + pb v i) + 3))) a j = gI (sI m 45 i (gI v 107 (6 * pa v i + pb v i))) a j := fun a j z => by rw [kn_g, if_neg (fun y => z y.1), if_neg (fun y => z y.1)]
        have wk : CW (pB v B (i + 1)) (kn (sI m 45 i (gI v 107 (6 * pa v i + pb v i))) 3 (pa v i) (pb v i) (m9 (gI v 107 (6 * pa v i + pb v i) + 3))) n c S := by
          rw [hpB]
          refine w45.earth (Nat.le_refl n) ⟨vRel_kn w45.1.1 a3 a4 a5 rg, e_know hn w45.1.2.1 a3 a4 _⟩ (fun a j z1 z2 => ?_) (fun a j z1 z2 => fk a j (by omega))
          rw [kn_g, if_neg (by unfold erV at z2; omega), if_neg (by unfold erV at z2; omega)]
        obtain ⟨m5, s1, s2, s3, s4⟩ := ih (i + 1) _ (by omega) (by omega) wk (prR_v p45 (fun _ _ _ => rfl) (fun a j z1 z2 => fk a j (by omega))) (fun i' hi' => by rw [fk _ _ (by omega)]; exact k45 i' hi') hv
        exact ⟨m5, s1, s2, s3, ((f45.si (Or.inr rfl)).si (Or.inr rfl)).tr s4⟩
theorem cx_take {fu : Nat} (hfu : 100 ≤ fu) {v w : hM} {n c k : Nat} {S : Nat → Int32} {B : Int32} : ∀ (t i : Nat) (m : hM), i ≤ k → k - i < t → CW (tB v w B i) m n c S → prR v m n k → (∀ i', i' < k → gI m 45 i' = gI v 107 (6 * pa v i' + pb v i')) → vRel v n →
    ∃ m', f_X3_takeBack_2 fu t B (nI i) m = some ((), m') ∧ CW (tB v w B k) m' n c S ∧ fr (fun a _ => a = 3) m m' := by
  intro t
  induction t with
  | zero => intro i m h1 h2; omega
  | succ t ih =>
    intro i m hi ht h hp hw hv
    have hn := hv.1
    have hk9 := hp.1
    rw [f_X3_takeBack_2_s]
    unfold s_X3_takeBack_2
    rw [hp.2.1]
    by_cases q : nI k ≤ nI i
    · rw [if_pos q]
      rw [nI_leI (by omega) (by omega)] at q
      have : i = k := by omega
      subst this
      exact ⟨m, rfl, h, fr.rf⟩
    · rw [if_neg q]
      rw [nI_leI (by omega) (by omega)] at q
      have hik : i < k := by omega
      obtain ⟨a1, a2, a3, a4, a5⟩ := pr_num hn hp hik
      obtain ⟨d1, d2, _⟩ := hp.2.2.2.1 i hik
      have h9 : hIn (nI i) 9 := hIn_lt (by omega) (by omega)
      have ci : (nI i).toNatClampNeg = i := nI_clamp (by omega)
      have e42 : gI m 42 i = nI (pa v i) := by rw [d1, a1]
      have e43 : gI m 43 i = nI (pb v i) := by rw [d2, a2]
      unfold f_X3_takeBack_41
      simp only [hLet_n, nI_1]
      rw [b_rd (show i < 32 by omega), if_pos h9, if_pos h9, if_pos h9, ci, e42, e43, hw i hik, cx_putKnown fu (show pa v i < 6 by omega) (show pb v i < 6 by omega), hBd_some]
      cases hb : bt B i
      · rw [if_pos (by decide)]
        exact ih (i + 1) m (by omega) (by omega) (by rw [tB, if_neg (by rw [hb]; decide)]; exact h) hp hw hv
      · rw [if_neg (fun z => z (by decide))]
        have hx := hv.2.2.2.1 (pa v i) (pb v i) a3 a4
        have fk : ∀ a j, a ≠ 3 → gI (kn m 3 (pa v i) (pb v i) (gI v 107 (6 * pa v i + pb v i))) a j = gI m a j := fun a j z => by rw [kn_g, if_neg (fun y => z y.1), if_neg (fun y => z y.1)]
        have wk : CW (tB v w B (i + 1)) (kn m 3 (pa v i) (pb v i) (gI v 107 (6 * pa v i + pb v i))) n c S := by
          rw [tB, if_pos hb]
          refine h.earth (Nat.le_refl n) ⟨vRel_kn h.1.1 a3 a4 a5 ⟨hx.1, hx.2.1⟩, e_know hn h.1.2.1 a3 a4 _⟩ (fun a j z1 z2 => ?_) (fun a j z1 z2 => fk a j (by omega))
          rw [kn_g, if_neg (by unfold erV at z2; omega), if_neg (by unfold erV at z2; omega)]
        obtain ⟨m5, s1, s2, s4⟩ := ih (i + 1) _ (by omega) (by omega) wk (prR_v hp (fun _ _ _ => rfl) (fun a j z1 z2 => fk a j (by omega))) (fun i' hi' => by rw [fk _ _ (by omega)]; exact hw i' hi') hv
        exact ⟨m5, s1, s2, ((fr.si (P := fun a _ => a = 3) fr.rf rfl).si (P := fun a _ => a = 3) rfl).tr s4⟩
theorem cx_with {fu : Nat} (hfu : 3000 ≤ fu) {v m : hM} {n c k x : Nat} {S : Nat → Int32} (h : CW v m n c S) (hpr : prR v m n k) (hx : x < 2400) (B L : Int32) :
    ∃ m1 m2 m3 m4, f_X3_bringTogether fu B m = some ((), m1) ∧ f_X10_begunAt fu (nI x) m1 = some (55, m2) ∧ f_X8_runToEnd fu 55 L m2 = some (cEnd (pB v B k) n c x (begR (pB v B k) (nI x) c S) L, m3) ∧ f_X3_takeBack fu B m3 = some ((), m4) ∧ CW v m4 n c S ∧ prR v m4 n k ∧ fr PE m m4 := by
  have hv := h.1.1
  have hk9 := hpr.1
  obtain ⟨m1, a1, a2, a3, a4⟩ := cx_bring (show 100 ≤ fu by omega) hpr (B := B) (c := c) (S := S) fu 0 m (by omega) (by omega) h hpr (fun i' hi' => by omega) hv
  obtain ⟨m2, m3, b1, b2, b3, b4⟩ := a2.beg hfu hx L S
  have g3 : ∀ a j, 41 ≤ a → a ≤ 45 → gI m3 a j = gI m1 a j := fun a j z1 z2 => b4.1 a j (by unfold PC; omega)
  have p3 : prR v m3 n k := prR_v hpr (fun _ _ _ => rfl) (fun a j z1 z2 => by rw [g3 a j (by omega) (by omega), a4.1 a j (by omega)])
  obtain ⟨m4, d1, d2, d3⟩ := cx_take (show 100 ≤ fu by omega) (w := pB v B k) (B := B) fu 0 m3 (by omega) (by omega) b3 p3 (fun i' hi' => by rw [g3 45 i' (by omega) (by omega)]; exact a3 i' hi') hv
  have bk := tB_eq (B := B) hv hpr
  have w4 : CW v m4 n c S := d2.earth (Nat.le_refl n) ⟨hv, eRel_v d2.1.2.1 bk⟩ (fun a j z1 z2 => (bk a j z1)) (fun _ _ _ _ => rfl)
  refine ⟨m1, m2, m3, m4, a1, b1, b2, d1, w4, prR_v p3 (fun _ _ _ => rfl) (fun a j z1 z2 => d3.1 a j (by omega)), ?_⟩
  exact (a4.mono (fun a j z => by unfold PE PC; omega)).tr ((fr.PEw b4).tr (d3.mono (fun a j z => by unfold PE PC; omega)))
/-! the reference's -/
theorem rx_with31 {fu : Nat} (hfu : 100 ≤ fu) {v m0 : hM} {n k : Nat} {B x2 : Int32} (hv : vRel v n) (hpr : prR v m0 n k) : ∀ (t i : Nat) (m : hM), i ≤ k → k - i < t → (∀ a j, a = 96 ∨ (128 ≤ a ∧ a ≤ 130) → gI m a j = gI v a j ∨ (a = 96 ∧ j ≠ 50)) → (∀ j, gI m 107 j = gI (pB v B i) 107 j) →
    ∃ m', f_X11_endsWith_31 fu t B x2 (nI i) m = f_X11_endsWith_97 fu x2 m' ∧ (∀ j, gI m' 107 j = gI (pB v B k) 107 j) ∧ fr (fun a _ => a = 107) m m' := by
  have hn := hv.1
  have hk9 := hpr.1
  intro t
  induction t with
  | zero => intro i m h1 h2; omega
  | succ t ih =>
    intro i m hi ht g h7
    have g50 : gI m 96 50 = nI k := by
      rcases g 96 50 (by omega) with z | z
      · rw [z]; exact hpr.2.2.1
      · omega
    have g8 : ∀ a j, 128 ≤ a → a ≤ 130 → gI m a j = gI v a j := fun a j z1 z2 => by
      rcases g a j (by omega) with z | z
      · exact z
      · omega
    rw [f_X11_endsWith_31_s]
    unfold s_X11_endsWith_31
    rw [g50]
    by_cases q : nI k ≤ nI i
    · rw [if_pos q]
      rw [nI_leI (by omega) (by omega)] at q
      have : i = k := by omega
      subst this
      exact ⟨m, rfl, h7, fr.rf⟩
    · rw [if_neg q]
      rw [nI_leI (by omega) (by omega)] at q
      have hik : i < k := by omega
      obtain ⟨a1, a2, a3, a4, a5⟩ := pr_num hn hpr hik
      have kx := kn_ix (show pa v i < 6 by omega) (show pb v i < 6 by omega)
      have h9 : hIn (nI i) 9 := hIn_lt (by omega) (by omega)
      have ci : (nI i).toNatClampNeg = i := nI_clamp (by omega)
      have e7 : gI m 107 (6 * pa v i + pb v i) = gI v 107 (6 * pa v i + pb v i) := by
        rw [h7]; exact pB_o i (fun i' hi' => pr_dis hn hpr hi' hik)
      unfold f_X11_endsWith_91
      simp only [hLet_n, nI_1]
      rw [bd_has fu _ (show i < 32 by omega)]
      cases hb : bt B i
      · rw [if_pos (by decide)]
        exact ih (i + 1) m (by omega) (by omega) g (by rw [pB, if_neg (by rw [hb]; decide)]; exact h7)
      · rw [if_neg (by decide), if_pos h9, if_pos h9, if_pos h9, if_pos h9, ci, g8 128 i (by omega) (by omega), g8 129 i (by omega) (by omega), a1, a2, kx.2.1, if_pos kx.2.2.1, kx.2.2.2, e7, e_min, hBd_some, rx_knows fu (show pa v i < 6 by omega) (show pb v i < 6 by omega), hBd_some]
        have em : (if gI v 107 (6 * pa v i + pb v i) + 3 < 9 then gI v 107 (6 * pa v i + pb v i) + 3 else 9) = m9 (gI v 107 (6 * pa v i + pb v i) + 3) := by
          unfold m9
          by_cases y : gI v 107 (6 * pa v i + pb v i) + 3 < 9
          · rw [if_pos y, if_neg (by rw [i_lt] at y ⊢; omega)]
          · rw [if_neg y]
            by_cases y2 : 9 < gI v 107 (6 * pa v i + pb v i) + 3
            · rw [if_pos y2]
            · rw [if_neg y2, i_eq]
              rw [i_lt] at y y2; omega
        rw [em]
        have fk : ∀ a j, a ≠ 107 → gI (kn m 107 (pa v i) (pb v i) (m9 (gI v 107 (6 * pa v i + pb v i) + 3))) a j = gI m a j := fun a j z => by rw [kn_g, if_neg (fun y => z y.1), if_neg (fun y => z y.1)]
        obtain ⟨m5, s1, s2, s3⟩ := ih (i + 1) _ (by omega) (by omega) (fun a j z => by rw [fk a j (by omega)]; exact g a j z) (fun j => by rw [pB, if_pos hb, kn_g, kn_g, h7 j])
        exact ⟨m5, s1, s2, ((fr.si (P := fun a _ => a = 107) fr.rf rfl).si (P := fun a _ => a = 107) rfl).tr s3⟩
theorem rx_with106 {fu : Nat} (y : Int32) : ∀ (t i : Nat) (m : hM), i ≤ 36 → 36 - i < t → ∃ m', f_X11_endsWith_106 fu t y (nI i) m = some (y, m') ∧ (∀ j, i ≤ j → j < 36 → gI m' 107 j = gI m 131 j) ∧ fr (fun a j => a = 107 ∧ i ≤ j ∧ j < 36) m m' := by
  intro t
  induction t with
  | zero => intro i m h1 h2; omega
  | succ t ih =>
    intro i m hi ht
    rw [f_X11_endsWith_106_s]
    unfold s_X11_endsWith_106
    by_cases q : nI 36 ≤ nI i
    · rw [if_pos (show (36 : Int32) ≤ nI i from q)]
      rw [nI_leI (by omega) (by omega)] at q
      exact ⟨m, rfl, fun j h1 h2 => by omega, fr.rf⟩
    · rw [if_neg (show ¬ (36 : Int32) ≤ nI i from q)]
      rw [nI_leI (by omega) (by omega)] at q
      have h6 : hIn (nI i) 36 := hIn_lt (by omega) (by omega)
      rw [if_pos h6, if_pos h6, hLet_n, hLet_n, nI_1, nI_clamp (show i < 2 ^ 31 by omega)]
      obtain ⟨m', r1, r2, r3⟩ := ih (i + 1) (sI m 107 i (gI m 131 i)) (by omega) (by omega)
      refine ⟨m', r1, fun j h1 h2 => ?_, (fr.rf.si ⟨rfl, by omega, by omega⟩).tr (r3.mono (fun a j z => ⟨z.1, by omega, z.2.2⟩))⟩
      by_cases e : j = i
      · rw [e, r3.1 _ _ (by omega), gI_ss]
      · rw [r2 j (by omega) h2, gI_sn (by omega)]
theorem rx_with2 {fu : Nat} {B x2 : Int32} : ∀ (t i : Nat) (m : hM), i ≤ 36 → 36 - i < t → ∃ m', f_X11_endsWith_2 fu t B x2 (nI i) m = f_X11_endsWith_29 fu B x2 m' ∧ (∀ j, i ≤ j → j < 36 → gI m' 131 j = gI m 107 j) ∧ fr (fun a j => a = 131 ∧ i ≤ j ∧ j < 36) m m' := by
  intro t
  induction t with
  | zero => intro i m h1 h2; omega
  | succ t ih =>
    intro i m hi ht
    rw [f_X11_endsWith_2_s]
    unfold s_X11_endsWith_2
    by_cases q : nI 36 ≤ nI i
    · rw [if_pos (show (36 : Int32) ≤ nI i from q)]
      rw [nI_leI (by omega) (by omega)] at q
      exact ⟨m, rfl, fun j h1 h2 => by omega, fr.rf⟩
    · rw [if_neg (show ¬ (36 : Int32) ≤ nI i from q)]
      rw [nI_leI (by omega) (by omega)] at q
      have h6 : hIn (nI i) 36 := hIn_lt (by omega) (by omega)
      rw [if_pos h6, if_pos h6, hLet_n, hLet_n, nI_1, nI_clamp (show i < 2 ^ 31 by omega)]
      obtain ⟨m', r1, r2, r3⟩ := ih (i + 1) (sI m 131 i (gI m 107 i)) (by omega) (by omega)
      refine ⟨m', r1, fun j h1 h2 => ?_, (fr.rf.si ⟨rfl, by omega, by omega⟩).tr (r3.mono (fun a j z => ⟨z.1, by omega, z.2.2⟩))⟩
      by_cases e : j = i
      · rw [e, r3.1 _ _ (by omega), gI_ss]
      · rw [r2 j (by omega) h2, gI_sn (by omega)]
/-- the pairs as the reference's memory holds them -/
def prM (v m : hM) : Prop := gI m 96 50 = gI v 96 50 ∧ ∀ a j, 128 ≤ a → a ≤ 130 → gI m a j = gI v a j
theorem prM.k {v m m1 : hM} {P : Nat → Nat → Prop} (h : prM v m) (f : fr P m m1) (hP : ∀ a j, P a j → ¬ rI a j) : prM v m1 := ⟨(f.1 _ _ (fun z => hP _ _ z (by unfold rI; omega))).trans h.1, fun a j z1 z2 => (f.1 _ _ (fun z => hP _ _ z (by unfold rI; omega))).trans (h.2 a j z1 z2)⟩
theorem rx_endsWith {fu : Nat} (hfu : 3000 ≤ fu) {v m m0 : hM} {n c k x : Nat} {S : Nat → Int32} (h : RW v m n c S) (hpr : prR v m0 n k) (hpm : prM v m) (hx : x < 2400) (B : Int32) :
    ∃ m', f_X11_endsWith fu B (nI x) m = some (eEnd (pB v B k) n c x (begR (pB v B k) (nI x) c S), m') ∧ RW v m' n c S ∧ fr P0S m m' := by
  have hv := h.1
  have hn := hv.1
  have hk9 := hpr.1
  obtain ⟨m1, a1, a2, a3⟩ := rx_with2 (fu := fu) (B := B) (x2 := nI x) fu 0 m (by omega) (by omega)
  have g1 : ∀ a j, a ≠ 131 → gI m1 a j = gI m a j := fun a j z => a3.1 a j (by omega)
  obtain ⟨m2, b1, b2, b3⟩ := rx_with31 (show 100 ≤ fu by omega) (x2 := nI x) (B := B) hv hpr fu 0 m1 (by omega) (by omega) (fun a j z => by
    rcases z with z | z
    · by_cases e : j = 50
      · left; rw [z, e, g1 _ _ (by omega)]; exact hpm.1
      · exact Or.inr ⟨z, e⟩
    · left; rw [g1 _ _ (by omega)]; exact hpm.2 a j z.1 z.2) (fun j => by rw [g1 _ _ (by omega)]; exact h.2.2.2.2.1 _ _ (by unfold envC; omega))
  have g2 : ∀ a j, a ≠ 131 → a ≠ 107 → gI m2 a j = gI m a j := fun a j z1 z2 => by rw [b3.1 a j z2, g1 a j z1]
  have w2 : RW (pB v B k) m2 n c S := h.earth (Nat.le_refl n) (vRel_pB hv hpr k (Nat.le_refl k)) (fun a j z1 z2 => pB_k (by unfold erV at z2; omega) k) (fun a j z => by
    by_cases e : a = 107
    · subst e; exact b2 j
    · rw [g2 a j (by unfold envC at z; omega) e, pB_k e]; exact h.2.2.2.2.1 a j z) (fun j hj => by rw [g2 _ _ (by omega) (by omega)]; exact h.2.2.2.2.2 j hj)
  obtain ⟨m3, d1, d2, d3⟩ := w2.beg hfu hx
  obtain ⟨m4, e1, e2, e3⟩ := rx_with106 (fu := fu) (eEnd (pB v B k) n c x (begR (pB v B k) (nI x) c S)) fu 0 m3 (by omega) (by omega)
  have f4 : fr P0S m m4 := by
    refine ⟨fun a j z => ?_, fun a j => ?_, fun a j => ?_⟩
    · by_cases e : a = 107
      · subst e
        by_cases hj : j < 36
        · rw [e2 j (by omega) hj, d3.1 _ _ (by unfold PS; omega), b3.1 _ _ (by omega), a2 j (by omega) hj]
        · rw [e3.1 _ _ (by omega), d3.1 _ _ (by unfold PS; omega), b2 j, pB_o k (fun i' hi' => ?_)]
          · exact (h.2.2.2.2.1 _ _ (by unfold envC; omega)).symm
          · obtain ⟨_, _, p3, p4, _⟩ := pr_num hn hpr hi'
            omega
      · rw [e3.1 _ _ (by omega), d3.1 _ _ (fun y => z (Or.inl y)), g2 a j (by unfold P0S at z; omega) e]
    · rw [e3.2.1, d3.2.1, b3.2.1, a3.2.1]
    · rw [e3.2.2, d3.2.2, b3.2.2, a3.2.2]
  refine ⟨m4, ?_, h.keep (fun a j z => f4.1 a j (fun y => ?_)), f4⟩
  · unfold f_X11_endsWith
    have a1' : f_X11_endsWith_2 fu fu B (nI x) 0 m = _ := a1
    rw [a1']
    unfold f_X11_endsWith_29
    have b1' : f_X11_endsWith_31 fu fu B (nI x) 0 m1 = _ := b1
    rw [b1']
    unfold f_X11_endsWith_97
    rw [d1, hBd_some]
    exact e1
  · have := (P0S_ok y).2
    rcases z with z | z
    · exact this (by unfold envC at z; unfold rI; omega)
    · exact this (by unfold rI; omega)
