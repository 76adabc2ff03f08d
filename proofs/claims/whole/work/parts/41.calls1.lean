/-! ===== calls that change the earth ===== -/
theorem vRel_clock {v : hM} {n o : Nat} {h b : Int32} (hv : vRel v n) (hh : hIn h 2400) (hb : -1 ≤ b.toInt ∧ b.toInt ≤ 1) : vRel (vClock v o h b) n := by
  unfold vClock
  refine ⟨hv.1, by simp (disch := omega) only [gI_sn]; exact hv.2.1, fun o' ho' => ?_, fun a b ha hb => by simp (disch := omega) only [gI_sn]; exact hv.2.2.2.1 a b ha hb, fun a ha => by simp (disch := omega) only [gI_sn]; exact hv.2.2.2.2.1 a ha, by simp (disch := omega) only [gI_sn]; exact hv.2.2.2.2.2.1, by simp (disch := omega) only [gI_sn]; exact hv.2.2.2.2.2.2⟩
  obtain ⟨a1, a2, a3, a4, a5, a6, a7, a8, a9⟩ := hv.2.2.1 o' ho'
  unfold oRng
  by_cases e : o' = o
  · subst e
    simp (disch := omega) only [gI_sn, gI_ss]
    exact ⟨a1, a2, a3, a4, a5, a6, ⟨hh.1, by have := hh.2; omega⟩, hb, a9⟩
  · simp (disch := omega) only [gI_sn]
    exact ⟨a1, a2, a3, a4, a5, a6, a7, a8, a9⟩
theorem vRel_feast {v : hM} {n j : Nat} {x : Int32} (hv : vRel v n) (hx : x = 0 ∨ x = 1) : vRel (sI v 106 j x) n := by
  refine ⟨hv.1, by simp (disch := omega) only [gI_sn]; exact hv.2.1, fun o' ho' => ?_, fun a b ha hb => by simp (disch := omega) only [gI_sn]; exact hv.2.2.2.1 a b ha hb, fun a ha => by simp (disch := omega) only [gI_sn]; exact hv.2.2.2.2.1 a ha, by simp (disch := omega) only [gI_sn]; exact hv.2.2.2.2.2.1, by simp (disch := omega) only [gI_sn]; exact hv.2.2.2.2.2.2⟩
  obtain ⟨a1, a2, a3, a4, a5, a6, a7, a8, a9⟩ := hv.2.2.1 o' ho'
  unfold oRng
  simp (disch := omega) only [gI_sn]
  refine ⟨a1, a2, a3, a4, a5, a6, a7, a8, fun d hd => ?_⟩
  by_cases e : 100 * o' + d = j
  · rw [e, gI_ss]; exact hx
  · rw [gI_sn (by omega)]; exact a9 d hd
theorem vRel_kn {v : hM} {n a b : Nat} {x : Int32} (hv : vRel v n) (ha : a < n) (hb : b < n) (hab : a ≠ b) (hx : 0 ≤ x.toInt ∧ x.toInt ≤ 9) : vRel (kn v 107 a b x) n := by
  have hn := hv.1
  have g : ∀ p q, p ≠ 107 → gI (kn v 107 a b x) p q = gI v p q := fun p q z => by rw [kn_g, if_neg (fun y => z y.1), if_neg (fun y => z y.1)]
  refine ⟨hv.1, by rw [g _ _ (by omega)]; exact hv.2.1, fun o' ho' => ?_, fun p q hp hq => ?_, fun p hp => ?_, by rw [g _ _ (by omega)]; exact hv.2.2.2.2.2.1, by rw [g _ _ (by omega)]; exact hv.2.2.2.2.2.2⟩
  · obtain ⟨a1, a2, a3, a4, a5, a6, a7, a8, a9⟩ := hv.2.2.1 o' ho'
    unfold oRng
    rw [g _ _ (by omega), g _ _ (by omega), g _ _ (by omega), g _ _ (by omega), g _ _ (by omega), g _ _ (by omega), g _ _ (by omega), g _ _ (by omega)]
    exact ⟨a1, a2, a3, a4, a5, a6, a7, a8, fun d hd => by rw [g _ _ (by omega)]; exact a9 d hd⟩
  · have h0 := hv.2.2.2.1 p q hp hq
    rw [kn_g, kn_g]
    by_cases e1 : p = b ∧ q = a
    · rw [if_pos ⟨rfl, by omega⟩, if_neg (by omega), if_pos ⟨rfl, by omega⟩]; exact ⟨hx.1, hx.2, rfl⟩
    · rw [if_neg (by omega)]
      by_cases e2 : p = a ∧ q = b
      · rw [if_pos ⟨rfl, by omega⟩, if_pos ⟨rfl, by omega⟩]; exact ⟨hx.1, hx.2, rfl⟩
      · rw [if_neg (by omega), if_neg (by omega), if_neg (by omega)]; exact h0
  · rw [kn_g, if_neg (by omega), if_neg (by omega)]; exact hv.2.2.2.2.1 p hp
theorem vRel_sh {v : hM} {n a : Nat} {kind k f step : Int32} (hv : vRel v n) (ha : a < n) : ∀ o, o ≤ n → vRel (shV v a kind k f step o) n
  | 0, _ => hv
  | o + 1, ho => by
    rw [shV]
    have ih := vRel_sh (kind := kind) (k := k) (f := f) (step := step) hv ha o (by omega)
    split
    · exact ih
    · split
      · rename_i q _
        exact vRel_kn ih ha (by omega) (fun z => q z.symm) (clp_rng _)
      · exact ih
theorem vRel_set {v : hM} {n : Nat} {w x : Int32} (hv : vRel v n) : vRel (setV v w x) n := by
  unfold setV
  have g : ∀ p, (p = 14 ∨ p = 15) → (p = 14 → 0 ≤ x.toInt ∧ x.toInt ≤ 20) → (p = 15 → 0 ≤ x.toInt ∧ x.toInt ≤ 100) → vRel (sI v 96 p x) n := by
    intro p hp h1 h2
    refine ⟨hv.1, by rw [gI_sn (by omega)]; exact hv.2.1, fun o' ho' => ?_, fun a b ha hb => by simp (disch := omega) only [gI_sn]; exact hv.2.2.2.1 a b ha hb, fun a ha => by simp (disch := omega) only [gI_sn]; exact hv.2.2.2.2.1 a ha, ?_, ?_⟩
    · have := hv.2.2.1 o' ho'
      unfold oRng at this ⊢
      simp (disch := omega) only [gI_sn]; exact this
    · rcases hp with rfl | rfl
      · rw [gI_ss]; exact h1 rfl
      · rw [gI_sn (by omega)]; exact hv.2.2.2.2.2.1
    · rcases hp with rfl | rfl
      · rw [gI_sn (by omega)]; exact hv.2.2.2.2.2.2
      · rw [gI_ss]; exact h2 rfl
  split
  · rename_i q; exact g 14 (Or.inl rfl) (fun _ => q.2) (fun z => by omega)
  · split
    · rename_i q; exact g 15 (Or.inr rfl) (fun z => by omega) (fun _ => q.2)
    · exact hv
theorem vOpen_n {v : hM} {n a j : Nat} {z f l p pe c : Int32} (h : ¬ (98 ≤ a ∧ a ≤ 107)) (h2 : ¬ (a = 96 ∧ j = 3)) : gI (vOpen v n z f l p pe c) a j = gI v a j := by
  rw [vOpen_g]
  simp only [show ¬ (a = 98 ∧ j = n) by omega, show ¬ (a = 99 ∧ j = n) by omega, show ¬ (a = 100 ∧ j = n) by omega, show ¬ (a = 101 ∧ j = n) by omega, show ¬ (a = 102 ∧ j = n) by omega, show ¬ (a = 103 ∧ j = n) by omega, show ¬ (a = 104 ∧ j = n) by omega, show ¬ (a = 105 ∧ j = n) by omega, show ¬ (a = 106 ∧ 100 * n ≤ j ∧ j < 100 * n + 100) by omega, show ¬ (a = 107 ∧ j = 6 * n + n) by omega, show ¬ (a = 107 ∧ (j < 36 ∧ (j / 6 = n ∨ j % 6 = n))) by omega, show ¬ (a = 96 ∧ j = 3) from h2, if_false]
theorem vRel_open {v : hM} {n : Nat} {z f l p pe c : Int32} (hv : vRel v n) (hn6 : n < 6) (hz : 0 ≤ z.toInt ∧ z.toInt ≤ 23) (hf : 0 ≤ f.toInt ∧ f.toInt ≤ 23) (hl : 1 ≤ l.toInt ∧ l.toInt ≤ 16) (hp : 1 ≤ p.toInt ∧ p.toInt ≤ 99) (hpe : 1 ≤ pe.toInt ∧ pe.toInt ≤ 9) (hc : 1 ≤ c.toInt ∧ c.toInt ≤ 63) : vRel (vOpen v n z f l p pe c) (n + 1) := by
  refine ⟨by omega, by rw [vOpen_g]; simp, fun o' ho' => ?_, fun a b ha hb => ?_, fun a ha => ?_, by rw [vOpen_n (by omega) (by omega)]; exact hv.2.2.2.2.2.1, by rw [vOpen_n (by omega) (by omega)]; exact hv.2.2.2.2.2.2⟩
  · unfold oRng
    by_cases e : o' = n
    · subst e
      have z8 : ∀ d, d < 100 → gI (vOpen v o' z f l p pe c) 106 (100 * o' + d) = 0 := fun d hd => by
        rw [vOpen_g]; simp [show 100 * o' + d < 100 * o' + 100 by omega]
      have e98 : gI (vOpen v o' z f l p pe c) 98 o' = z := by rw [vOpen_g]; simp
      have e99 : gI (vOpen v o' z f l p pe c) 99 o' = f := by rw [vOpen_g]; simp
      have e100 : gI (vOpen v o' z f l p pe c) 100 o' = l := by rw [vOpen_g]; simp
      have e101 : gI (vOpen v o' z f l p pe c) 101 o' = p := by rw [vOpen_g]; simp
      have e102 : gI (vOpen v o' z f l p pe c) 102 o' = pe := by rw [vOpen_g]; simp
      have e103 : gI (vOpen v o' z f l p pe c) 103 o' = c := by rw [vOpen_g]; simp
      have e104 : gI (vOpen v o' z f l p pe c) 104 o' = 0 := by rw [vOpen_g]; simp
      have e105 : gI (vOpen v o' z f l p pe c) 105 o' = 0 := by rw [vOpen_g]; simp
      rw [e98, e99, e100, e101, e102, e103, e104, e105]
      exact ⟨hz, hf, hl, hp, hpe, hc, by decide, by decide, fun d hd => Or.inl (z8 d hd)⟩
    · obtain ⟨a1, a2, a3, a4, a5, a6, a7, a8, a9⟩ := hv.2.2.1 o' (by omega)
      have k : ∀ a, 98 ≤ a → a ≤ 105 → gI (vOpen v n z f l p pe c) a o' = gI v a o' := fun a h1 h2 => by
        rw [vOpen_g]
        simp [e, show ¬ a = 106 by omega, show ¬ a = 107 by omega, show ¬ a = 96 by omega]
      rw [k 98 (by omega) (by omega), k 99 (by omega) (by omega), k 100 (by omega) (by omega), k 101 (by omega) (by omega), k 102 (by omega) (by omega), k 103 (by omega) (by omega), k 104 (by omega) (by omega), k 105 (by omega) (by omega)]
      refine ⟨a1, a2, a3, a4, a5, a6, a7, a8, fun d hd => ?_⟩
      have : gI (vOpen v n z f l p pe c) 106 (100 * o' + d) = gI v 106 (100 * o' + d) := by
        rw [vOpen_g]
        simp [show ¬ (100 * n ≤ 100 * o' + d ∧ 100 * o' + d < 100 * n + 100) by omega]
      rw [this]; exact a9 d hd
  · have k : ∀ a b, a < n + 1 → b < n + 1 → gI (vOpen v n z f l p pe c) 107 (6 * a + b) = if a = n ∧ b = n then 9 else if a = n ∨ b = n then 0 else gI v 107 (6 * a + b) := fun a b ha hb => by
      have d1 : (6 * a + b) / 6 = a := by omega
      have d2 : (6 * a + b) % 6 = b := by omega
      rw [vOpen_g]
      simp only [show ¬ (107 = 98 ∧ 6 * a + b = n) by omega, show ¬ (107 = 99 ∧ 6 * a + b = n) by omega, show ¬ (107 = 100 ∧ 6 * a + b = n) by omega, show ¬ (107 = 101 ∧ 6 * a + b = n) by omega, show ¬ (107 = 102 ∧ 6 * a + b = n) by omega, show ¬ (107 = 103 ∧ 6 * a + b = n) by omega, show ¬ (107 = 104 ∧ 6 * a + b = n) by omega, show ¬ (107 = 105 ∧ 6 * a + b = n) by omega, show ¬ (107 = 106 ∧ 100 * n ≤ 6 * a + b ∧ 6 * a + b < 100 * n + 100) by omega, show ¬ (107 = 96 ∧ 6 * a + b = 3) by omega, if_false, d1, d2]
      by_cases e : a = n ∧ b = n
      · rw [if_pos e, if_pos ⟨trivial, by omega⟩]
      · rw [if_neg e, if_neg (by omega)]
        by_cases e2 : a = n ∨ b = n
        · rw [if_pos e2, if_pos ⟨trivial, by omega, e2⟩]
        · rw [if_neg e2, if_neg (fun y => e2 y.2.2)]
    rw [k a b ha hb, k b a hb ha]
    by_cases e : a = n ∧ b = n
    · rw [if_pos e, if_pos ⟨e.2, e.1⟩]; decide
    · rw [if_neg e, if_neg (show ¬ (b = n ∧ a = n) from fun y => e ⟨y.2, y.1⟩)]
      by_cases e2 : a = n ∨ b = n
      · rw [if_pos e2, if_pos e2.symm]; decide
      · rw [if_neg e2, if_neg (fun y => e2 y.symm)]
        exact hv.2.2.2.1 a b (by omega) (by omega)
  · rw [vOpen_g]
    by_cases e : a = n
    · subst e; simp
    · have d1 : (6 * a + a) / 6 = a := by omega
      have d2 : (6 * a + a) % 6 = a := by omega
      simp only [show ¬ (107 = 98 ∧ 6 * a + a = n) by omega, show ¬ (107 = 99 ∧ 6 * a + a = n) by omega, show ¬ (107 = 100 ∧ 6 * a + a = n) by omega, show ¬ (107 = 101 ∧ 6 * a + a = n) by omega, show ¬ (107 = 102 ∧ 6 * a + a = n) by omega, show ¬ (107 = 103 ∧ 6 * a + a = n) by omega, show ¬ (107 = 104 ∧ 6 * a + a = n) by omega, show ¬ (107 = 105 ∧ 6 * a + a = n) by omega, show ¬ (107 = 106 ∧ 100 * n ≤ 6 * a + a ∧ 6 * a + a < 100 * n + 100) by omega, show ¬ (107 = 96 ∧ 6 * a + a = 3) by omega, show ¬ (6 * a + a = 6 * n + n) by omega, if_false, d1, d2, e, or_self, and_false]
      exact hv.2.2.2.2.1 a (by omega)
theorem IW.ec {m m1 m2 V : hM} {n n' c k t : Nat} (h : IW m m n c k t) (hn : n ≤ n') (hk : keepE m m1) (he : eRel V m1 n') (hv : vRel V n') (u1 : ∀ a j, rI a j → gI m2 a j = gI V a j) (u2 : ∀ a j, a ≤ 95 → gI m2 a j = gI m1 a j) (ul : ∀ a j, gL m2 a j = gL m1 a j) (ur : ∀ a j, gR m2 a j = gR m1 a j) (w : ∀ a j, rI a j → ¬ (98 ≤ a ∧ a ≤ 107) → ¬ (a = 96 ∧ (j = 3 ∨ j = 14 ∨ j = 15)) → gI V a j = gI m a j) : IV m2 := by
  have g : eqV V m2 := fun a j z => u1 a j (by unfold envC at z; unfold rI; omega)
  refine ⟨n', c, k, t, h.earth hn ⟨vRel_eqV hv g, eRel_v (eRel_fr he hv.1 (fun a j z1 z2 => u2 a j (by omega))) g⟩ (fun a j z1 z2 z3 => (u1 a j z1).trans (w a j z1 z2 z3)) (fun j => (ul 97 j).trans (hk.2.1 97 j)) (fun z => ?_) (fun a j z1 z2 => ?_) (fun j => (ul 67 j).trans (hk.2.1 67 j)) ?_⟩
  · unfold rfOk at z ⊢
    rw [ur, ur, ur, ur, hk.2.2, hk.2.2, hk.2.2, hk.2.2]; exact z
  · rw [u2 a j (by unfold cI at z1; omega), hk.1 a j z2]
  · have e : ∀ a j, 55 ≤ a → a ≤ 63 → gI m2 a j = gI m a j := fun a j z1 z2 => by rw [u2 a j (by omega), hk.1 a j (by omega)]
    have hj := h.2.2.2.2.2.1
    exact ⟨hj.1, fun i z1 z2 => by rw [e _ _ (by omega) (by omega), e _ _ (by omega) (by omega)]; exact hj.2.1 i z1 z2, fun p z1 z2 => by rw [e _ _ (by omega) (by omega), e _ _ (by omega) (by omega)]; exact hj.2.2 p z1 z2⟩
/-- nothing but what was thrown is another -/
theorem IW.th {m m1 m2 : hM} {n c k t : Nat} (h : IW m m n c k t) (e1 : m1 = m) (e2 : m2 = sI m1 96 0 0) : IV m2 := by
  subst e1; subst e2
  exact ⟨n, c, k, t, h.cg ⟨fun a j z => gI_sn (by unfold rI at z; omega), fun _ => rfl, fun z => z⟩ ⟨fun a j z => gI_sn (by unfold cI at z; omega), fun _ => rfl⟩ (by
    have hj := h.2.2.2.2.2.1
    exact ⟨hj.1, fun i z1 z2 => by rw [gI_sn (by omega), gI_sn (by omega)]; exact hj.2.1 i z1 z2, fun p z1 z2 => by rw [gI_sn (by omega), gI_sn (by omega)]; exact hj.2.2 p z1 z2⟩)⟩
theorem vr1 {m m1 : hM} {n : Nat} (hv : vRel m n) (hk : ∀ a j, 96 ≤ a → gI m1 a j = gI m a j) : vRel m1 n := vRel_eqV hv (fun a j z => hk a j (by unfold envC at z; omega))
theorem ok_clock {fu : Nat} (hfu : 3000 ≤ fu) {m : hM} (h : IV m) (x1 x2 x3 : Int32) : okC (f_X10_clock fu x1 x2 x3) (f_X11_clock fu x1 x2 x3) m := by
  obtain ⟨n, c, k, t, h⟩ := h
  have hv := h.1.1
  have hn := hv.1
  obtain ⟨m1, a1, a2, a3⟩ := cx_clock hfu hv h.1.2 x1 x2 x3
  have k1 : ∀ a j, 96 ≤ a → gI m1 a j = gI m a j := fun a j z => a3.1 a j (by omega)
  refine ⟨_, m1, _, a1, rx_clock fu (vr1 hv k1) x1 x2 x3, ?_⟩
  by_cases q : hIn x1 n ∧ hIn x2 2400 ∧ (-1 ≤ x3.toInt ∧ x3.toInt ≤ 1)
  · rw [if_pos q] at a2 ⊢
    refine h.ec (Nat.le_refl n) a3 a2 (vRel_clock hv q.2.1 q.2.2) (fun a j z => ?_) (fun a j z => ?_) (fun _ _ => rfl) (fun _ _ => rfl) (fun a j z1 z2 z3 => ?_)
    · have e := k1 a j (by unfold rI at z; omega)
      unfold vClock
      rw [gI_sI, gI_sI, gI_sI, gI_sI, gI_sI, e]
      unfold rI at z
      rw [if_neg (show ¬ (a = 96 ∧ j = 0) by omega)]
    · unfold vClock
      rw [gI_sn (by omega), gI_sn (by omega), gI_sn (by omega)]
    · unfold vClock
      rw [gI_sn (by omega), gI_sn (by omega)]
  · rw [if_neg q] at a2 ⊢
    refine h.ec (Nat.le_refl n) a3 a2 hv (fun a j z => ?_) (fun a j z => gI_sn (by omega)) (fun _ _ => rfl) (fun _ _ => rfl) (fun _ _ _ _ _ => rfl)
    rw [gI_sn (by unfold rI at z; omega), k1 a j (by unfold rI at z; omega)]
theorem ok_feast {fu : Nat} (hfu : 3000 ≤ fu) {m : hM} (h : IV m) (x1 x2 : Int32) {x3 : Int32} (hx : x3 = 0 ∨ x3 = 1) : okC (f_X10_feast fu x1 x2 x3) (f_X11_feast fu x1 x2 x3) m := by
  obtain ⟨n, c, k, t, h⟩ := h
  have hv := h.1.1
  have hn := hv.1
  obtain ⟨m1, a1, a2, a3⟩ := cx_feast hfu hv h.1.2 x1 x2 hx
  have k1 : ∀ a j, 96 ≤ a → gI m1 a j = gI m a j := fun a j z => a3.1 a j (by omega)
  refine ⟨_, m1, _, a1, rx_feast fu (vr1 hv k1) x1 x2 hx, ?_⟩
  by_cases q : hIn x1 n ∧ hIn x2 100
  · rw [if_pos q] at a2 ⊢
    refine h.ec (Nat.le_refl n) a3 a2 (vRel_feast hv hx) (fun a j z => ?_) (fun a j z => ?_) (fun _ _ => rfl) (fun _ _ => rfl) (fun a j z1 z2 z3 => ?_)
    · have e := k1 a j (by unfold rI at z; omega)
      rw [gI_sI, gI_sI, gI_sI, e]
      unfold rI at z
      rw [if_neg (show ¬ (a = 96 ∧ j = 0) by omega)]
    · rw [gI_sn (by omega), gI_sn (by omega)]
    · rw [gI_sn (by omega)]
  · rw [if_neg q] at a2 ⊢
    refine h.ec (Nat.le_refl n) a3 a2 hv (fun a j z => ?_) (fun a j z => gI_sn (by omega)) (fun _ _ => rfl) (fun _ _ => rfl) (fun _ _ _ _ _ => rfl)
    rw [gI_sn (by unfold rI at z; omega), k1 a j (by unfold rI at z; omega)]
theorem ok_know {fu : Nat} {m : hM} (h : IV m) (x1 x2 x3 : Int32) : okC (f_X10_know fu x1 x2 x3) (f_X11_know fu x1 x2 x3) m := by
  obtain ⟨n, c, k, t, h⟩ := h
  have hv := h.1.1
  have hn := hv.1
  by_cases q : knOk x1 x2 x3 n
  · obtain ⟨m1, a1, a2, a3⟩ := (cx_know fu hv h.1.2 x1 x2 x3).1 q
    have k1 : ∀ a j, 96 ≤ a → gI m1 a j = gI m a j := fun a j z => a3.1 a j (by omega)
    refine ⟨_, m1, _, a1, by rw [← k1 107 _ (by omega)]; exact (rx_know fu (vr1 hv k1) x1 x2 x3).1 q, ?_⟩
    obtain ⟨i, hi, hie⟩ := hIn_of q.1 (by omega)
    obtain ⟨j, hj, hje⟩ := hIn_of q.2.1 (by omega)
    have hne : i ≠ j := fun z => q.2.2.1 (by rw [hie, hje, z])
    rw [hie, hje, nI_clamp (show i < 2 ^ 31 by omega), nI_clamp (show j < 2 ^ 31 by omega)] at a2 ⊢
    refine h.ec (Nat.le_refl n) a3 a2 (vRel_kn hv hi hj hne q.2.2.2) (fun a j z => ?_) (fun a j z => ?_) (fun _ _ => rfl) (fun _ _ => rfl) (fun a j z1 z2 z3 => ?_)
    · have e := k1 a j (by unfold rI at z; omega)
      rw [kn_g, kn_g, gI_sI, e]
      unfold rI at z
      rw [if_neg (show ¬ (a = 96 ∧ j = 0) by omega)]
    · rw [kn_g, if_neg (by omega), if_neg (by omega), gI_sn (by omega)]
    · rw [kn_g, if_neg (by omega), if_neg (by omega)]
  · exact ⟨_, m, _, (cx_know fu hv h.1.2 x1 x2 x3).2 q, (rx_know fu hv x1 x2 x3).2 q, h.th rfl rfl⟩
theorem ok_set {fu : Nat} {m : hM} (h : IV m) (x1 x2 : Int32) : okC (f_X10_set fu x1 x2) (f_X11_set fu x1 x2) m := by
  obtain ⟨n, c, k, t, h⟩ := h
  have hv := h.1.1
  have hn := hv.1
  obtain ⟨m1, a1, a2, a3⟩ := cx_set fu h.1.2 x1 x2
  have k1 : ∀ a j, 96 ≤ a → gI m1 a j = gI m a j := fun a j z => a3.1 a j (by omega)
  refine ⟨_, m1, _, a1, ?_, h.ec (Nat.le_refl n) a3 a2 (vRel_set hv) (m2 := setV (sI m1 96 0 0) x1 x2) (fun a j z => ?_) (fun a j z => ?_) (fun a j => ?_) (fun a j => ?_) (fun a j z1 z2 z3 => ?_)⟩
  · rw [rx_set]
    unfold setA
    rw [k1 96 14 (by omega), k1 96 15 (by omega)]
  · have e := k1 a j (by unfold rI at z; omega)
    unfold rI at z
    unfold setV
    split
    · rw [gI_sI, gI_sI, gI_sI, e, if_neg (show ¬ (a = 96 ∧ j = 0) by omega)]
    · split
      · rw [gI_sI, gI_sI, gI_sI, e, if_neg (show ¬ (a = 96 ∧ j = 0) by omega)]
      · rw [gI_sn (by omega), e]
  · unfold setV
    split
    · rw [gI_sn (by omega), gI_sn (by omega)]
    · split
      · rw [gI_sn (by omega), gI_sn (by omega)]
      · rw [gI_sn (by omega)]
  · unfold setV; split; rfl; split <;> rfl
  · unfold setV; split; rfl; split <;> rfl
  · unfold setV
    split
    · rw [gI_sn (by omega)]
    · split
      · rw [gI_sn (by omega)]
      · rfl
theorem shV_cg {v v' : hM} {a : Nat} {kind k f step : Int32} (g : ∀ j, gI v' 107 j = gI v 107 j) : ∀ o j, gI (shV v' a kind k f step o) 107 j = gI (shV v a kind k f step o) 107 j
  | 0, j => g j
  | o + 1, j => by
    rw [shV, shV]
    split
    · exact shV_cg g o j
    · split
      · rw [kn_g, kn_g, shV_cg g o j]
      · exact shV_cg g o j
theorem shSum_cg {v v' : hM} {a : Nat} {kind k f step : Int32} (g : ∀ j, gI v' 107 j = gI v 107 j) : ∀ o, shSum v' a kind k f step o = shSum v a kind k f step o
  | 0 => rfl
  | o + 1 => by rw [shSum, shSum, shSum_cg g o, shV_cg g]
theorem shV_L {v : hM} {a : Nat} {kind k f step : Int32} : ∀ o, (∀ p q, gL (shV v a kind k f step o) p q = gL v p q) ∧ ∀ p q, gR (shV v a kind k f step o) p q = gR v p q
  | 0 => ⟨fun _ _ => rfl, fun _ _ => rfl⟩
  | o + 1 => by
    rw [shV]
    have ih := shV_L (v := v) (a := a) (kind := kind) (k := k) (f := f) (step := step) o
    split
    · exact ih
    · split
      · exact ih
      · exact ih
theorem ok_sheet {fu : Nat} (hfu : 100 ≤ fu) {m : hM} (h : IV m) (x1 x2 x3 x4 x5 : Int32) : okC (f_X10_sheet fu x1 x2 x3 x4 x5) (f_X11_sheet fu x1 x2 x3 x4 x5) m := by
  obtain ⟨n, c, k, t, h⟩ := h
  have hv := h.1.1
  have hn := hv.1
  have A := cx_sheet hfu hv h.1.2 x1 x2 x3 x4 x5
  by_cases q : shBad x1 x2 x3 n
  · exact ⟨_, m, _, A.1 q, (rx_sheet hfu hv x1 x2 x3 x4 x5).1 q, h.th rfl rfl⟩
  by_cases q2 : x2 = 3 ∨ 0 ≤ x3.toInt
  · obtain ⟨m1, a1, a2, a3⟩ := A.2.2 q q2
    have k1 : ∀ a j, 96 ≤ a → gI m1 a j = gI m a j := fun a j z => a3.1 a j (by omega)
    have g7 : ∀ j, gI (sI m1 96 0 0) 107 j = gI m 107 j := fun j => by rw [gI_sn (by omega)]; exact k1 107 j (by omega)
    refine ⟨_, m1, _, a1, by rw [← shSum_cg g7]; exact (rx_sheet hfu (vr1 hv k1) x1 x2 x3 x4 x5).2.2 q q2, ?_⟩
    have hx1 : hIn x1 n := Classical.byContradiction (fun z => q (fun y => z y.1))
    obtain ⟨i, hi, hie⟩ := hIn_of hx1 (by omega)
    rw [hie, nI_clamp (show i < 2 ^ 31 by omega)] at a2 ⊢
    refine h.ec (Nat.le_refl n) a3 a2 (vRel_sh hv hi n (Nat.le_refl n)) (fun a j z => ?_) (fun a j z => ?_) (fun a j => (shV_L n).1 a j) (fun a j => (shV_L n).2 a j) (fun a j z1 z2 z3 => ?_)
    · by_cases e7 : a = 107
      · subst e7; exact shV_cg g7 n j
      · rw [shV_cnt n a j e7, shV_cnt n a j e7, gI_sn (by unfold rI at z; omega), k1 a j (by unfold rI at z; omega)]
    · rw [shV_cnt n a j (by omega), gI_sn (by omega)]
    · rw [shV_cnt n a j (by omega)]
  · have q3 : ¬ x2 = 3 := fun z => q2 (Or.inl z)
    have q4 : x3.toInt < 0 := by have : ¬ 0 ≤ x3.toInt := fun z => q2 (Or.inr z); omega
    exact ⟨_, m, _, A.2.1 q q3 q4, (rx_sheet hfu hv x1 x2 x3 x4 x5).2.1 q q3 q4, h.th rfl rfl⟩
theorem ok_office {fu : Nat} (hfu : 3000 ≤ fu) {m : hM} (h : IV m) (x1 x2 x3 x4 : Int32) : okC (f_X10_office fu x1 x2 x3 x4) (f_X11_office fu x1 x2 x3 x4) m := by
  obtain ⟨n, c, k, t, h⟩ := h
  have hv := h.1.1
  have hn := hv.1
  by_cases q : offOk n x1 x2 x3 x4
  · obtain ⟨m1, a1, a2, a3⟩ := (cx_office hfu hv h.1.2 x1 x2 x3 x4).2 q
    have k1 : ∀ a j, 96 ≤ a → gI m1 a j = gI m a j := fun a j z => a3.1 a j (by omega)
    refine ⟨_, m1, _, a1, (rx_office (show 200 ≤ fu by omega) (vr1 hv k1) x1 x2 x3 x4).2 q, ?_⟩
    obtain ⟨q0, q1, q2, q3, q4, q5⟩ := q
    have t1 := (ti_num (x1 := x1) q1.1).2.2
    have t4 := (st_num (x4 := x4) (by omega)).2.2.2.1
    refine h.ec (Nat.le_succ n) a3 a2 (vRel_open hv q0 ?_ ?_ q2 q3 ?_ ?_) (fun a j z => ?_) (fun a j z => ?_) (fun _ _ => rfl) (fun _ _ => rfl) (fun a j z1 z2 z3 => ?_)
    · rw [nI_toInt (by omega)]; omega
    · rw [nI_toInt (by omega)]; omega
    · rw [nI_toInt (by omega)]; omega
    · rw [nI_toInt (by omega)]; omega
    · have e := k1 a j (by unfold rI at z; omega)
      unfold rI at z
      unfold vOff
      rw [vOpen_g, vOpen_g, gI_sn (show ¬ (a = 96 ∧ j = 0) by omega), e]
    · unfold vOff
      rw [vOpen_n (by omega) (by omega), gI_sn (by omega)]
    · unfold vOff
      rw [vOpen_n (by omega) (by omega)]
  · exact ⟨_, m, _, (cx_office hfu hv h.1.2 x1 x2 x3 x4).1 q, (rx_office (show 200 ≤ fu by omega) hv x1 x2 x3 x4).1 q, h.th rfl rfl⟩
theorem ok_open {fu : Nat} {m : hM} (h : IV m) (x1 x2 : Int32) : okC (f_X10_open fu x1 x2) (f_X11_open fu x1 x2) m := by
  obtain ⟨n, c, k, t, h⟩ := h
  exact ⟨_, m, _, cx_open fu h.1.1 h.1.2 x1 x2, rx_open fu h.1.1 x1 x2, h.th rfl rfl⟩
theorem ok_overlap {fu : Nat} (hfu : 30 ≤ fu) {m : hM} (h : IV m) (x1 x2 x3 : Int32) : okC (f_X10_overlap fu x1 x2 x3) (f_X11_overlap fu x1 x2 x3) m := by
  obtain ⟨n, c, k, t, h⟩ := h
  exact ⟨_, m, _, cx_overlap fu h.1.1 h.1.2 x1 x2 x3, rx_overlap hfu h.1.1 x1 x2 x3, h.th rfl rfl⟩
theorem ok_loses {fu : Nat} (hfu : 30 ≤ fu) {m : hM} (h : IV m) (x1 x2 x3 : Int32) : okC (f_X10_loses fu x1 x2 x3) (f_X11_loses fu x1 x2 x3) m := by
  obtain ⟨n, c, k, t, h⟩ := h
  exact ⟨_, m, _, cx_loses fu h.1.1 h.1.2 x1 x2 x3, rx_loses hfu h.1.1 x1 x2 x3, h.th rfl rfl⟩
