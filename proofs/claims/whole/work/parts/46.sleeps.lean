/-! ===== sleeps, worst, march ===== -/
theorem fe_num {o d : Nat} (ho : o < 6) (hd : d < 100) : (100 : Int32) * nI o + nI d = nI (100 * o + d) ∧ hIn (nI (100 * o + d)) 600 ∧ (nI (100 * o + d)).toNatClampNeg = 100 * o + d := by
  refine ⟨by rw [show (100 : Int32) = nI 100 from rfl, pk_mul, nI_add], hIn_lt (by omega) (by omega), nI_clamp (by omega)⟩
theorem rx_endsOn {fu : Nat} (hfu : 3000 ≤ fu) {v m : hM} {n c x : Nat} {S : Nat → Int32} (h : RW v m n c S) (hx : x < 2400) (h0 : S 0 = nI x) {o d : Nat} (ho : o < n) (hd : d < 100) (hz : gI v 106 (100 * o + d) = 0) :
    ∃ m', f_X11_endsOn fu (nI o) (nI d) m = some (eEnd (sI v 106 (100 * o + d) 1) n c x S, m') ∧ RW v m' n c S ∧ fr PS m m' := by
  have hn := h.1.1
  obtain ⟨e1, e2, e3⟩ := fe_num (show o < 6 by omega) hd
  have hw : RW (sI v 106 (100 * o + d) 1) (sI m 106 (100 * o + d) 1) n c S := by
    refine h.earth (Nat.le_refl n) (vRel_feast h.1 (Or.inr rfl)) (fun a j z1 z2 => gI_sn (by unfold erV at z2; omega)) (fun a j z => ?_) (fun j hj => by rw [gI_sn (by omega)]; exact h.2.2.2.2.2 j hj)
    rw [gI_sI, gI_sI, h.2.2.2.2.1 a j z]
  obtain ⟨m4, a1, a2, a3⟩ := hw.run hfu hx h0
  unfold f_X11_endsOn
  rw [e1, if_pos e2, hLet_n, e3, nar_b (Or.inr rfl), a1, hBd_some, if_pos e2, hLet_n, nar_b (Or.inl rfl)]
  have f : fr PS m (sI m4 106 (100 * o + d) 0) := by
    refine ⟨fun a j z => ?_, fun a j => a3.2.1 a j, fun a j => a3.2.2 a j⟩
    by_cases q : a = 106 ∧ j = 100 * o + d
    · rw [q.1, q.2, gI_ss, h.2.2.2.2.1 _ _ (by unfold envC; omega)]; exact hz.symm
    · rw [gI_sn q, a3.1 a j z, gI_sn q]
  exact ⟨_, rfl, h.ps f, f⟩
theorem cx_endsOn {fu : Nat} (hfu : 3000 ≤ fu) {v m : hM} {n c x : Nat} {S : Nat → Int32} (h : CW v m n c S) (hx : x < 2400) (h0 : S 0 = nI x) {o d : Nat} (ho : o < n) (hd : d < 100) (hz : gI v 106 (100 * o + d) = 0) :
    ∃ m1 m2 m3 m4, f_X0_putFeast fu (nI o) (nI d) 1 m = some ((), m1) ∧ f_X10_fromNow fu m1 = some (55, m2) ∧ f_X8_runToEnd fu 55 2399 m2 = some (cEnd (sI v 106 (100 * o + d) 1) n c x S 2399, m3) ∧ f_X0_putFeast fu (nI o) (nI d) 0 m3 = some ((), m4) ∧ CW v m4 n c S ∧ fr PE m m4 := by
  have hv := h.1.1
  have hn := hv.1
  obtain ⟨m1, a1, a2, a3⟩ := cx_putFeast hfu hv h.1.2.1 ho hd (Or.inr rfl)
  have hv1 : vRel (sI v 106 (100 * o + d) 1) n := vRel_feast hv (Or.inr rfl)
  have h1 : CW (sI v 106 (100 * o + d) 1) m1 n c S := h.earth (Nat.le_refl n) ⟨hv1, a2⟩ (fun a j z1 z2 => gI_sn (by unfold erV at z2; omega)) a3.hi
  obtain ⟨m2, m3, b1, b2, b3, b4⟩ := h1.run hfu hx h0 2399
  obtain ⟨m4, d1, d2, d3⟩ := cx_putFeast hfu hv1 b3.1.2.1 ho hd (Or.inl rfl)
  have back : eqV (sI (sI v 106 (100 * o + d) 1) 106 (100 * o + d) 0) v := fun a j z => by
    by_cases q : a = 106 ∧ j = 100 * o + d
    · rw [q.1, q.2, gI_ss]; exact hz
    · rw [gI_sn q, gI_sn q]
  have h4 : CW v m4 n c S := b3.earth (Nat.le_refl n) ⟨hv, eRel_v d2 back⟩ (fun a j z1 z2 => by rw [gI_sn (by unfold erV at z2; omega)]) d3.hi
  exact ⟨m1, m2, m3, m4, a1, b1, b2, d1, h4, (fr.PEe a3).tr ((fr.PEw b4).tr (fr.PEe d3))⟩
theorem ok_sleeps {fu : Nat} (hfu : 3000 ≤ fu) {m : hM} (h : IV m) (x1 x2 : Int32) : okC (f_X10_sleeps fu x1 x2) (f_X11_sleeps fu x1 x2) m := by
  obtain ⟨n, c, k, t, h⟩ := h
  have hp := h.2.1.1
  have hn := h.1.1.1
  have hc := hp.1
  have h3 : ∀ M : hM, (∀ a j, 96 ≤ a → gI M a j = gI m a j) → gI (sI M 96 0 0) 96 3 = nI n := fun M z => by rw [gI_sn (by omega), z _ _ (by omega)]; exact h.1.1.2.1
  have h16 : ∀ M : hM, (∀ a j, 96 ≤ a → gI M a j = gI m a j) → gI (sI M 96 0 0) 96 16 = nI c := fun M z => by rw [gI_sn (by omega), z _ _ (by omega)]; exact hp.2.1
  have id1 : ∀ a j, 96 ≤ a → gI m a j = gI m a j := fun _ _ _ => rfl
  unfold okC f_X10_sleeps f_X11_sleeps
  by_cases c1 : hIn x1 n
  rotate_left
  · refine ⟨-1, m, sI m 96 0 0, ?_, ?_, h.th rfl rfl⟩
    · rw [cx_has fu x1 m (by omega) h.1.2.1, hBd_some, if_neg c1, if_pos rfl]
    · rw [hLet_n, rx_isOffice fu x1 _ (by omega) (h3 m id1), hBd_some, if_neg c1, if_pos rfl]
  by_cases c2 : hIn x2 100
  rotate_left
  · refine ⟨-1, m, sI m 96 0 0, ?_, ?_, h.th rfl rfl⟩
    · rw [cx_has fu x1 m (by omega) h.1.2.1, hBd_some, if_pos c1, if_neg (by decide), cx_isDay, hBd_some, if_neg c2, if_pos rfl]
    · rw [hLet_n, rx_isOffice fu x1 _ (by omega) (h3 m id1), hBd_some, if_pos c1, if_neg (by decide), rx_isDay, hBd_some, if_neg c2, if_pos rfl]
  by_cases c0 : c = 0
  · refine ⟨-1, m, sI m 96 0 0, ?_, ?_, h.th rfl rfl⟩
    · rw [cx_has fu x1 m (by omega) h.1.2.1, hBd_some, if_pos c1, if_neg (by decide), cx_isDay, hBd_some, if_pos c2, if_neg (by decide), h.2.1.2.1.1, if_neg (fun z => z (by rw [c0]; rfl))]
    · rw [hLet_n, rx_isOffice fu x1 _ (by omega) (h3 m id1), hBd_some, if_pos c1, if_neg (by decide), rx_isDay, hBd_some, if_pos c2, if_neg (by decide), h16 m id1, if_neg (fun z => z (by rw [c0]; rfl))]
  have nc : ¬ nI c = 0 := nI_ne0 (by omega) (by omega)
  obtain ⟨o, ho, rfl⟩ := hIn_of c1 (by omega)
  obtain ⟨d, hd, rfl⟩ := hIn_of c2 (by omega)
  obtain ⟨e1, e2, e3⟩ := fe_num (show o < 6 by omega) hd
  have co : (nI o).toNatClampNeg = o := nI_clamp (by omega)
  have cd : (nI d).toNatClampNeg = d := nI_clamp (by omega)
  have h6 : hIn (nI o) 6 := hIn_lt (by omega) (by omega)
  have ef : gI m (6 + 2 * o + 1) d = gI m 106 (100 * o + d) := (h.1.2.2.2.2.1 o ho).1.2 d hd
  have hf : ∀ M : hM, (∀ a j, 96 ≤ a → gI M a j = gI m a j) → gI (sI M 96 0 0) 106 (100 * o + d) = gI m 106 (100 * o + d) := fun M z => by rw [gI_sn (by omega), z _ _ (by omega)]
  by_cases hz : gI m 106 (100 * o + d) = 0
  rotate_left
  · refine ⟨-9998, m, sI m 96 0 0, ?_, ?_, h.th rfl rfl⟩
    · rw [cx_has fu _ m (by omega) h.1.2.1, hBd_some, if_pos c1, if_neg (by decide), cx_isDay, hBd_some, if_pos c2, if_neg (by decide), h.2.1.2.1.1, if_pos nc, if_pos h6, if_pos c2, co, cd, ef, if_neg hz]
    · rw [hLet_n, rx_isOffice fu _ _ (by omega) (h3 m id1), hBd_some, if_pos c1, if_neg (by decide), rx_isDay, hBd_some, if_pos c2, if_neg (by decide), h16 m id1, if_pos nc, e1, if_pos e2, e3, hf m id1, if_neg hz]
  obtain ⟨x, hx, hxe⟩ := h.now
  obtain ⟨m1, m2, a1, a2, a3, a4⟩ := h.cw.run hfu hx hxe 2399
  obtain ⟨m3, m4, m5, m6, b1, b2, b3, b4, b5, b6⟩ := cx_endsOn hfu a3 hx hxe ho hd hz
  have f6 : fr PE m m6 := (fr.PEw a4).tr b6
  have k6 := PE_hi f6
  obtain ⟨p1, d1, d2, d3⟩ := (h.rw' k6).run hfu hx hxe
  obtain ⟨p2, g1, g2, g3⟩ := rx_endsOn hfu d2 hx hxe ho hd hz
  refine ⟨ltr (eEnd m n c x (sFn m)) (eEnd (sI m 106 (100 * o + d) 1) n c x (sFn m)), m6, p2, ?_, ?_, ?_⟩
  · rw [cx_has fu _ m (by omega) h.1.2.1, hBd_some, if_pos c1, if_neg (by decide), cx_isDay, hBd_some, if_pos c2, if_neg (by decide), h.2.1.2.1.1, if_pos nc, if_pos h6, if_pos c2, co, cd, ef, if_pos hz, a1, hBd_some, if_pos rfl, a2, hBd_some, b1, hBd_some, b2, hBd_some, if_pos rfl, b3, hBd_some, b4, hBd_some, cx_later fu hx hx, hBd_some]
  · rw [hLet_n, rx_isOffice fu _ _ (by omega) (h3 m6 k6), hBd_some, if_pos c1, if_neg (by decide), rx_isDay, hBd_some, if_pos c2, if_neg (by decide), h16 m6 k6, if_pos nc, e1, if_pos e2, e3, hf m6 k6, if_pos hz, d1, hBd_some, g1, hBd_some]
    exact rx_later hx hx p2
  · exact IW.q1 (h.m6 f6 ⟨h.1.1, b5.1.2.1⟩ b5.2.2.2.1) k6 f6.2.1 f6.2.2 (fr.th.tr ((fr.p0 d3).tr (fr.p0 g3))) (fun a j z => P0S_ok z)
/-! the worst day: after r days looked at, the best and how late -/
noncomputable def wst (v : hM) (n c x o : Nat) (S : Nat → Int32) (f : Nat) : Nat → Option (Nat × Nat)
  | 0 => none
  | r + 1 => if gI v 106 (100 * o + (f + r)) = 0 then (match gK (sI v 106 (100 * o + (f + r)) 1) n c (2399 - x) S with | none => wst v n c x o S f r | some k => (match wst v n c x o S f r with | none => some (f + r, x + k) | some (d, l) => if x + k ≤ l then some (d, l) else some (f + r, x + k))) else wst v n c x o S f r
theorem wst_le {v : hM} {n c x o : Nat} {S : Nat → Int32} {f : Nat} (hx : x < 2400) : ∀ r d l, wst v n c x o S f r = some (d, l) → l ≤ 2399 ∧ f ≤ d ∧ d < f + r
  | 0, d, l, h => by cases h
  | r + 1, d, l, h => by
    rw [wst] at h
    split at h
    · cases hg : gK (sI v 106 (100 * o + (f + r)) 1) n c (2399 - x) S with
      | none =>
        rw [hg] at h
        have := wst_le hx r d l h; omega
      | some k =>
        have hk := gK_le _ _ _ hg
        rw [hg] at h
        cases hw : wst v n c x o S f r with
        | none =>
          rw [hw] at h
          cases h; omega
        | some q =>
          obtain ⟨d', l'⟩ := q
          rw [hw] at h
          have := wst_le hx r d' l' hw
          simp only [] at h
          split at h
          · cases h; omega
          · cases h; omega
    · have := wst_le hx r d l h; omega
def wA (o : Option (Nat × Nat)) : Int32 := match o with | none => -2 | some (d, _) => nI d
def wB (o : Option (Nat × Nat)) (z : Int32) : Int32 := match o with | none => z | some (_, l) => nI l
theorem cEnd_g {v : hM} {n c x : Nat} {S : Nat → Int32} (hx : x < 2400) : (∀ k, gK v n c (2399 - x) S = some k → cEnd v n c x S 2399 = nI (x + k) ∧ eEnd v n c x S = nI (x + k)) ∧ (gK v n c (2399 - x) S = none → cEnd v n c x S 2399 = -2 ∧ eEnd v n c x S = -1) := by
  have hq : qOf 2399 x = 2399 - x := by
    unfold qOf
    rw [show (2399 : Int32).toInt = 2399 from rfl, if_pos (by omega)]; omega
  unfold cEnd eEnd
  rw [hq]
  constructor
  · intro k hk; rw [hk]; exact ⟨rfl, rfl⟩
  · intro hk; rw [hk]; exact ⟨rfl, rfl⟩
theorem cx_worst52 {fu : Nat} (hfu : 3000 ≤ fu) {v : hM} {n c x o f l : Nat} {S : Nat → Int32} (hx : x < 2400) (h0 : S 0 = nI x) (ho : o < n) (hl : l < 100) : ∀ (t r : Nat) (m : hM), f + r ≤ l + 1 → l + 1 - (f + r) < t → CW v m n c S →
    ∃ m', f_X10_worst_52 fu t (nI o) (nI l) (wA (wst v n c x o S f r)) (wB (wst v n c x o S f r) (-1)) (nI (f + r)) m = f_X10_worst_145 fu (wA (wst v n c x o S f (l + 1 - f))) (wB (wst v n c x o S f (l + 1 - f)) (-1)) m' ∧ CW v m' n c S ∧ fr PE m m' := by
  intro t
  induction t with
  | zero => intro r m h1 h2; omega
  | succ t ih =>
    intro r m hr ht h
    have hn := h.1.1.1
    rw [f_X10_worst_52_s]
    unfold s_X10_worst_52
    by_cases q : nI l < nI (f + r)
    · rw [if_pos q]
      rw [nI_ltI (by omega) (by omega)] at q
      rw [show l + 1 - f = r by omega]
      exact ⟨m, rfl, h, fr.rf⟩
    · rw [if_neg q]
      rw [nI_ltI (by omega) (by omega)] at q
      have hd : f + r < 100 := by omega
      have co : (nI o).toNatClampNeg = o := nI_clamp (by omega)
      have cd : (nI (f + r)).toNatClampNeg = f + r := nI_clamp (by omega)
      have ef : gI m (6 + 2 * o + 1) (f + r) = gI v 106 (100 * o + (f + r)) := (h.1.2.1.2.2.2.1 o ho).1.2 (f + r) hd
      rw [if_pos (hIn_lt (show o < 6 by omega) (by omega)), if_pos (hIn_lt hd (by omega)), co, cd, ef]
      unfold f_X10_worst_139
      simp only [hLet_n, nI_1]
      have e1 : nI (f + r + 1) = nI (f + (r + 1)) := by rw [show f + r + 1 = f + (r + 1) by omega]
      by_cases hz : gI v 106 (100 * o + (f + r)) = 0
      · obtain ⟨m1, m2, m3, m4, b1, b2, b3, b4, b5, b6⟩ := cx_endsOn hfu h hx h0 ho hd hz
        obtain ⟨m5, s1, s2, s3⟩ := ih (r + 1) m4 (by omega) (by omega) b5
        rw [if_pos hz, b1, hBd_some, b2, hBd_some, if_pos rfl, b3, hBd_some, b4, hBd_some, e1]
        refine ⟨m5, ?_, s2, b6.tr s3⟩
        rw [← s1]
        rw [wst, if_pos hz]
        cases hg : gK (sI v 106 (100 * o + (f + r)) 1) n c (2399 - x) S with
        | none => rw [((cEnd_g hx).2 hg).1, if_pos (by decide)]
        | some k =>
          have hk := gK_le _ _ _ hg
          rw [((cEnd_g hx).1 k hg).1, if_neg (nI_nm (show x + k ≤ 2399 by omega)).1]
          cases hw : wst v n c x o S f r with
          | none =>
            rw [if_neg (show ¬ nI (x + k) ≤ wB none (-1) by unfold wB; rw [i_le, nI_toInt (by omega)]; show ¬ ((x + k : Nat) : Int) ≤ -1; omega)]
            rfl
          | some q2 =>
            obtain ⟨d', l'⟩ := q2
            have hl' := (wst_le hx r d' l' hw).1
            simp only []
            by_cases y : x + k ≤ l'
            · rw [if_pos (show nI (x + k) ≤ wB (some (d', l')) (-1) from nI_le y (by omega)), if_pos y]
            · rw [if_neg (show ¬ nI (x + k) ≤ wB (some (d', l')) (-1) from nI_ge (by omega) (by omega)), if_neg y]
              rfl
      · obtain ⟨m5, s1, s2, s3⟩ := ih (r + 1) m (by omega) (by omega) h
        rw [if_neg hz, e1]
        refine ⟨m5, ?_, s2, s3⟩
        rw [← s1]
        rw [wst, if_neg hz]
theorem rx_worst52 {fu : Nat} (hfu : 3000 ≤ fu) {v : hM} {n c x o f l : Nat} {S : Nat → Int32} (hx : x < 2400) (h0 : S 0 = nI x) (ho : o < n) (hl : l < 100) : ∀ (t r : Nat) (m : hM), f + r ≤ l + 1 → l + 1 - (f + r) < t → RW v m n c S →
    ∃ m', f_X11_worst_52 fu t (nI o) (nI l) (wA (wst v n c x o S f r)) (wB (wst v n c x o S f r) 0) (nI (f + r)) m = f_X11_worst_117 fu (wA (wst v n c x o S f (l + 1 - f))) (wB (wst v n c x o S f (l + 1 - f)) 0) m' ∧ RW v m' n c S ∧ fr PS m m' := by
  intro t
  induction t with
  | zero => intro r m h1 h2; omega
  | succ t ih =>
    intro r m hr ht h
    have hn := h.1.1
    rw [f_X11_worst_52_s]
    unfold s_X11_worst_52
    by_cases q : nI l < nI (f + r)
    · rw [if_pos q]
      rw [nI_ltI (by omega) (by omega)] at q
      rw [show l + 1 - f = r by omega]
      exact ⟨m, rfl, h, fr.rf⟩
    · rw [if_neg q]
      rw [nI_ltI (by omega) (by omega)] at q
      have hd : f + r < 100 := by omega
      obtain ⟨e1', e2', e3'⟩ := fe_num (show o < 6 by omega) hd
      rw [e1', if_pos e2', e3', h.2.2.2.2.1 106 _ (by unfold envC; omega)]
      unfold f_X11_worst_84 f_X11_worst_103 f_X11_worst_111
      simp only [hLet_n, nI_1]
      have e1 : nI (f + r + 1) = nI (f + (r + 1)) := by rw [show f + r + 1 = f + (r + 1) by omega]
      by_cases hz : gI v 106 (100 * o + (f + r)) = 0
      · obtain ⟨m4, b1, b5, b6⟩ := rx_endsOn hfu h hx h0 ho hd hz
        obtain ⟨m5, s1, s2, s3⟩ := ih (r + 1) m4 (by omega) (by omega) b5
        rw [if_pos hz, b1, hBd_some, e1]
        refine ⟨m5, ?_, s2, b6.tr s3⟩
        rw [← s1]
        rw [wst, if_pos hz]
        cases hg : gK (sI v 106 (100 * o + (f + r)) 1) n c (2399 - x) S with
        | none => rw [((cEnd_g hx).2 hg).2, if_pos (by decide)]
        | some k =>
          have hk := gK_le _ _ _ hg
          rw [((cEnd_g hx).1 k hg).2, if_neg (nI_nm (show x + k ≤ 2399 by omega)).2.2.1]
          cases hw : wst v n c x o S f r with
          | none =>
            rw [if_pos (show wA none < 0 by unfold wA; decide)]
            rfl
          | some q2 =>
            obtain ⟨d', l'⟩ := q2
            have hl' := wst_le hx r d' l' hw
            rw [if_neg (show ¬ wA (some (d', l')) < 0 from nI_pos (show d' < 2 ^ 31 by omega))]
            simp only []
            by_cases y : x + k ≤ l'
            · rw [if_pos (show nI (x + k) ≤ wB (some (d', l')) 0 from nI_le y (by omega)), if_pos y]
            · rw [if_neg (show ¬ nI (x + k) ≤ wB (some (d', l')) 0 from nI_ge (by omega) (by omega)), if_neg y]
              rfl
      · obtain ⟨m5, s1, s2, s3⟩ := ih (r + 1) m (by omega) (by omega) h
        rw [if_neg hz, if_pos (by decide), e1]
        refine ⟨m5, ?_, s2, s3⟩
        rw [← s1]
        rw [wst, if_neg hz]
theorem ok_worst {fu : Nat} (hfu : 3000 ≤ fu) {m : hM} (h : IV m) (x1 x2 x3 : Int32) : okC (f_X10_worst fu x1 x2 x3) (f_X11_worst fu x1 x2 x3) m := by
  obtain ⟨n, c, k, t, h⟩ := h
  have hp := h.2.1.1
  have hn := h.1.1.1
  have hc := hp.1
  have h3 : ∀ M : hM, (∀ a j, 96 ≤ a → gI M a j = gI m a j) → gI (sI M 96 0 0) 96 3 = nI n := fun M z => by rw [gI_sn (by omega), z _ _ (by omega)]; exact h.1.1.2.1
  have h16 : ∀ M : hM, (∀ a j, 96 ≤ a → gI M a j = gI m a j) → gI (sI M 96 0 0) 96 16 = nI c := fun M z => by rw [gI_sn (by omega), z _ _ (by omega)]; exact hp.2.1
  have id1 : ∀ a j, 96 ≤ a → gI m a j = gI m a j := fun _ _ _ => rfl
  unfold okC f_X10_worst f_X11_worst
  by_cases c1 : hIn x1 n
  rotate_left
  · refine ⟨-1, m, sI m 96 0 0, ?_, ?_, h.th rfl rfl⟩
    · rw [cx_has fu x1 m (by omega) h.1.2.1, hBd_some, if_neg c1, if_pos rfl]
    · rw [hLet_n, rx_isOffice fu x1 _ (by omega) (h3 m id1), hBd_some, if_neg c1, if_pos rfl]
  by_cases c2 : hIn x2 100
  rotate_left
  · refine ⟨-1, m, sI m 96 0 0, ?_, ?_, h.th rfl rfl⟩
    · rw [cx_has fu x1 m (by omega) h.1.2.1, hBd_some, if_pos c1, if_neg (by decide), cx_isDay, hBd_some, if_neg c2, if_pos rfl]
    · rw [hLet_n, rx_isOffice fu x1 _ (by omega) (h3 m id1), hBd_some, if_pos c1, if_neg (by decide), rx_isDay, hBd_some, if_neg c2, if_pos rfl]
  by_cases c3 : x2.toInt ≤ x3.toInt ∧ x3.toInt ≤ 99
  rotate_left
  · refine ⟨-1, m, sI m 96 0 0, ?_, ?_, h.th rfl rfl⟩
    · rw [cx_has fu x1 m (by omega) h.1.2.1, hBd_some, if_pos c1, if_neg (by decide), cx_isDay, hBd_some, if_pos c2, if_neg (by decide), cx_isDay, hBd_some]
      by_cases y : hIn x3 100
      · rw [if_pos y, if_neg (by decide), if_pos (by rw [i_lt]; have := y.2; omega)]
      · rw [if_neg y, if_pos rfl]
    · rw [hLet_n, rx_isOffice fu x1 _ (by omega) (h3 m id1), hBd_some, if_pos c1, if_neg (by decide), rx_isDay, hBd_some, if_pos c2, if_neg (by decide), rx_inI, hBd_some, Int32.toInt_toInt64, if_neg (show ¬ (x2.toInt ≤ x3.toInt ∧ x3.toInt ≤ (99 : Int64).toInt) from c3), if_pos rfl]
  have c4 : hIn x3 100 := ⟨by have := c2.1; omega, by omega⟩
  have c5 : ¬ x3 < x2 := by rw [i_lt]; omega
  by_cases c0 : c = 0
  · refine ⟨-1, m, sI m 96 0 0, ?_, ?_, h.th rfl rfl⟩
    · rw [cx_has fu x1 m (by omega) h.1.2.1, hBd_some, if_pos c1, if_neg (by decide), cx_isDay, hBd_some, if_pos c2, if_neg (by decide), cx_isDay, hBd_some, if_pos c4, if_neg (by decide), if_neg c5, h.2.1.2.1.1, if_neg (fun z => z (by rw [c0]; rfl))]
    · rw [hLet_n, rx_isOffice fu x1 _ (by omega) (h3 m id1), hBd_some, if_pos c1, if_neg (by decide), rx_isDay, hBd_some, if_pos c2, if_neg (by decide), rx_inI, hBd_some, Int32.toInt_toInt64, if_pos (show (x2.toInt ≤ x3.toInt ∧ x3.toInt ≤ (99 : Int64).toInt) from c3), if_neg (by decide), h16 m id1, if_neg (fun z => z (by rw [c0]; rfl))]
  have nc : ¬ nI c = 0 := nI_ne0 (by omega) (by omega)
  obtain ⟨o, ho, rfl⟩ := hIn_of c1 (by omega)
  obtain ⟨f, hf, rfl⟩ := hIn_of c2 (by omega)
  obtain ⟨l, hl, rfl⟩ := hIn_of c4 (by omega)
  have hfl : f ≤ l := by
    have := c3.1
    rw [nI_toInt (by omega), nI_toInt (by omega)] at this
    omega
  obtain ⟨x, hx, hxe⟩ := h.now
  obtain ⟨m6, s1, s2, s3⟩ := cx_worst52 hfu hx hxe ho hl (f := f) fu 0 m (by omega) (by omega) h.cw
  have s1' : f_X10_worst_52 fu fu (nI o) (nI l) (-2) (-1) (nI f) m = _ := s1
  have k6 := PE_hi s3
  have h6 : IW m m6 n c k t := h.m6 s3 ⟨h.1.1, s2.1.2.1⟩ s2.2.2.2.1
  have A : ∀ M, (hBd (f_X0_has fu (nI o) m) fun y1 m2 => if y1 = 0 then some ((-1 : Int32), m2) else (hBd (f_X10_isDay fu (nI f) m2) fun y4 m5 => if y4 = 0 then some ((-1), m5) else (hBd (f_X10_isDay fu (nI l) m5) fun y7 m8 => if y7 = 0 then some ((-1), m8) else (if nI l < nI f then some ((-1), m8) else (if ¬ (gI m8 18 6) = 0 then f_X10_worst_52 fu fu (nI o) (nI l) (-2) (-1) (nI f) m8 else some ((-1), m8)))))) = M ↔ f_X10_worst_145 fu (wA (wst m n c x o (sFn m) f (l + 1 - f))) (wB (wst m n c x o (sFn m) f (l + 1 - f)) (-1)) m6 = M := fun M => by
    rw [cx_has fu _ m (by omega) h.1.2.1, hBd_some, if_pos c1, if_neg (by decide), cx_isDay, hBd_some, if_pos c2, if_neg (by decide), cx_isDay, hBd_some, if_pos c4, if_neg (by decide), if_neg c5, h.2.1.2.1.1, if_pos nc, s1']
  have B : ∀ M0 : hM, (∀ a j, 96 ≤ a → gI M0 a j = gI m a j) → ∃ p1, (∀ M, (hLet (sI M0 96 0 0) fun m1 => hBd (f_X11_isOffice fu (nI o) m1) fun y2 m3 => if y2 = 0 then some ((-1 : Int32), m3) else (hBd (f_X11_isDay fu (nI f) m3) fun y5 m6 => if y5 = 0 then some ((-1), m6) else (hBd (f_X11_in fu (Int32.toInt64 (nI l)) (Int32.toInt64 (nI f)) 99 m6) fun y8 m9 => if y8 = 0 then some ((-1), m9) else (if ¬ (gI m9 96 16) = 0 then f_X11_worst_52 fu fu (nI o) (nI l) (-2) 0 (nI f) m9 else some ((-1), m9))))) = M ↔ f_X11_worst_117 fu (wA (wst m n c x o (sFn m) f (l + 1 - f))) (wB (wst m n c x o (sFn m) f (l + 1 - f)) 0) p1 = M) ∧ fr P0S M0 p1 := fun M0 z => by
    obtain ⟨p1, u1, u2, u3⟩ := rx_worst52 hfu hx hxe ho hl (f := f) fu 0 (sI M0 96 0 0) (by omega) (by omega) (h.rw' z)
    have u1' : f_X11_worst_52 fu fu (nI o) (nI l) (-2) 0 (nI f) (sI M0 96 0 0) = _ := u1
    refine ⟨p1, fun M => ?_, fr.th.tr (fr.p0 u3)⟩
    rw [hLet_n, rx_isOffice fu _ _ (by omega) (h3 M0 z), hBd_some, if_pos c1, if_neg (by decide), rx_isDay, hBd_some, if_pos c2, if_neg (by decide), rx_inI, hBd_some, Int32.toInt_toInt64, if_pos (show ((nI f).toInt ≤ (nI l).toInt ∧ (nI l).toInt ≤ (99 : Int64).toInt) from c3), if_neg (by decide), h16 M0 z, if_pos nc, u1']
  cases hw : wst m n c x o (sFn m) f (l + 1 - f) with
  | none =>
    obtain ⟨p1, u1, u2⟩ := B m6 k6
    refine ⟨-2, m6, p1, (A _).mpr ?_, (u1 _).mpr ?_, IW.q1 h6 k6 s3.2.1 s3.2.2 u2 (fun a j z => P0S_ok z)⟩
    · rw [hw]; rfl
    · rw [hw]; rfl
  | some q =>
    obtain ⟨d', l'⟩ := q
    have hd' := wst_le hx _ d' l' hw
    obtain ⟨p1, u1, u2⟩ := B (setRow m6 67 66 1 [(nI l').toInt64]) (fun a j z => by rw [sr_In (by omega)]; exact k6 a j z)
    refine ⟨nI d', setRow m6 67 66 1 [(nI l').toInt64], setRow p1 97 96 1 [(nI l').toInt64], (A _).mpr ?_, (u1 _).mpr ?_, IW.q2 h6 k6 s3.2.1 s3.2.2 (by simp) u2 (fun a j z => P0S_ok z) rfl⟩
    · rw [hw]
      unfold f_X10_worst_145
      rw [if_neg (show ¬ wA (some (d', l')) = -2 from (nI_nm (show d' ≤ 2399 by omega)).1), cx_clear, hBd_some, cx_tell fu m6 (by simp), hBd_some]
      rfl
    · rw [hw]
      unfold f_X11_worst_117
      rw [if_neg (show ¬ wA (some (d', l')) < 0 from (nI_nm (show d' ≤ 2399 by omega)).2.2.1), hLet_n, sr_nil p1 97 96 1, rx_enters fu p1 (by simp), hBd_some]
      rfl
