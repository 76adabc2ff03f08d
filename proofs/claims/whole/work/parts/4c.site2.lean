/-! ===== site as a whole call ===== -/
def jnk (n a j : Nat) : Prop := (98 ≤ a ∧ a ≤ 105 ∧ j = n) ∨ (a = 106 ∧ 100 * n ≤ j ∧ j < 100 * n + 100) ∨ (a = 107 ∧ j < 36 ∧ (j / 6 = n ∨ j % 6 = n))
def vJn (v v1 : hM) (n : Nat) : Prop := ∀ a j, envC a j → ¬ jnk n a j → gI v1 a j = gI v a j
theorem vSi_j {v : hM} {n z a j : Nat} {l pe cr w : Int32} (hn : n < 6) (h : ¬ jnk n a j) (h2 : ¬ (a = 96 ∧ j = 3)) : gI (vSi v n z l pe cr w) a j = gI v a j := by
  unfold jnk at h
  unfold vSi
  by_cases e : a = 107
  · subst e
    rw [sK_7, if_neg (by rintro ⟨o, ho, hq⟩; omega), vOpen_g]
    simp only [show ¬ (107 = 98 ∧ j = n) by omega, show ¬ (107 = 99 ∧ j = n) by omega, show ¬ (107 = 100 ∧ j = n) by omega, show ¬ (107 = 101 ∧ j = n) by omega, show ¬ (107 = 102 ∧ j = n) by omega, show ¬ (107 = 103 ∧ j = n) by omega, show ¬ (107 = 104 ∧ j = n) by omega, show ¬ (107 = 105 ∧ j = n) by omega, show ¬ (107 = 106 ∧ 100 * n ≤ j ∧ j < 100 * n + 100) by omega, show ¬ (107 = 96 ∧ j = 3) by omega, if_false]
    rw [if_neg (by omega), if_neg (fun y => h (Or.inr (Or.inr ⟨rfl, y.2⟩)))]
  · rw [sK_o e, vOpen_g]
    simp only [show ¬ (a = 98 ∧ j = n) by omega, show ¬ (a = 99 ∧ j = n) by omega, show ¬ (a = 100 ∧ j = n) by omega, show ¬ (a = 101 ∧ j = n) by omega, show ¬ (a = 102 ∧ j = n) by omega, show ¬ (a = 103 ∧ j = n) by omega, show ¬ (a = 104 ∧ j = n) by omega, show ¬ (a = 105 ∧ j = n) by omega, show ¬ (a = 106 ∧ 100 * n ≤ j ∧ j < 100 * n + 100) by omega, show ¬ (a = 107 ∧ j = 6 * n + n) by omega, show ¬ (a = 107 ∧ (j < 36 ∧ (j / 6 = n ∨ j % 6 = n))) by omega, h2, if_false]
theorem vOpen_jj {v v1 : hM} {n a j : Nat} {z f l p pe c : Int32} (h : ¬ jnk n a j → ¬ (a = 96 ∧ j = 3) → gI v1 a j = gI v a j) : gI (vOpen v1 n z f l p pe c) a j = gI (vOpen v n z f l p pe c) a j := by
  rw [vOpen_g, vOpen_g]
  by_cases q1 : a = 98 ∧ j = n; · rw [if_pos q1, if_pos q1]
  rw [if_neg q1, if_neg q1]
  by_cases q2 : a = 99 ∧ j = n; · rw [if_pos q2, if_pos q2]
  rw [if_neg q2, if_neg q2]
  by_cases q3 : a = 100 ∧ j = n; · rw [if_pos q3, if_pos q3]
  rw [if_neg q3, if_neg q3]
  by_cases q4 : a = 101 ∧ j = n; · rw [if_pos q4, if_pos q4]
  rw [if_neg q4, if_neg q4]
  by_cases q5 : a = 102 ∧ j = n; · rw [if_pos q5, if_pos q5]
  rw [if_neg q5, if_neg q5]
  by_cases q6 : a = 103 ∧ j = n; · rw [if_pos q6, if_pos q6]
  rw [if_neg q6, if_neg q6]
  by_cases q7 : a = 104 ∧ j = n; · rw [if_pos q7, if_pos q7]
  rw [if_neg q7, if_neg q7]
  by_cases q8 : a = 105 ∧ j = n; · rw [if_pos q8, if_pos q8]
  rw [if_neg q8, if_neg q8]
  by_cases q9 : a = 106 ∧ 100 * n ≤ j ∧ j < 100 * n + 100; · rw [if_pos q9, if_pos q9]
  rw [if_neg q9, if_neg q9]
  by_cases q10 : a = 107 ∧ j = 6 * n + n; · rw [if_pos q10, if_pos q10]
  rw [if_neg q10, if_neg q10]
  by_cases q11 : a = 107 ∧ (j < 36 ∧ (j / 6 = n ∨ j % 6 = n)); · rw [if_pos q11, if_pos q11]
  rw [if_neg q11, if_neg q11]
  by_cases q12 : a = 96 ∧ j = 3; · rw [if_pos q12, if_pos q12]
  rw [if_neg q12, if_neg q12]
  exact h (by unfold jnk; omega) q12
theorem vRel_less {u : hM} {n : Nat} (h : vRel u (n + 1)) : vRel (sI u 96 3 (nI n)) n := by
  refine ⟨by have := h.1; omega, gI_ss _ _ _ _, fun o ho => ?_, fun a b ha hb => by simp (disch := omega) only [gI_sn]; exact h.2.2.2.1 a b (by omega) (by omega), fun a ha => by simp (disch := omega) only [gI_sn]; exact h.2.2.2.2.1 a (by omega), by rw [gI_sn (by omega)]; exact h.2.2.2.2.2.1, by rw [gI_sn (by omega)]; exact h.2.2.2.2.2.2⟩
  have := h.2.2.1 o (by omega)
  unfold oRng at this ⊢
  simp (disch := omega) only [gI_sn]; exact this
theorem eRel_j {v v1 F : hM} {n : Nat} (hn : n < 6) (h : eRel v F n) (g : vJn v v1 n) : eRel v1 F n := by
  have e : ∀ a j, envC a j → ¬ jnk n a j → gI v1 a j = gI v a j := g
  have ho : ∀ o, o < n → (∀ j, j < 8 → gI v1 (98 + j) o = gI v (98 + j) o) ∧ ∀ d, d < 100 → gI v1 106 (100 * o + d) = gI v 106 (100 * o + d) := fun o ho => ⟨fun j hj => e _ _ (by unfold envC; omega) (by unfold jnk; omega), fun d hd => e _ _ (by unfold envC; omega) (by unfold jnk; omega)⟩
  refine ⟨h.1, by rw [e _ _ (by unfold envC; omega) (by unfold jnk; omega)]; exact h.2.1, by rw [e _ _ (by unfold envC; omega) (by unfold jnk; omega)]; exact h.2.2.1, fun o h1 => ?_, h.2.2.2.2.1, fun a b ha hb => by rw [e _ _ (by unfold envC; omega) (by unfold jnk; omega)]; exact h.2.2.2.2.2.1 a b ha hb, h.2.2.2.2.2.2⟩
  obtain ⟨a1, a2, a3⟩ := h.2.2.2.1 o h1
  have op : ∀ x, opn v1 o x = opn v o x := fun x => opn_congr (ho o h1).1 (ho o h1).2 x
  exact ⟨⟨fun j hj => by rw [(ho o h1).1 j hj]; exact a1.1 j hj, fun d hd => by rw [(ho o h1).2 d hd]; exact a1.2 d hd⟩, wRel_cg a2 op, aRel_cg a3 op⟩
/-- the best zone so far and its hour -/
noncomputable def siB (v : hM) (n c x : Nat) (S : Nat → Int32) (l pe cr w : Int32) : Nat → Option (Nat × Nat)
  | 0 => none
  | z + 1 => match gK (vSi v n z l pe cr w) (n + 1) c (2399 - x) (begR (vSi v n z l pe cr w) (nI x) c S) with
    | none => siB v n c x S l pe cr w z
    | some e => (match siB v n c x S l pe cr w z with | none => some (z, x + e) | some (z', h') => if x + e < h' then some (z, x + e) else some (z', h'))
theorem siB_le {v : hM} {n c x : Nat} {S : Nat → Int32} {l pe cr w : Int32} (hx : x < 2400) (hc : c ≤ 8) (h0 : 0 < c) : ∀ r z h, siB v n c x S l pe cr w r = some (z, h) → z < r ∧ h ≤ 2399 ∧ x < h
  | 0, z, h, q => by cases q
  | r + 1, z, h, q => by
    rw [siB] at q
    have ih := siB_le (v := v) (n := n) (c := c) (S := S) (l := l) (pe := pe) (cr := cr) (w := w) hx hc h0 r
    cases hg : gK (vSi v n r l pe cr w) (n + 1) c (2399 - x) (begR (vSi v n r l pe cr w) (nI x) c S) with
    | none => rw [hg] at q; have := ih z h q; omega
    | some e =>
      have he := gK_le _ _ _ hg
      have hp := gK_pos (beg_not hc h0 S) hg
      rw [hg] at q
      cases hw : siB v n c x S l pe cr w r with
      | none => rw [hw] at q; cases q; omega
      | some y =>
        obtain ⟨z', h'⟩ := y
        have := ih z' h' hw
        rw [hw] at q
        simp only [] at q
        split at q
        · cases q; omega
        · cases q; omega
def KS (v M : hM) (n c : Nat) (w : Int32) (S : Nat → Int32) : Prop := sE v M n w ∧ ∃ (u m' : hM) (nu : Nat), CW u m' nu c S ∧ nu ≤ n + 1 ∧ (∀ a j, envC a j → ¬ erV a j → gI u a j = gI v a j) ∧ ∀ a j, 18 ≤ a → a ≠ 45 → gI M a j = gI m' a j
theorem cx_site122 {fu : Nat} (hfu : 3000 ≤ fu) {v : hM} {n c x : Nat} {S : Nat → Int32} {l pc w : Int32} (x5 : Int32) (hv : vRel v n) (hn : n < 6) (hx : x < 2400) (h0 : 0 < c) (hc : c ≤ 8) (hl : 1 ≤ l.toInt ∧ l.toInt ≤ 16) (hpc : 64 ≤ pc.toInt ∧ pc.toInt < 640) (hpc2 : pc.toInt % 64 ≠ 0) (hw : 0 ≤ w.toInt ∧ w.toInt ≤ 9) :
    ∀ (t r : Nat) (M : hM), r ≤ 24 → 24 - r < t → KS v M n c w S →
    ∃ M', f_X10_site_122 fu t l pc (nI x) x5 (nI n) (wA (siB v n c x S l (nI (pc.toNatClampNeg / 64)) (nI (pc.toNatClampNeg % 64)) w r)) (wB (siB v n c x S l (nI (pc.toNatClampNeg / 64)) (nI (pc.toNatClampNeg % 64)) w r) 2400) (nI r) M = f_X10_site_206 fu x5 (nI n) (wA (siB v n c x S l (nI (pc.toNatClampNeg / 64)) (nI (pc.toNatClampNeg % 64)) w 24)) (wB (siB v n c x S l (nI (pc.toNatClampNeg / 64)) (nI (pc.toNatClampNeg % 64)) w 24) 2400) M' ∧ KS v M' n c w S ∧ fr PE M M' := by
  have t4 := (st_num (x4 := pc) (by omega)).2.2.2.1
  generalize hP : nI (pc.toNatClampNeg / 64) = pe
  generalize hC : nI (pc.toNatClampNeg % 64) = cr
  have hpe : 1 ≤ pe.toInt ∧ pe.toInt ≤ 9 := by rw [← hP, nI_toInt (by omega)]; omega
  have hcr : 1 ≤ cr.toInt ∧ cr.toInt ≤ 63 := by rw [← hC, nI_toInt (by omega)]; omega
  intro t
  induction t with
  | zero => intro r M h1 h2; omega
  | succ t ih =>
    intro r M hr ht ⟨hE, u, m', nu, hu, hnu, hgu, hfu'⟩
    rw [f_X10_site_122_s]
    unfold s_X10_site_122
    by_cases q : nI 24 ≤ nI r
    · rw [if_pos (show (24 : Int32) ≤ nI r from q)]
      rw [nI_leI (by omega) (by omega)] at q
      have : r = 24 := by omega
      subst this
      exact ⟨M, rfl, ⟨hE, u, m', nu, hu, hnu, hgu, hfu'⟩, fr.rf⟩
    · rw [if_neg (show ¬ (24 : Int32) ≤ nI r from q)]
      rw [nI_leI (by omega) (by omega)] at q
      obtain ⟨M1, M2, a1, a2, a3, a4, a5⟩ := sE_open hfu (l := l) hn (show r < 24 by omega) hpc hE
      rw [hP, hC] at a3
      have hvS : vRel (vSi v n r l pe cr w) (n + 1) := sK_v (vRel_open hv hn (by rw [nI_toInt (by omega)]; omega) (by decide) hl (by decide) hpe hcr) hw n (Nat.le_refl n)
      have w2 : CW (vSi v n r l pe cr w) M2 (n + 1) c S := hu.earth hnu ⟨hvS, a3⟩ (fun a j z1 z2 => by rw [vSi_k (by unfold erV at z2; omega) (by unfold erV at z2; omega)]; exact (hgu a j z1 z2).symm) (fun a j z1 z2 => by rw [a5.hi a j z1 z2]; exact hfu' a j z1 z2)
      have L2 : ∃ L, L ≤ 2399 ∧ wB (siB v n c x S l pe cr w r) 2400 - 1 = nI L ∧ (∀ z h, siB v n c x S l pe cr w r = some (z, h) → L + 1 = h) ∧ (siB v n c x S l pe cr w r = none → L = 2399) := by
        cases hw' : siB v n c x S l pe cr w r with
        | none => exact ⟨2399, by omega, by decide, fun z h y => (by cases y), fun _ => rfl⟩
        | some y =>
          obtain ⟨z', h'⟩ := y
          have := siB_le hx hc h0 r z' h' hw'
          refine ⟨h' - 1, by omega, ?_, fun z h y => by cases y; omega, fun y => by cases y⟩
          show nI h' - 1 = nI (h' - 1)
          have := nI_pred (h' - 1)
          rwa [show h' - 1 + 1 = h' by omega] at this
      obtain ⟨L, hL, hLe, hL1, hL2⟩ := L2
      obtain ⟨M3, M4, b1, b2, b3, b4⟩ := w2.beg hfu hx (nI L) S
      have hcl := cEnd_L (v := vSi v n r l pe cr w) (n := n + 1) (c := c) (S := begR (vSi v n r l pe cr w) (nI x) c S) hx hL (beg_not hc h0 S)
      obtain ⟨M5, s1, s2, s3⟩ := ih (r + 1) M4 (by omega) (by omega) ⟨sE_fr hn a4 (fun a j z1 z2 => b4.1 a j (by unfold PC; omega)), _, M4, n + 1, b3, Nat.le_refl _, fun a j z1 z2 => vSi_k (by unfold erV at z2; omega) (by unfold erV at z2; omega), fun _ _ _ _ => rfl⟩
      rw [if_pos (hIn_lt hn (by omega)), nI_clamp (show n < 2 ^ 31 by omega), a1, hBd_some, a2, hBd_some, b1, hBd_some, if_pos rfl, hLe, b2, hBd_some]
      unfold f_X10_site_200
      simp only [hLet_n, nI_1]
      refine ⟨M5, ?_, s2, (fr.PEe a5).tr ((fr.PEw b4).tr s3)⟩
      rw [← s1]
      rw [siB]
      cases hg : gK (vSi v n r l pe cr w) (n + 1) c (2399 - x) (begR (vSi v n r l pe cr w) (nI x) c S) with
      | none => rw [hcl.2 hg, if_pos rfl]
      | some e =>
        have he := gK_le _ _ _ hg
        rw [hcl.1 e hg]
        cases hw' : siB v n c x S l pe cr w r with
        | none =>
          have := hL2 hw'
          subst this
          rw [if_pos (show x + e ≤ 2399 by omega), if_neg (nI_nm (show x + e ≤ 2399 by omega)).1]
          rfl
        | some y =>
          obtain ⟨z', h'⟩ := y
          have := hL1 z' h' hw'
          simp only []
          by_cases y : x + e ≤ L
          · rw [if_pos y, if_neg (nI_nm (show x + e ≤ 2399 by omega)).1, if_pos (by omega)]; rfl
          · rw [if_neg y, if_pos rfl, if_neg (by omega)]
/-! the reference's -/
theorem rx_site147 {fu : Nat} (ih0 : Int32 → Int32 → Int32 → Int32 → Int32 → Int32 → Int32 → Int32 → hM → Option (Int32 × hM)) {n : Nat} (hn : n < 6) (x1 x2 w x4 x6 x7 x8 x9 : Int32) {V : hM} : ∀ (t o : Nat) (m : hM), o ≤ n → n - o < t → gI m 96 3 = nI (n + 1) → (∀ j, gI m 107 j = gI (sK V n w o) 107 j) →
    ∃ m', f_X11_site_147 fu ih0 t x1 x2 w x4 x6 x7 x8 x9 (nI o) m = f_X11_site_177 fu ih0 x1 x2 w x4 x6 x7 x8 x9 m' ∧ (∀ j, gI m' 107 j = gI (sK V n w n) 107 j) ∧ fr (fun a j => a = 107 ∧ j < 36 ∧ (j / 6 = n ∨ j % 6 = n)) m m' := by
  intro t
  induction t with
  | zero => intro o m h1 h2; omega
  | succ t ih =>
    intro o m ho ht h3 h7
    rw [f_X11_site_147_s]
    unfold s_X11_site_147
    rw [h3, nI_1]
    by_cases q : nI (n + 1) ≤ nI (o + 1)
    · rw [if_pos q]
      rw [nI_leI (by omega) (by omega)] at q
      have : o = n := by omega
      subst this
      exact ⟨m, rfl, h7, fr.rf⟩
    · rw [if_neg q]
      rw [nI_leI (by omega) (by omega)] at q
      rw [nI_pred, rx_knows fu (show o < 6 by omega) hn, hBd_some, hLet_n]
      obtain ⟨m', r1, r2, r3⟩ := ih (o + 1) (kn m 107 o n w) (by omega) (by omega) (by rw [kn_g, if_neg (by omega), if_neg (by omega)]; exact h3) (fun j => by rw [sK, kn_g, kn_g, h7])
      refine ⟨m', r1, r2, ((fr.rf.si ?_).si ?_).tr r3⟩
      · exact ⟨rfl, by omega, Or.inr (by omega)⟩
      · exact ⟨rfl, by omega, Or.inl (by omega)⟩
def PJ (n a j : Nat) : Prop := P0S a j ∨ jnk n a j
theorem rx_site119 {fu : Nat} (hfu : 3000 ≤ fu) {v p0 : hM} {n c x : Nat} {S : Nat → Int32} {l pc w : Int32} (x6 : Int32) (hn : n < 6) (hx : x < 2400) (h0 : 0 < c) (hl : 1 ≤ l.toInt ∧ l.toInt ≤ 16) (hpc : 64 ≤ pc.toInt ∧ pc.toInt < 640) (hpc2 : pc.toInt % 64 ≠ 0) (hw : 0 ≤ w.toInt ∧ w.toInt ≤ 9) (hR : RW v p0 n c S) :
    ∀ (t r : Nat) (p : hM), r ≤ 24 → 24 - r < t → (∃ v1, vJn v v1 n ∧ RW v1 p n c S) →
    ∃ p', f_X11_site_119 fu t l pc w (nI x) x6 (wA (siB v n c x S l (nI (pc.toNatClampNeg / 64)) (nI (pc.toNatClampNeg % 64)) w r)) (wB (siB v n c x S l (nI (pc.toNatClampNeg / 64)) (nI (pc.toNatClampNeg % 64)) w r) 0) (nI r) p = f_X11_site_226 fu x6 (wA (siB v n c x S l (nI (pc.toNatClampNeg / 64)) (nI (pc.toNatClampNeg % 64)) w 24)) (wB (siB v n c x S l (nI (pc.toNatClampNeg / 64)) (nI (pc.toNatClampNeg % 64)) w 24) 0) p' ∧ (∃ v1, vJn v v1 n ∧ RW v1 p' n c S) ∧ fr (PJ n) p p' := by
  have hv := hR.1
  have hc := hR.2.1.1
  obtain ⟨q1, q2, _, t4, _⟩ := st_num (x4 := pc) (by omega)
  generalize hP : nI (pc.toNatClampNeg / 64) = pe at *
  generalize hC : nI (pc.toNatClampNeg % 64) = cr at *
  have hpe : 1 ≤ pe.toInt ∧ pe.toInt ≤ 9 := by rw [← hP, nI_toInt (by omega)]; omega
  have hcr : 1 ≤ cr.toInt ∧ cr.toInt ≤ 63 := by rw [← hC, nI_toInt (by omega)]; omega
  intro t
  induction t with
  | zero => intro r p h1 h2; omega
  | succ t ih =>
    intro r p hr ht ⟨v1, hj, h1⟩
    rw [f_X11_site_119_s]
    unfold s_X11_site_119
    by_cases q : nI 24 ≤ nI r
    · rw [if_pos (show (24 : Int32) ≤ nI r from q)]
      rw [nI_leI (by omega) (by omega)] at q
      have : r = 24 := by omega
      subst this
      exact ⟨p, rfl, ⟨v1, hj, h1⟩, fr.rf⟩
    · rw [if_neg (show ¬ (24 : Int32) ≤ nI r from q)]
      rw [nI_leI (by omega) (by omega)] at q
      have p3 : gI p 96 3 = nI n := by rw [h1.2.2.2.2.1 _ _ (by unfold envC; omega)]; exact h1.1.2.1
      rw [q2, q1, rx_opens (show 200 ≤ fu by omega) hn p3, hBd_some]
      have ev : ∀ a j, envC a j → gI (vOpen p n (nI r) 9 l 1 pe cr) a j = gI (vOpen v n (nI r) 9 l 1 pe cr) a j := fun a j z => vOpen_jj (fun y1 y2 => by rw [h1.2.2.2.2.1 a j z]; exact hj a j z y1)
      obtain ⟨p2, b1, b2, b3⟩ := rx_site147 (fu := fu) (f_X11_site_119 fu t) hn l pc w (nI x) x6 (wA (siB v n c x S l pe cr w r)) (wB (siB v n c x S l pe cr w r) 0) (nI r) (V := vOpen v n (nI r) 9 l 1 pe cr) fu 0 (vOpen p n (nI r) 9 l 1 pe cr) (by omega) (by omega) (by rw [vOpen_g]; simp) (fun j => ev 107 j (by unfold envC; omega))
      have b1' : f_X11_site_147 fu (f_X11_site_119 fu t) fu l pc w (nI x) x6 (wA (siB v n c x S l pe cr w r)) (wB (siB v n c x S l pe cr w r) 0) (nI r) 0 (vOpen p n (nI r) 9 l 1 pe cr) = _ := b1
      rw [b1']
      have hvS : vRel (vSi v n r l pe cr w) (n + 1) := sK_v (vRel_open hv hn (by rw [nI_toInt (by omega)]; omega) (by decide) hl (by decide) hpe hcr) hw n (Nat.le_refl n)
      have gS : ∀ a j, envC a j → ¬ erV a j → gI (vSi v n r l pe cr w) a j = gI v a j := fun a j z1 z2 => vSi_k (by unfold erV at z2; omega) (by unfold erV at z2; omega)
      have e2 : eqV (vSi v n r l pe cr w) p2 := fun a j z => by
        by_cases e : a = 107
        · subst e; exact b2 j
        · rw [b3.1 a j (fun y => e y.1), ev a j z]
          unfold vSi
          rw [sK_o e]
      have s2 : rS S p2 := fun j hj' => by rw [b3.1 _ _ (by omega), vOpen_n (by omega) (by omega)]; exact h1.2.2.2.2.2 j hj'
      have w2 : RW (vSi v n r l pe cr w) p2 (n + 1) c S := hR.earth (Nat.le_succ n) hvS gS e2 s2
      obtain ⟨p4, d1, d2, d3⟩ := w2.beg hfu hx
      have e43 : gI p4 96 3 = nI (n + 1) := by rw [d2.2.2.2.2.1 _ _ (by unfold envC; omega)]; exact hvS.2.1
      have hn' : nI (n + 1) - 1 = nI n := nI_pred n
      unfold f_X11_site_177 f_X11_site_212 f_X11_site_220
      simp only [hLet_n, nI_1]
      rw [d1, hBd_some, e43, hn']
      have v5 : vRel (sI (vSi v n r l pe cr w) 96 3 (nI n)) n := vRel_less hvS
      have e5 : eqV (sI (vSi v n r l pe cr w) 96 3 (nI n)) (sI p4 96 3 (nI n)) := fun a j z => by
        rw [gI_sI, gI_sI, d2.2.2.2.2.1 a j z]
      have w5 : RW (sI (vSi v n r l pe cr w) 96 3 (nI n)) (sI p4 96 3 (nI n)) n c S := hR.earth (Nat.le_refl n) v5 (fun a j z1 z2 => by rw [gI_sn (by unfold erV at z2; omega)]; exact gS a j z1 z2) e5 (fun j hj' => by rw [gI_sn (by omega)]; exact d2.2.2.2.2.2 j hj')
      have j5 : vJn v (sI (vSi v n r l pe cr w) 96 3 (nI n)) n := fun a j z1 z2 => by
        by_cases e : a = 96 ∧ j = 3
        · rw [e.1, e.2, gI_ss]; exact hv.2.1.symm
        · rw [gI_sn e, vSi_j hn z2 e]
      obtain ⟨p6, s1, s3, s4⟩ := ih (r + 1) _ (by omega) (by omega) ⟨_, j5, w5⟩
      have f5 : fr (PJ n) p (sI p4 96 3 (nI n)) := by
        refine ⟨fun a j z => ?_, fun a j => ?_, fun a j => ?_⟩
        · have z1 : ¬ P0S a j := fun y => z (Or.inl y)
          have z2 : ¬ jnk n a j := fun y => z (Or.inr y)
          by_cases e : a = 96 ∧ j = 3
          · rw [e.1, e.2, gI_ss]; exact p3.symm
          · rw [gI_sn e, d3.1 a j (fun y => z1 (Or.inl y)), b3.1 a j (fun y => z2 (Or.inr (Or.inr y)))]
            rw [vOpen_g]
            unfold jnk at z2
            simp only [show ¬ (a = 98 ∧ j = n) by omega, show ¬ (a = 99 ∧ j = n) by omega, show ¬ (a = 100 ∧ j = n) by omega, show ¬ (a = 101 ∧ j = n) by omega, show ¬ (a = 102 ∧ j = n) by omega, show ¬ (a = 103 ∧ j = n) by omega, show ¬ (a = 104 ∧ j = n) by omega, show ¬ (a = 105 ∧ j = n) by omega, show ¬ (a = 106 ∧ 100 * n ≤ j ∧ j < 100 * n + 100) by omega, show ¬ (a = 107 ∧ j = 6 * n + n) by omega, show ¬ (a = 107 ∧ (j < 36 ∧ (j / 6 = n ∨ j % 6 = n))) by omega, e, if_false]
        · show gL p4 a j = _
          rw [d3.2.1, b3.2.1]; rfl
        · show gR p4 a j = _
          rw [d3.2.2, b3.2.2]; rfl
      refine ⟨p6, ?_, s3, f5.tr s4⟩
      rw [← s1]
      rw [siB]
      have hcl := cEnd_g (v := vSi v n r l pe cr w) (n := n + 1) (c := c) (S := begR (vSi v n r l pe cr w) (nI x) c S) hx
      cases hg : gK (vSi v n r l pe cr w) (n + 1) c (2399 - x) (begR (vSi v n r l pe cr w) (nI x) c S) with
      | none => rw [(hcl.2 hg).2, if_pos (by decide)]
      | some e =>
        have he := gK_le _ _ _ hg
        rw [(hcl.1 e hg).2, if_neg (nI_nm (show x + e ≤ 2399 by omega)).2.2.1]
        cases hw' : siB v n c x S l pe cr w r with
        | none =>
          rw [if_pos (show wA none < 0 by unfold wA; decide)]
          rfl
        | some y =>
          obtain ⟨z', h'⟩ := y
          have hz := siB_le hx hc h0 r z' h' hw'
          rw [if_neg (show ¬ wA (some (z', h')) < 0 from nI_pos (show z' < 2 ^ 31 by omega))]
          simp only []
          by_cases y : x + e < h'
          · rw [if_neg (show ¬ wB (some (z', h')) 0 ≤ nI (x + e) from nI_ge y (by omega)), if_pos y]; rfl
          · rw [if_pos (show wB (some (z', h')) 0 ≤ nI (x + e) from nI_le (by omega) (by omega)), if_neg y]
