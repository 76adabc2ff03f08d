/-! ===== an hour goes by, on both sides ===== -/
def rOk (v : hM) : Prop := gI v 117 0 = 0 ∨ ∃ (L : Nat) (mc : hM), 0 < L ∧ rRel v mc L
def wAll (v : hM) (c : Nat) (S : Nat → Int32) : wT := wkA v (rdyB v S c) (S 0).toNatClampNeg (S, fun _ => 0, 0, 0) c
noncomputable def clX (v : hM) (R : Int32) (h n c : Nat) (S : Nat → Int32) : Nat → Int32 := if gI v 117 0 = 0 then S else clA v R h n S c
noncomputable def pas (v : hM) (n c : Nat) (S : Nat → Int32) : Nat → Int32 := up (clX v (rdyB v S c) (S 0).toNatClampNeg n c (wAll v c S).1) 0 (nI ((S 0).toNatClampNeg + 1))
theorem wAll_inv {v : hM} {n c : Nat} {S : Nat → Int32} (hp : pRng v n c) (hI : sInv v S n c) : sInv v (wAll v c S).1 n c := wkA_inv hp hI c (Nat.le_refl c)
theorem wAll_0 {v : hM} {n c : Nat} {S : Nat → Int32} (hp : pRng v n c) : (wAll v c S).1 0 = S 0 := wkA_k (by omega) (by omega) c hp.1
theorem clX_inv {v : hM} {R : Int32} {h n c : Nat} {S : Nat → Int32} (hc : c ≤ 8) (hn : n ≤ 6) (hI : sInv v S n c) : sInv v (clX v R h n c S) n c := by
  unfold clX
  split
  · exact hI
  · exact clA_inv hc hn hI c (Nat.le_refl c)
theorem clX_0 {v : hM} {R : Int32} {h n c : Nat} {S : Nat → Int32} (hc : c ≤ 8) (hn : n ≤ 6) (hI : sInv v S n c) : clX v R h n c S 0 = S 0 := by
  unfold clX
  split
  · rfl
  · exact clA_k hc hn hI (by omega) c (Nat.le_refl c)
theorem sInv_now {v : hM} {n c : Nat} {S : Nat → Int32} {x : Int32} (hI : sInv v S n c) (hx : hIn x 2400) : sInv v (up S 0 x) n c := by
  refine ⟨fun p hp => ⟨?_, ?_⟩, ?_, ?_⟩
  · rw [up_n (by omega)]; exact (hI.1 p hp).1
  · rw [up_n (by omega)]; exact (hI.1 p hp).2
  · rw [up_n (by omega)]; exact hI.2.1
  · rw [up_s]; exact hx
theorem pas_inv {v : hM} {n c h : Nat} {S : Nat → Int32} (hn : n ≤ 6) (hp : pRng v n c) (hI : sInv v S n c) (h0 : S 0 = nI h) (hh : h < 2399) : sInv v (pas v n c S) n c ∧ pas v n c S 0 = nI (h + 1) := by
  unfold pas
  rw [h0, nI_clamp (show h < 2 ^ 31 by omega)]
  exact ⟨sInv_now (clX_inv hp.1 hn (wAll_inv hp hI)) (hIn_lt (by omega) (by omega)), up_s⟩
theorem rx_closesX {fu : Nat} (hfu : 300 ≤ fu) {v : hM} {n c : Nat} (hv : vRel v n) (hp : pRng v n c) (hk : rOk v) {S : Nat → Int32} (hI : sInv v S n c) {R : Int32} {h : Nat} (h0 : S 0 = nI h) (hh : h < 2399) {m : hM} (g : eqV v m) (hS : rS S m) (h34 : gI m 96 34 = R) :
    ∃ m', f_X11_closes fu m = some ((), m') ∧ rS (clX v R h n c S) m' ∧ fr (fun a _ => a = 114 ∨ a = 118) m m' := by
  have hc := hp.1
  unfold clX
  rcases hk with q | ⟨L, mc, hL, hr⟩
  · rw [if_pos q]
    refine ⟨m, ?_, hS, fr.rf⟩
    unfold f_X11_closes
    obtain ⟨f, rfl⟩ : ∃ f, fu = f + 1 := ⟨fu - 1, by omega⟩
    rw [hLet_n, f_X11_closes_9_s]
    unfold s_X11_closes_9
    rw [g 117 0 (by unfold envC; omega), q, if_pos (show (0 : Int32) ≤ 0 by decide)]
    split <;> rfl
  · have h40 := hr.1
    rw [if_neg (by rw [hr.2.1]; exact nI_ne0 hL (by omega))]
    exact rx_closes hfu hv hp hL hr hI h0 hh g hS h34
theorem rx_passes {fu : Nat} (hfu : 300 ≤ fu) {v : hM} {n c : Nat} (hv : vRel v n) (hp : pRng v n c) (hk : rOk v) {S : Nat → Int32} (hI : sInv v S n c) {h : Nat} (h0 : S 0 = nI h) (hh : h < 2399) {m : hM} (g : eqV v m) (hS : rS S m) :
    ∃ m', f_X11_passes fu m = some ((), m') ∧ rS (pas v n c S) m' ∧ fr PR m m' := by
  have hn := hv.1
  have hc := hp.1
  have ch : (nI h).toNatClampNeg = h := nI_clamp (by omega)
  obtain ⟨m1, r1, r2, r3⟩ := rx_works (show 100 ≤ fu by omega) hv hp hI g hS
  have w0 : (wAll v c S).1 0 = nI h := by rw [wAll_0 hp]; exact h0
  obtain ⟨m2, s1, s2, s3⟩ := rx_closesX hfu hv hp hk (wAll_inv hp hI) w0 hh (eqV_fr g r3) r2.1 r2.2.2.1
  unfold f_X11_passes
  rw [r1, hBd_some, s1, hBd_some, hLet_n, s2 0 (by omega), clX_0 hc hn (wAll_inv hp hI), w0, nI_1]
  refine ⟨_, rfl, ?_, (r3.tr (s3.mono (fun a j z => by unfold PR; omega))).si (Or.inl rfl)⟩
  unfold pas
  rw [h0, ch]
  exact s2.u
theorem clA_no {v : hM} {R : Int32} {h n c : Nat} {S : Nat → Int32} (hn : n ≤ 6) (hI : sInv v S n c) (hq : ∀ o, o < n → ¬ (opn v o (nI h) = 1 ∧ opn v o (nI (h + 1)) = 0)) : ∀ k, k ≤ c → clA v R h n S k = S
  | 0, _ => rfl
  | k + 1, hk => by
    rw [clA, clA_no hn hI hq k (by omega), cl1_no]
    intro z
    obtain ⟨o, ho, hoe⟩ := hIn_of (hI.1 k (by omega)).1 (by omega)
    have z3 := z.2.2
    rw [hoe, nI_clamp (show o < 2 ^ 31 by omega)] at z3
    exact hq o ho z3
theorem cx_hourGoesBy {fu : Nat} (hfu : 300 ≤ fu) {v m : hM} {n c s : Nat} (hs : s ∈ stL) (he : cEnv v m n c) {S : Nat → Int32} (hI : sInv v S n c) {h : Nat} (h0 : S 0 = nI h) (hh : h < 2399) (hR : sRel S m s c) :
    ∃ m', f_X8_hourGoesBy fu s m = some ((), m') ∧ sRel (pas v n c S) m' s c ∧ (∀ o, o < n → gI m' 33 o = (wAll v c S).2.1 o) ∧ gI m' 32 5 = (wAll v c S).2.2.1 ∧ fr (PC s) m m' := by
  have hsr := st_rng hs
  have hv := he.1
  have hn := hv.1
  have hp := he.2.2.1
  have hc := hp.1
  have ch : (nI h).toNatClampNeg = h := nI_clamp (by omega)
  have ch1 : (nI (h + 1)).toNatClampNeg = h + 1 := nI_clamp (by omega)
  have w0 : (wAll v c S).1 0 = nI h := by rw [wAll_0 hp]; exact h0
  have hwi := wAll_inv hp hI
  have hX : ∀ o, o < n → bt (gI m 4 h) o = decide (opn v o (nI h) = 1) := fun o ho => (he.2.1.2.2.2.1 o ho).2.1 h (by omega)
  have hX1 : ∀ o, o < n → bt (gI m 4 (h + 1)) o = decide (opn v o (nI (h + 1)) = 1) := fun o ho => (he.2.1.2.2.2.1 o ho).2.1 (h + 1) (by omega)
  have hx3 : ∀ o, o < n → bt (gI m 4 h &&& (gI m 4 (h + 1) ^^^ (-1))) o = (decide (opn v o (nI h) = 1) && !decide (opn v o (nI (h + 1)) = 1)) := fun o ho => by
    rw [b_and, b_not (by omega), hX o ho, hX1 o ho]
  obtain ⟨m1, r1, r2, r3⟩ := cx_workReady (show 100 ≤ fu by omega) hs he (R := rdyB v S c) (X := gI m 4 h) (show h < 2400 by omega) h0 hI hX hR
  have e0 : wkA v (rdyB v S c) h (S, fun _ => 0, 0, 0) c = wAll v c S := by unfold wAll; rw [h0, ch]
  rw [e0] at r2
  obtain ⟨q1, q2, q3⟩ := r2
  have he1 := cEnv_fr hs he r3
  have last : ∀ (S' : Nat → Int32) (m2 : hM), sRel S' m2 s c → S' 0 = nI h → fr (PH s) m1 m2 → pas v n c S = up S' 0 (nI (h + 1)) →
      ∃ m', f_X8_hourGoesBy_101 fu s m2 = some ((), m') ∧ sRel (pas v n c S) m' s c ∧ (∀ o, o < n → gI m' 33 o = (wAll v c S).2.1 o) ∧ gI m' 32 5 = (wAll v c S).2.2.1 ∧ fr (PC s) m m' := by
    intro S' m2 z1 z2 z3 z4
    unfold f_X8_hourGoesBy_101
    rw [hLet_n, z1.2.1, z2, nI_1, z4]
    refine ⟨_, rfl, sRel_now z1 _, fun o ho => ?_, ?_, (r3.tr (z3.mono (fun a j z => PH_PC z))).si (Or.inl ⟨by omega, by omega⟩)⟩
    · rw [gI_sn (by omega), z3.1 _ _ (by unfold PH; omega)]; exact q2 o ho
    · rw [gI_sn (by omega), z3.1 _ _ (by unfold PH; omega)]; exact q3
  have pasE : pas v n c S = up (clX v (rdyB v S c) h n c (wAll v c S).1) 0 (nI (h + 1)) := by unfold pas; rw [h0, ch]
  unfold f_X8_hourGoesBy
  rw [if_pos hs, hR.2.1, h0, if_neg (nI_pos (by omega)), if_pos (show nI h < 2399 from nI_lt (b := 2399) hh (by omega)), cx_readyPieces (show 100 ≤ fu by omega) hs hp he.2.2.2.1 hR, hBd_some, hR.2.1, h0, if_pos (hIn_lt (show h < 2560 by omega) (by omega)), hLet_n, ch, nI_1, if_pos (hIn_lt (show h + 1 < 2560 by omega) (by omega)), hLet_n, ch1, r1, hBd_some]
  by_cases c0 : gI m 4 h &&& (gI m 4 (h + 1) ^^^ (-1)) = 0
  · rw [if_pos c0]
    refine last _ m1 q1 w0 fr.rf ?_
    rw [pasE]
    unfold clX
    split
    · rfl
    · rw [clA_no hn hwi (fun o ho z => ?_) c (Nat.le_refl c)]
      have := hx3 o ho
      rw [c0, b_0, z.1, z.2] at this
      exact absurd this (by decide)
  · rw [if_neg c0]
    rcases he1.2.2.2.2.1 with ⟨y1, y2⟩ | ⟨y1, ⟨L, hL, y2⟩, y3⟩
    · have pe2 : pas v n c S = up (wAll v c S).1 0 (nI (h + 1)) := by rw [pasE]; unfold clX; rw [if_pos y1]
      rcases y2 with y2 | y2
      · rw [if_pos y2]
        exact last _ m1 q1 w0 fr.rf pe2
      · rw [y2, if_pos (show (0 : Int32) ≤ 0 by decide)]
        obtain ⟨m', t1⟩ := last _ m1 q1 w0 fr.rf pe2
        refine ⟨m', ?_, t1.2⟩
        split
        · exact t1.1
        · exact t1.1
    · have h40 := y2.1
      rw [if_neg (by rw [y1]; decide), y2.2.2.1, if_neg (nI_nle hL (by omega))]
      have hx2 : ∀ p, p < c → bt (rdyB v S c &&& (gI m1 s 1 ^^^ (-1))) p = (bt (rdyB v S c) p && !decide (0 ≤ ((wAll v c S).1 (35 + p)).toInt)) := fun p hp' => by
        rw [b_and, b_not (by omega), (q1.2.2.2.2.1 p hp').2.2.2.2.2.2.2.2]
      obtain ⟨m2, t1, t2, t3⟩ := cx_handReady hfu hs hL he1 y2 y3 hwi w0 hh hx2 hx3 q1
      rw [t1, hBd_some]
      refine last _ m2 t2 (by rw [clA_k hc hn hwi (by omega) c (Nat.le_refl c)]; exact w0) t3 ?_
      rw [pasE]; unfold clX; rw [if_neg (by rw [y2.2.1]; exact nI_ne0 hL (by omega))]
