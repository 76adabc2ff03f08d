/-! dark, in the reference -/
def rM (w : Nat → Nat) : Nat → Int32
  | 0 => -1
  | k + 1 => nI (dM w (k + 1))
def rV (w : Nat → Nat) (h : Nat) : Nat → Int32
  | 0 => 0
  | k + 1 => nI (dW w h (k + 1))
theorem dD_F {w : Nat → Nat} {h : Nat} (hh : h < 2400) (k : Nat) (hk : k ≤ 24) : (0 ≤ (dF w h k).toInt) ↔ dD w k ≠ 0 := by
  induction k with
  | zero => simp [dF, dD]
  | succ k ih =>
    have ih := ih (by omega)
    rw [dF, dD]
    by_cases c0 : w k = 0
    · by_cases c1 : dD w k = 0
      · rw [if_pos ⟨c0, c1⟩, if_pos c0, nI_toInt (by omega)]; omega
      · rw [if_neg (fun z => c1 z.2), if_pos c0, ih]; omega
    · rw [if_neg (fun z => c0 z.1), if_neg c0, ih]; omega
theorem rx_dark62 (fu : Nat) (K : Int32 → Int32 → Int32 → Int32 → Int32 → Int32 → Int32 → hM → Option (Int32 × hM)) {v M : hM} {n c h : Nat} (hn : n ≤ 6) (hc : c < 6) (g : eqV v M) (g3 : gI M 96 3 = nI n) (x2 x3 x4 x5 x6 : Int32) : ∀ (t k : Nat), k ≤ n → n - k < t →
    f_X11_dark_62 fu K t (nI c) x2 x3 x4 x5 x6 (nI h) (nI (cnt (fun o => bt (gI v 103 o) c && decide (opn v o (nI h) = 1)) k)) (nI k) M = f_X11_dark_115 fu K (nI c) x2 x3 x4 x5 x6 (nI h) (nI (wkN v n c h)) M := by
  intro t
  induction t with
  | zero => intro k h1 h2; omega
  | succ t ih =>
    intro k hk ht
    rw [f_X11_dark_62_s]
    unfold s_X11_dark_62 f_X11_dark_102 f_X11_dark_103
    rw [g3]
    by_cases q : nI n ≤ nI k
    · rw [if_pos q]
      rw [nI_leI (by omega) (by omega)] at q
      have : k = n := by omega
      subst this
      rfl
    · rw [if_neg q]
      rw [nI_leI (by omega) (by omega)] at q
      have e := ih (k + 1) (by omega) (by omega)
      rw [cnt] at e
      rw [if_pos (hIn_lt (show k < 6 by omega) (by omega)), nI_clamp (show k < 2 ^ 31 by omega), bd_has fu _ (show c < 32 by omega), bd_isOpen fu (by omega) _ g, g.a k (by omega) (by omega)]
      simp only [rx_flag, hBd_some, hLet_e]
      rw [nI_1]
      by_cases b1 : bt (gI v 103 k) c = true
      · rw [if_pos b1, if_neg (by decide)]
        by_cases b2 : opn v k (nI h) = 1
        · rw [b2, if_neg (by decide), if_neg (by decide), nI_1]
          rw [if_pos (by rw [b1, b2]; rfl)] at e
          exact e
        · have b3 : opn v k (nI h) = 0 := (opn_01 v k (nI h)).resolve_right b2
          rw [b3, if_pos rfl]; simp only [if_true]
          rw [if_neg (by rw [b1, b3]; decide)] at e
          rw [show ∀ x : Int32, x + 0 = x from fun x => by simp]; exact e
      · rw [if_neg b1, if_pos rfl]; simp only [if_true]
        rw [if_neg (by simp [b1])] at e
        rw [show ∀ x : Int32, x + 0 = x from fun x => by simp]; exact e
theorem rx_dark47 (fu : Nat) (hfu : 100 ≤ fu) {v M : hM} {n c h : Nat} (hn : n ≤ 6) (hc : c < 6) (hh : h < 2400) (g : eqV v M) (g3 : gI M 96 3 = nI n) : ∀ (t k : Nat), k ≤ 24 → 24 - k < t →
    f_X11_dark_47 fu t (nI c) (nI h) (nI (dD (fun i => wkN v n c (h + i)) k)) (dF (fun i => wkN v n c (h + i)) h k) (rM (fun i => wkN v n c (h + i)) k) (rV (fun i => wkN v n c (h + i)) h k) (nI (h + k)) M = some (nI (dD (fun i => wkN v n c (h + i)) 24), setRow M 97 96 1 (dkRow (fun i => wkN v n c (h + i)) h)) := by
  generalize hw : (fun i => wkN v n c (h + i)) = w
  have hwk : ∀ k, w k = wkN v n c (h + k) := fun k => by rw [← hw]
  have hw6 : ∀ k, w k ≤ 6 := fun k => by rw [hwk]; exact Nat.le_trans (cnt_le _ _) hn
  intro t
  induction t with
  | zero => intro k h1 h2; omega
  | succ t ih =>
    intro k hk ht
    have d1 := dD_le w k
    have d2 := dM_le hw6 k
    have d3 := hw6 k
    have d4 := dD_F (w := w) hh k hk
    rw [f_X11_dark_47_s]
    unfold s_X11_dark_47
    rw [show nI h + 24 = nI (h + 24) from nI_add h 24]
    by_cases q : nI (h + 24) ≤ nI (h + k)
    · rw [if_pos q]
      rw [nI_leI (by omega) (by omega)] at q
      have : k = 24 := by omega
      subst this
      unfold f_X11_dark_181 dkRow
      rw [hLet_n, sr_nil M 97, rx_enters fu M (by simp), hBd_some, rx_enters fu M (by simp), hBd_some, rx_enters fu M (by simp), hBd_some]
      rfl
    · rw [if_neg q]
      rw [nI_leI (by omega) (by omega)] at q
      rw [show (0 : Int32) = nI (cnt (fun o => bt (gI v 103 o) c && decide (opn v o (nI (h + k)) = 1)) 0) from rfl]
      rw [show f_X11_dark_62 fu (f_X11_dark_47 fu t) fu (nI c) (nI h) (nI (dD w k)) (dF w h k) (rM w k) (rV w h k) (nI (h + k)) (nI (cnt (fun o => bt (gI v 103 o) c && decide (opn v o (nI (h + k)) = 1)) 0)) (nI (cnt (fun o => bt (gI v 103 o) c && decide (opn v o (nI (h + k)) = 1)) 0)) M = _ from rx_dark62 fu (f_X11_dark_47 fu t) hn hc g g3 (nI h) (nI (dD w k)) (dF w h k) (rM w k) (rV w h k) fu 0 (by omega) (by omega)]
      rw [← hwk k]
      have e := ih (k + 1) (by omega) (by omega)
      have b0 : (rM w k).toInt < (w k : Int) ↔ (k = 0 ∨ dM w k < w k) := by
        cases k with
        | zero => exact ⟨fun _ => Or.inl rfl, fun _ => by show (-1 : Int) < _; omega⟩
        | succ k => simp only [rM]; rw [nI_toInt (by omega)]; omega
      have z0 : dM w 0 = 0 := rfl
      have last : f_X11_dark_148 fu (f_X11_dark_47 fu t) (nI c) (nI h) (nI (dD w (k + 1))) (rM w k) (rV w h k) (nI (h + k)) (nI (w k)) (dF w h (k + 1)) M = some (nI (dD w 24), setRow M 97 96 1 (dkRow w h)) := by
        unfold f_X11_dark_148 f_X11_dark_164
        simp only [e_max, hBd_some, hLet_e, nI_1]
        rw [rM, rV] at e
        by_cases c1 : rM w k < nI (w k)
        · have c2 : ¬ nI (w k) ≤ rM w k := by rw [i_le]; rw [i_lt] at c1; omega
          rw [if_neg c2, if_pos c1]
          rw [i_lt, nI_toInt (by omega), b0] at c1
          have a1 : dM w (k + 1) = w k := by
            rw [dM]
            split
            · rfl
            · rcases c1 with c1 | c1
              · subst c1; omega
              · omega
          have a2 : dW w h (k + 1) = h + k := by
            rw [dW]
            split
            · rfl
            · rcases c1 with c1 | c1
              · subst c1; rfl
              · omega
          rw [a1, a2] at e
          exact e
        · have c2 : nI (w k) ≤ rM w k := by rw [i_le]; rw [i_lt] at c1; omega
          rw [if_pos c2, if_neg c1]
          rw [i_lt, nI_toInt (by omega), b0] at c1
          have a1 : dM w (k + 1) = dM w k := by rw [dM, if_neg (by omega)]
          have a2 : dW w h (k + 1) = dW w h k := by rw [dW, if_neg (by omega)]
          rw [a1, a2] at e
          cases k with
          | zero => omega
          | succ k => exact e
      unfold f_X11_dark_115 f_X11_dark_126 f_X11_dark_146
      simp only [rx_flag, hBd_some, hLet_e]
      by_cases c0 : w k = 0
      · have a0 : dD w (k + 1) = dD w k + 1 := by rw [dD, if_pos c0]
        rw [if_neg (fun z => z (by rw [c0]; rfl)), if_neg (fun z => z (by rw [c0]; rfl)), if_neg (show ¬ (1 : Int32) = 0 by decide), nI_1, ← a0]
        by_cases c1 : dD w k = 0
        · rw [if_neg (by rw [i_le]; exact fun z => d4.mp z c1)]
          have a1 : dF w h (k + 1) = nI (h + k) := by rw [dF, if_pos ⟨c0, c1⟩]
          rw [a1] at last
          exact last
        · rw [if_pos (by rw [i_le]; exact d4.mpr c1)]
          have a1 : dF w h (k + 1) = dF w h k := by rw [dF, if_neg (fun z => c1 z.2)]
          rw [a1] at last
          exact last
      · have a0 : dD w (k + 1) = dD w k := by rw [dD, if_neg c0]; rfl
        have a1 : dF w h (k + 1) = dF w h k := by rw [dF, if_neg (fun z => c0 z.1)]
        rw [a0, a1] at last
        simp only [if_true]
        rw [if_pos (nI_ne (by omega) c0), if_pos (nI_ne (by omega) c0), show ∀ x : Int32, x + 0 = x from fun x => by simp]
        exact last
theorem ok_dark {fu : Nat} (hfu : 100 ≤ fu) {m : hM} (h : IV m) (x1 x2 : Int32) : okC (f_X10_dark fu x1 x2) (f_X11_dark fu x1 x2) m := by
  obtain ⟨n, c, k, t, h⟩ := h
  have hv := h.1.1
  have hn := hv.1
  have C := cx_dark hfu hv h.1.2 x1 x2
  have e0 : (0 : Int32).toInt = 0 := rfl
  have q0 : (0 : Int64).toInt = 0 := rfl
  have q5 : (5 : Int64).toInt = 5 := rfl
  have g3 : ∀ M : hM, gI M 96 3 = gI m 96 3 → gI (sI M 96 0 0) 96 3 = nI n := fun M z => by rw [gI_sn (by omega), z]; exact hv.2.1
  by_cases q : dkOk x1 x2 n
  · refine ⟨_, _, _, C.2 q, ?_, h.rowq (xs := dkRow (fun i => wkN m n x1.toNatClampNeg (x2.toNatClampNeg + i)) x2.toNatClampNeg) (by simp [dkRow])⟩
    obtain ⟨q1, q2, q3⟩ := q
    unfold f_X11_dark
    rw [hLet_n, rx_inI, hBd_some, if_pos (show (0 : Int64).toInt ≤ x1.toInt ∧ x1.toInt ≤ (5 : Int64).toInt from ⟨by rw [q0]; exact q1.1, by rw [q5]; have := q1.2; omega⟩), if_neg (by decide), rx_isHour, hBd_some, if_pos q2, if_neg (by decide), g3 (setRow m 67 66 1 (dkRow (fun i => wkN m n x1.toNatClampNeg (x2.toNatClampNeg + i)) x2.toNatClampNeg)) rfl, if_pos (nI_ne (by omega) q3)]
    obtain ⟨j, hj, rfl⟩ := hIn_of q1 (by omega)
    obtain ⟨x, hx, rfl⟩ := hIn_of q2 (by omega)
    rw [nI_clamp (show j < 2 ^ 31 by omega), nI_clamp (show x < 2 ^ 31 by omega)]
    have gg : ∀ xs, eqV m (sI (setRow m 67 66 1 xs) 96 0 0) := fun xs => eqV_th (fun a j z => by rw [sr_I, if_neg (by unfold envC at z; omega)])
    exact rx_dark47 fu hfu (v := m) hn hj hx (gg _) (g3 (setRow m 67 66 1 (dkRow (fun i => wkN m n j (x + i)) x)) rfl) fu 0 (by omega) (by omega)
  · refine ⟨_, _, _, C.1 q, ?_, h.th rfl rfl⟩
    unfold f_X11_dark
    rw [hLet_n, rx_inI, hBd_some]
    by_cases q1 : hIn x1 6
    · rw [if_pos (show (0 : Int64).toInt ≤ x1.toInt ∧ x1.toInt ≤ (5 : Int64).toInt from ⟨by rw [q0]; exact q1.1, by rw [q5]; have := q1.2; omega⟩), if_neg (by decide), rx_isHour, hBd_some]
      by_cases q2 : hIn x2 2400
      · rw [if_pos q2, if_neg (by decide), g3 _ rfl]
        by_cases q3 : n = 0
        · rw [if_neg (fun z => z (by rw [q3]; rfl))]
        · exact absurd ⟨q1, q2, q3⟩ q
      · rw [if_neg q2, if_pos rfl]
    · rw [if_neg (show ¬ ((0 : Int64).toInt ≤ x1.toInt ∧ x1.toInt ≤ (5 : Int64).toInt) from fun z => q1 ⟨by have := z.1; rw [q0] at this; exact this, by have := z.2; rw [q5] at this; omega⟩), if_pos rfl]
