/-! ===== begin, go, hand, ends ===== -/
theorem IW.now {m : hM} {n c k t : Nat} (h : IW m m n c k t) : ∃ x, x < 2400 ∧ sFn m 0 = nI x := by
  obtain ⟨x, hx, hxe⟩ := hIn_of h.2.2.2.2.1.1.2.2 (by omega)
  exact ⟨x, hx, hxe⟩
theorem eqV_th {v m : hM} {x : Int32} (g : eqV v m) : eqV v (sI m 96 0 x) := fun a j z => by rw [gI_sn (by unfold envC at z; omega)]; exact g a j z
theorem PC_hi {s : Nat} {m m1 : hM} (hs : s ∈ stL) (f : fr (PC s) m m1) : ∀ a j, 96 ≤ a → gI m1 a j = gI m a j := fun a j z => f.1 a j (by have := st_rng hs; unfold PC; omega)
theorem eqV_hi {m m1 : hM} (f : ∀ a j, 96 ≤ a → gI m1 a j = gI m a j) : eqV m m1 := fun a j z => f a j (by unfold envC at z; omega)
theorem ok_begin {fu : Nat} (hfu : 3000 ≤ fu) {m : hM} (h : IV m) (x1 : Int32) : okC (f_X10_begin fu x1) (f_X11_begin fu x1) m := by
  obtain ⟨n, c, k, t, h⟩ := h
  have hp := h.2.1.1
  have hc := hp.1
  unfold okC f_X10_begin f_X11_begin
  by_cases q : hIn x1 2400
  · obtain ⟨x, hx, rfl⟩ := hIn_of q (by omega)
    have hs : 46 ∈ stL := by decide
    obtain ⟨m1, a1, a2, a3⟩ := cx_startAll (show 100 ≤ fu by omega) hs h.2.2.2.2.1.2.jk h.2.1.2.1.1 (nI x)
    have f1 : fr (PC 46) m m1 := a2.mono (fun a j z => Or.inl z)
    have k1 := PC_hi hs f1
    have hb := begR_P m (nI x) hc (sFn m)
    have hI : sInv m (begR m (nI x) c (sFn m)) n c := begP_inv hb (fun p hpc => (hp.2.2 p hpc).2.2.2.2.1) q
    have hR : sRel (begR m (nI x) c (sFn m)) m1 46 c := a3 _ ⟨hb.1, hb.2.1, hb.2.2.1, fun p hpc => by show _ = gI m 23 p ∧ _ = gI m 21 p ∧ _; rw [h.2.1.2.2 p hpc, (h.2.1.2.1.2 p hpc).2.2.1]; exact hb.2.2.2 p hpc⟩
    have hS1 : rS (sFn m) (sI m1 96 0 0) := fun j hj => by rw [gI_sn (by omega), k1 _ _ (by omega)]; rfl
    obtain ⟨m2, b1, b2, b3⟩ := rx_begins (show 100 ≤ fu by omega) hp (nI x) (eqV_th (eqV_hi k1)) hS1
    refine ⟨1, m1, m2, ?_, ?_, h.sc hI f1 hR (P := fun a j => a = 114 ∨ (a = 96 ∧ j = 0)) ((fr.rf.si (Or.inr ⟨rfl, rfl⟩)).tr (b3.mono (fun a j z => Or.inl z))) (fun a j z => ⟨by omega, fun y => by unfold rI at y; omega⟩) b2⟩
    · rw [cx_isHour, hBd_some, if_pos q, if_pos (by decide), a1, hBd_some]
    · rw [hLet_n, rx_isHour, hBd_some, if_pos q, if_pos (by decide), b1, hBd_some]
  · refine ⟨0, m, sI m 96 0 0, ?_, ?_, h.th rfl rfl⟩
    · rw [cx_isHour, hBd_some, if_neg q, if_neg (by decide)]
    · rw [hLet_n, rx_isHour, hBd_some, if_neg q, if_neg (by decide)]
theorem cx_go15 {fu : Nat} (hfu : 300 ≤ fu) {v : hM} {n c X : Nat} (hX : X ≤ 500) : ∀ (t i h : Nat) (S : Nat → Int32) (m : hM), i ≤ X → X - i < t → h < 2400 → S 0 = nI h → sInv v S n c → cEnv v m n c → sRel S m 46 c →
    ∃ m', f_X10_go_15 fu t (nI X) (nI i) m = some (nI (h + min (X - i) (2399 - h)), m') ∧ sRel (runS v n c (min (X - i) (2399 - h)) S) m' 46 c ∧ fr (PC 46) m m' := by
  have hs : 46 ∈ stL := by decide
  intro t
  induction t with
  | zero => intro i h S m h1 h2; omega
  | succ t ih =>
    intro i h S m hi ht hh h0 hI he hR
    have hn := he.1.1
    rw [f_X10_go_15_s]
    unfold s_X10_go_15
    rw [hR.2.1, h0]
    by_cases q1 : nI X ≤ nI i
    · rw [if_pos q1]
      rw [nI_leI (by omega) (by omega)] at q1
      rw [show min (X - i) (2399 - h) = 0 by omega]
      exact ⟨m, rfl, hR, fr.rf⟩
    rw [if_neg q1]
    rw [nI_leI (by omega) (by omega)] at q1
    by_cases q2 : nI 2399 ≤ nI h
    · rw [if_pos (show (2399 : Int32) ≤ nI h from q2)]
      rw [nI_leI (by omega) (by omega)] at q2
      rw [show min (X - i) (2399 - h) = 0 by omega]
      exact ⟨m, rfl, hR, fr.rf⟩
    rw [if_neg (show ¬ (2399 : Int32) ≤ nI h from q2)]
    rw [nI_leI (by omega) (by omega)] at q2
    obtain ⟨m1, r1, r2, _, _, r3⟩ := cx_hourGoesBy hfu hs he hI h0 (by omega) hR
    obtain ⟨i1, i2⟩ := pas_inv hn he.2.2.1 hI h0 (by omega)
    obtain ⟨m2, s1, s2, s3⟩ := ih (i + 1) (h + 1) _ m1 (by omega) (by omega) (by omega) i2 i1 (cEnv_fr hs he r3) r2
    rw [r1, hBd_some, nI_1, hLet_n, s1, show min (X - i) (2399 - h) = min (X - (i + 1)) (2399 - (h + 1)) + 1 by omega]
    refine ⟨m2, ?_, s2, r3.tr s3⟩
    rw [show h + 1 + min (X - (i + 1)) (2399 - (h + 1)) = h + (min (X - (i + 1)) (2399 - (h + 1)) + 1) by omega]
theorem rx_go21 {fu : Nat} (hfu : 300 ≤ fu) {v : hM} {n c X : Nat} (hX : X ≤ 500) (hv : vRel v n) (hp : pRng v n c) (hk : rOk v) : ∀ (t i h : Nat) (S : Nat → Int32) (m : hM), i ≤ X → X - i < t → h < 2400 → S 0 = nI h → sInv v S n c → eqV v m → rS S m →
    ∃ m', f_X11_go_21 fu t (nI X) (nI i) m = some (nI (h + min (X - i) (2399 - h)), m') ∧ rS (runS v n c (min (X - i) (2399 - h)) S) m' ∧ fr PR m m' := by
  have hn := hv.1
  intro t
  induction t with
  | zero => intro i h S m h1 h2; omega
  | succ t ih =>
    intro i h S m hi ht hh h0 hI g hS
    rw [f_X11_go_21_s]
    unfold s_X11_go_21 f_X11_go_48
    rw [hS 0 (by omega), h0]
    by_cases q1 : nI X ≤ nI i
    · rw [if_pos q1]
      rw [nI_leI (by omega) (by omega)] at q1
      rw [show min (X - i) (2399 - h) = 0 by omega]
      exact ⟨m, rfl, hS, fr.rf⟩
    rw [if_neg q1]
    rw [nI_leI (by omega) (by omega)] at q1
    by_cases q2 : nI 2399 ≤ nI h
    · rw [if_pos (show (2399 : Int32) ≤ nI h from q2)]
      rw [nI_leI (by omega) (by omega)] at q2
      rw [show min (X - i) (2399 - h) = 0 by omega]
      exact ⟨m, rfl, hS, fr.rf⟩
    rw [if_neg (show ¬ (2399 : Int32) ≤ nI h from q2)]
    rw [nI_leI (by omega) (by omega)] at q2
    obtain ⟨m1, r1, r2, r3⟩ := rx_passes hfu hv hp hk hI h0 (by omega) g hS
    obtain ⟨i1, i2⟩ := pas_inv hn hp hI h0 (by omega)
    obtain ⟨m2, s1, s2, s3⟩ := ih (i + 1) (h + 1) _ m1 (by omega) (by omega) (by omega) i2 i1 (eqV_fr g r3) r2
    rw [r1, hBd_some, nI_1, hLet_n, s1, show min (X - i) (2399 - h) = min (X - (i + 1)) (2399 - (h + 1)) + 1 by omega]
    refine ⟨m2, ?_, s2, r3.tr s3⟩
    rw [show h + 1 + min (X - (i + 1)) (2399 - (h + 1)) = h + (min (X - (i + 1)) (2399 - (h + 1)) + 1) by omega]
theorem PR_rI {a j : Nat} (h : PR a j) : 96 ≤ a ∧ (rI a j → a = 114) := ⟨by unfold PR at h; omega, fun y => by unfold PR at h; unfold rI at y; omega⟩
theorem ok_go {fu : Nat} (hfu : 3000 ≤ fu) {m : hM} (h : IV m) (x1 : Int32) : okC (f_X10_go fu x1) (f_X11_go fu x1) m := by
  obtain ⟨n, c, k, t, h⟩ := h
  have hp := h.2.1.1
  have hn := h.1.1.1
  have hs : 46 ∈ stL := by decide
  have e0 : (0 : Int32).toInt = 0 := rfl
  have e5 : (500 : Int32).toInt = 500 := rfl
  unfold okC f_X10_go f_X11_go
  by_cases q : 0 ≤ x1.toInt ∧ x1.toInt ≤ 500
  · obtain ⟨X, hX, rfl⟩ := nI_of (x := x1) (by rw [i_lt, e0]; omega)
    rw [nI_toInt hX] at q
    obtain ⟨x, hx, hxe⟩ := h.now
    obtain ⟨m1, r1, r2, r3⟩ := cx_go15 (show 300 ≤ fu by omega) (show X ≤ 500 by omega) fu 0 x (sFn m) m (by omega) (by omega) hx hxe h.2.2.2.2.1.1 h.env h.2.2.2.2.1.2
    have k1 := PC_hi hs r3
    obtain ⟨m2, s1, s2, s3⟩ := rx_go21 (show 300 ≤ fu by omega) (show X ≤ 500 by omega) h.1.1 hp h.rok fu 0 x (sFn m) (sI m1 96 0 0) (by omega) (by omega) hx hxe h.2.2.2.2.1.1 (eqV_th (eqV_hi k1)) (fun j hj => by rw [gI_sn (by omega), k1 _ _ (by omega)]; rfl)
    have hI := (run_inv hn hp (min (X - 0) (2399 - x)) (sFn m) x h.2.2.2.2.1.1 hxe (by omega)).1
    refine ⟨nI (x + min (X - 0) (2399 - x)), m1, m2, ?_, ?_, h.sc hI r3 r2 (P := fun a j => PR a j ∨ (a = 96 ∧ j = 0)) ((fr.rf.si (Or.inr ⟨rfl, rfl⟩)).tr (s3.mono (fun a j z => Or.inl z))) (fun a j z => ?_) s2⟩
    · rw [if_neg (nI_pos hX), if_pos (by rw [i_le, nI_toInt hX, e5]; omega)]
      exact r1
    · rw [hLet_n, rx_inI, hBd_some, if_pos (show (0 : Int64).toInt ≤ (nI X).toInt ∧ (nI X).toInt ≤ (500 : Int64).toInt by rw [nI_toInt hX]; exact q), if_pos (by decide)]
      exact s1
    · rcases z with z | z
      · exact PR_rI z
      · exact ⟨by omega, fun y => by unfold rI at y; omega⟩
  · refine ⟨-1, m, sI m 96 0 0, ?_, ?_, h.th rfl rfl⟩
    · by_cases c1 : x1 < 0
      · rw [if_pos c1]
      · rw [if_neg c1, if_neg (by rw [i_lt, e0] at c1; rw [i_le, e5]; omega)]
    · rw [hLet_n, rx_inI, hBd_some, if_neg (show ¬ ((0 : Int64).toInt ≤ x1.toInt ∧ x1.toInt ≤ (500 : Int64).toInt) from q), if_neg (by decide)]
theorem ok_hand {fu : Nat} (hfu : 3000 ≤ fu) {m : hM} (h : IV m) (x1 x2 : Int32) : okC (f_X10_hand fu x1 x2) (f_X11_hand fu x1 x2) m := by
  obtain ⟨n, c, k, t, h⟩ := h
  have hp := h.2.1.1
  have hn := h.1.1.1
  have hc := hp.1
  have hs : 46 ∈ stL := by decide
  have h3 : gI (sI m 96 0 0) 96 3 = nI n := h.1.1.2.1
  have h16 : gI (sI m 96 0 0) 96 16 = nI c := hp.2.1
  unfold okC f_X10_hand f_X11_hand
  have nope : (∃ m1, (hBd (f_X4_has fu x1 m) fun y1 m2 => if y1 = 0 then some ((-1), m2) else (hBd (f_X0_has fu x2 m2) fun y4 m5 => if ¬ y4 = 0 then (if (((gI m5 46 1) >>> (x1 &&& 31)) &&& 1) = 1 then some ((-1), m5) else (if hIn x1 8 then (if ¬ (gI m5 47 (Int32.toNatClampNeg x1)) = x2 then (hBd (f_X8_handTo fu 46 x1 x2 (gI m5 46 0) m5) fun y10 m11 => some (y10, m11)) else some ((-1), m5)) else none)) else some ((-1), m5))) = some ((-1 : Int32), m1) ∧ m1 = m) → (hLet (sI m 96 0 0) fun m1 => hBd (f_X11_isPiece fu x1 m1) fun y2 m3 => if y2 = 0 then some ((-1), m3) else (hBd (f_X11_isOffice fu x2 m3) fun y5 m6 => if y5 = 0 then some ((-1), m6) else (hBd (f_X11_isDone fu x1 m6) fun y8 m9 => if ¬ y8 = 0 then some ((-1), m9) else (if hIn (3 + x1) 127 then (if ¬ (gI m9 114 (Int32.toNatClampNeg (3 + x1))) = x2 then (hBd (f_X11_hands fu x1 x2 (gI m9 114 0) m9) fun y13 m14 => some (y13, m14)) else some ((-1), m9)) else none)))) = some ((-1 : Int32), sI m 96 0 0) → okC (f_X10_hand fu x1 x2) (f_X11_hand fu x1 x2) m := by
    rintro ⟨m1, a1, rfl⟩ a2
    exact ⟨-1, _, _, a1, a2, h.th rfl rfl⟩
  by_cases c1 : hIn x1 c
  rotate_left
  · refine nope ⟨m, ?_, rfl⟩ ?_
    · rw [cx_hasP fu x1 m (by omega) h.2.1.2.1.1, hBd_some, if_neg c1, if_pos rfl]
    · rw [hLet_n, rx_isPiece fu x1 _ (by omega) h16, hBd_some, if_neg c1, if_pos rfl]
  by_cases c2 : hIn x2 n
  rotate_left
  · refine nope ⟨m, ?_, rfl⟩ ?_
    · rw [cx_hasP fu x1 m (by omega) h.2.1.2.1.1, hBd_some, if_pos c1, if_neg (by decide), cx_has fu x2 m (by omega) h.1.2.1, hBd_some, if_neg c2, if_neg (by decide)]
    · rw [hLet_n, rx_isPiece fu x1 _ (by omega) h16, hBd_some, if_pos c1, if_neg (by decide), rx_isOffice fu x2 _ (by omega) h3, hBd_some, if_neg c2, if_pos rfl]
  obtain ⟨p, hpc, rfl⟩ := hIn_of c1 (by omega)
  obtain ⟨o, ho, rfl⟩ := hIn_of c2 (by omega)
  have pc0 := h.2.2.2.2.1.2.2.2.2.2.1 p hpc
  have cp : (nI p).toNatClampNeg = p := nI_clamp (by omega)
  have hS0 : rS (sFn m) (sI m 96 0 0) := fun j hj => by rw [gI_sn (by omega)]; rfl
  have A : (hBd (f_X4_has fu (nI p) m) fun y1 m2 => if y1 = 0 then some ((-1), m2) else (hBd (f_X0_has fu (nI o) m2) fun y4 m5 => if ¬ y4 = 0 then (if (((gI m5 46 1) >>> (nI p &&& 31)) &&& 1) = 1 then some ((-1), m5) else (if hIn (nI p) 8 then (if ¬ (gI m5 47 (Int32.toNatClampNeg (nI p))) = nI o then (hBd (f_X8_handTo fu 46 (nI p) (nI o) (gI m5 46 0) m5) fun y10 m11 => some (y10, m11)) else some ((-1), m5)) else none)) else some ((-1), m5))) = if 0 ≤ (sFn m (35 + p)).toInt then some ((-1 : Int32), m) else if sFn m (3 + p) = nI o then some (-1, m) else hBd (f_X8_handTo fu 46 (nI p) (nI o) (sFn m 0) m) fun y10 m11 => some (y10, m11) := by
    rw [cx_hasP fu _ m (by omega) h.2.1.2.1.1, hBd_some, if_pos c1, if_neg (by decide), cx_has fu _ m (by omega) h.1.2.1, hBd_some, if_pos c2, if_pos (by decide), b_rd (show p < 32 by omega), pc0.2.2.2.2.2.2.2.2, if_pos (hIn_lt (show p < 8 by omega) (by omega)), cp, pc0.1, h.2.2.2.2.1.2.2.1]
    by_cases d : 0 ≤ (sFn m (35 + p)).toInt
    · rw [decide_eq_true d, if_pos (by decide), if_pos d]
    · rw [decide_eq_false d, if_neg (by decide), if_neg d]
      by_cases e : sFn m (3 + p) = nI o
      · rw [if_neg (fun z => z e), if_pos e]
      · rw [if_pos e, if_neg e]
  have B : (hLet (sI m 96 0 0) fun m1 => hBd (f_X11_isPiece fu (nI p) m1) fun y2 m3 => if y2 = 0 then some ((-1), m3) else (hBd (f_X11_isOffice fu (nI o) m3) fun y5 m6 => if y5 = 0 then some ((-1), m6) else (hBd (f_X11_isDone fu (nI p) m6) fun y8 m9 => if ¬ y8 = 0 then some ((-1), m9) else (if hIn (3 + nI p) 127 then (if ¬ (gI m9 114 (Int32.toNatClampNeg (3 + nI p))) = nI o then (hBd (f_X11_hands fu (nI p) (nI o) (gI m9 114 0) m9) fun y13 m14 => some (y13, m14)) else some ((-1), m9)) else none)))) = some ((-1 : Int32), sI m 96 0 0) ∨ True := Or.inr trivial
  clear B
  by_cases d : 0 ≤ (sFn m (35 + p)).toInt ∨ sFn m (3 + p) = nI o
  · refine nope ⟨m, ?_, rfl⟩ ?_
    · rw [A]
      rcases d with d | d
      · rw [if_pos d]
      · rw [if_pos d]; split <;> rfl
    · rw [hLet_n, rx_isPiece fu _ _ (by omega) h16, hBd_some, if_pos c1, if_neg (by decide), rx_isOffice fu _ _ (by omega) h3, hBd_some, if_pos c2, if_neg (by decide), rx_isDone fu hS0 (show p < 8 by omega), hBd_some, q_3, if_pos (hIn_lt (show 3 + p < 127 by omega) (by omega)), nI_clamp (show 3 + p < 2 ^ 31 by omega), hS0 _ (by omega)]
      by_cases d1 : 0 ≤ (sFn m (35 + p)).toInt
      · rw [if_pos d1, if_pos (by decide)]
      · rw [if_neg d1, if_neg (by decide), if_neg (fun z => z (d.resolve_left d1))]
  · have d1 : ¬ 0 ≤ (sFn m (35 + p)).toInt := fun z => d (Or.inl z)
    have d2 : ¬ sFn m (3 + p) = nI o := fun z => d (Or.inr z)
    obtain ⟨x, hx, hxe⟩ := h.now
    obtain ⟨m1, r1, r2, r3⟩ := cx_handTo fu hs h.1.1 h.1.2 hc h.2.2.2.2.1.1 hpc ho (show x ≤ 2400 by omega) h.2.2.2.2.1.2
    have f1 : fr (PC 46) m m1 := r3.mono (fun a j z => Or.inl z)
    have k1 := PC_hi hs f1
    have hS1 : rS (sFn m) (sI m1 96 0 0) := fun j hj => by rw [gI_sn (by omega), k1 _ _ (by omega)]; rfl
    obtain ⟨m2, s1, s2, s3⟩ := rx_hands (show 100 ≤ fu by omega) h.1.1 hp h.2.2.2.2.1.1 hpc ho (show x ≤ 2400 by omega) (eqV_th (eqV_hi k1)) hS1
    refine ⟨lst m (sFn m (3 + p)).toNatClampNeg o x, m1, m2, ?_, ?_, h.sc (hnS_inv hc hn hpc ho h.2.2.2.2.1.1) f1 r2 (P := fun a j => a = 114 ∨ (a = 96 ∧ j = 0)) ((fr.rf.si (Or.inr ⟨rfl, rfl⟩)).tr (s3.mono (fun a j z => Or.inl z))) (fun a j z => ⟨by omega, fun y => by unfold rI at y; omega⟩) s2⟩
    · rw [A, if_neg d1, if_neg d2, hxe, r1, hBd_some]
    · rw [hLet_n, rx_isPiece fu _ _ (show c < 2 ^ 31 by omega) (by rw [gI_sn (by omega), k1 _ _ (by omega)]; exact hp.2.1), hBd_some, if_pos c1, if_neg (by decide), rx_isOffice fu _ _ (show n < 2 ^ 31 by omega) (by rw [gI_sn (by omega), k1 _ _ (by omega)]; exact h.1.1.2.1), hBd_some, if_pos c2, if_neg (by decide), rx_isDone fu hS1 (show p < 8 by omega), hBd_some, q_3, if_pos (hIn_lt (show 3 + p < 127 by omega) (by omega)), nI_clamp (show 3 + p < 2 ^ 31 by omega), hS1 _ (by omega), if_neg d1, if_neg (by decide), if_pos d2, hS1 0 (by omega), hxe, s1, hBd_some]
